theorem dX6_in_0 : decode cX6_in 0 = .ok (.iload_n 0, 1) := by decide +kernel
theorem dX6_in_1 : decode cX6_in 1 = .ok (.iload_n 1, 1) := by decide +kernel
theorem dX6_in_2 : decode cX6_in 2 = .ok (.if_icmp .lt 12, 3) := by decide +kernel
theorem dX6_in_5 : decode cX6_in 5 = .ok (.iload_n 0, 1) := by decide +kernel
theorem dX6_in_6 : decode cX6_in 6 = .ok (.iload_n 2, 1) := by decide +kernel
theorem dX6_in_7 : decode cX6_in 7 = .ok (.if_icmp .gt 7, 3) := by decide +kernel
theorem dX6_in_10 : decode cX6_in 10 = .ok (.iconst 1, 1) := by decide +kernel
theorem dX6_in_11 : decode cX6_in 11 = .ok (.goto 4, 3) := by decide +kernel
theorem dX6_in_14 : decode cX6_in 14 = .ok (.iconst 0, 1) := by decide +kernel
theorem dX6_in_15 : decode cX6_in 15 = .ok (.ireturn, 1) := by decide +kernel
theorem okX6_in : CalOK yX6_in cX6_in 3 (some .boolean) 3 := ⟨wd_73, wd_782, by decide +kernel⟩
theorem osX6_in : Cond.static yX6_in ∈ lw_gd := wd_781
def FX6_in (l0 : Int32) (l1 : Int32) (l2 : Int32) : Option Int32 :=
  if l0 < l1 then
    some (0 : Int32)
  else
    if l2 < l0 then
      some (0 : Int32)
    else
      some (1 : Int32)
set_option maxRecDepth 100000 in
set_option maxHeartbeats 4000000 in
theorem wX6_in {E : WE} {V : VT} {A : Nat → Prop} {H0 : Heap} {M : Mem} (Cx : CX E RX6 cX6_in 3 0 0) {r : Int32} (hret : RetI E V A H0 cX6_in .boolean r M) {H : Heap} {locs : List Loc} {ls : Array Slot} {l0 : Int32} {l1 : Int32} {l2 : Int32} (hW : Wd V A H0 M (eS E) H locs) (hl : lv_has ls 3 [(0, .int l0), (1, .int l1), (2, .int l2)]) (hF : FX6_in l0 l1 l2 = some r) : Wq E H locs 0 ls [] := by
  unfold FX6_in at hF
  refine q_iload_n Cx dX6_in_0 rfl (lv_at hl 0 rfl) ?_
  refine q_iload_n Cx dX6_in_1 rfl (lv_at hl 1 rfl) ?_
  refine q_icmp_lt (tgt := 14) Cx dX6_in_2 (by decide) (fun c1 => ?_) (fun c1 => ?_)
  · have hF := (if_pos c1).symm.trans hF
    refine q_iconst (v := (0 : Int32)) Cx dX6_in_14 (by decide) ?_
    obtain rfl := Option.some.inj hF
    exact hret _ _ _ _ dX6_in_15 (by rfl) hW
  · have hF := (if_neg c1).symm.trans hF
    refine q_iload_n Cx dX6_in_5 rfl (lv_at hl 0 rfl) ?_
    refine q_iload_n Cx dX6_in_6 rfl (lv_at hl 2 rfl) ?_
    refine q_icmp_gt (tgt := 14) Cx dX6_in_7 (by decide) (fun c2 => ?_) (fun c2 => ?_)
    · have hF := (if_pos c2).symm.trans hF
      refine q_iconst (v := (0 : Int32)) Cx dX6_in_14 (by decide) ?_
      obtain rfl := Option.some.inj hF
      exact hret _ _ _ _ dX6_in_15 (by rfl) hW
    · have hF := (if_neg c2).symm.trans hF
      refine q_iconst (v := (1 : Int32)) Cx dX6_in_10 (by decide) ?_
      refine q_goto (tgt := 15) Cx dX6_in_11 (by decide) ?_
      obtain rfl := Option.some.inj hF
      exact hret _ _ _ _ dX6_in_15 (by rfl) hW
set_option maxRecDepth 100000 in
theorem kX6_in {l : Launch} {V : VT} {M : Mem} {l0 : Int32} {l1 : Int32} {l2 : Int32} {r : Int32} (hF : FX6_in l0 l1 l2 = some r) : MetI l V yX6_in cX6_in 3 .boolean ({ frames := 0, cells := 0, slots := 0, locals := 0 } : Room) [.int l0, .int l1, .int l2] r M M := metI_of (by decide) (Nat.le_of_ble_eq_true rfl) (fun E H0 _ Cx hret H locs ls hW hl => wX6_in Cx hret hW hl hF)
theorem dX6_record_0 : decode cX6_record 0 = .ok (.aload_n 0, 1) := by decide +kernel
theorem dX6_record_1 : decode cX6_record 1 = .ok (.getfield 49, 3) := by decide +kernel
theorem dX6_record_4 : decode cX6_record 4 = .ok (.ifCond .eq 4, 3) := by decide +kernel
theorem dX6_record_7 : decode cX6_record 7 = .ok (.return_, 1) := by decide +kernel
theorem dX6_record_8 : decode cX6_record 8 = .ok (.aload_n 0, 1) := by decide +kernel
theorem dX6_record_9 : decode cX6_record 9 = .ok (.getfield 53, 3) := by decide +kernel
theorem dX6_record_12 : decode cX6_record 12 = .ok (.bipush 6, 2) := by decide +kernel
theorem dX6_record_14 : decode cX6_record 14 = .ok (.if_icmp .ne 44, 3) := by decide +kernel
theorem dX6_record_17 : decode cX6_record 17 = .ok (.iconst 0, 1) := by decide +kernel
theorem dX6_record_18 : decode cX6_record 18 = .ok (.istore_n 1, 1) := by decide +kernel
theorem dX6_record_19 : decode cX6_record 19 = .ok (.iload_n 1, 1) := by decide +kernel
theorem dX6_record_20 : decode cX6_record 20 = .ok (.sipush 1780, 3) := by decide +kernel
theorem dX6_record_23 : decode cX6_record 23 = .ok (.if_icmp .ge 25, 3) := by decide +kernel
theorem dX6_record_26 : decode cX6_record 26 = .ok (.aload_n 0, 1) := by decide +kernel
theorem dX6_record_27 : decode cX6_record 27 = .ok (.getfield 13, 3) := by decide +kernel
theorem dX6_record_30 : decode cX6_record 30 = .ok (.iload_n 1, 1) := by decide +kernel
theorem dX6_record_31 : decode cX6_record 31 = .ok (.aload_n 0, 1) := by decide +kernel
theorem dX6_record_32 : decode cX6_record 32 = .ok (.getfield 13, 3) := by decide +kernel
theorem dX6_record_35 : decode cX6_record 35 = .ok (.iload_n 1, 1) := by decide +kernel
theorem dX6_record_36 : decode cX6_record 36 = .ok (.sipush 356, 3) := by decide +kernel
theorem dX6_record_39 : decode cX6_record 39 = .ok (.iadd, 1) := by decide +kernel
theorem dX6_record_40 : decode cX6_record 40 = .ok (.iaload, 1) := by decide +kernel
theorem dX6_record_41 : decode cX6_record 41 = .ok (.iastore, 1) := by decide +kernel
theorem dX6_record_42 : decode cX6_record 42 = .ok (.iinc 1 1, 3) := by decide +kernel
theorem dX6_record_45 : decode cX6_record 45 = .ok (.goto (-26), 3) := by decide +kernel
theorem dX6_record_48 : decode cX6_record 48 = .ok (.aload_n 0, 1) := by decide +kernel
theorem dX6_record_49 : decode cX6_record 49 = .ok (.dup, 1) := by decide +kernel
theorem dX6_record_50 : decode cX6_record 50 = .ok (.getfield 53, 3) := by decide +kernel
theorem dX6_record_53 : decode cX6_record 53 = .ok (.iconst 1, 1) := by decide +kernel
theorem dX6_record_54 : decode cX6_record 54 = .ok (.isub, 1) := by decide +kernel
theorem dX6_record_55 : decode cX6_record 55 = .ok (.putfield 53, 3) := by decide +kernel
theorem dX6_record_58 : decode cX6_record 58 = .ok (.iconst 0, 1) := by decide +kernel
theorem dX6_record_59 : decode cX6_record 59 = .ok (.istore_n 1, 1) := by decide +kernel
theorem dX6_record_60 : decode cX6_record 60 = .ok (.iload_n 1, 1) := by decide +kernel
theorem dX6_record_61 : decode cX6_record 61 = .ok (.sipush 356, 3) := by decide +kernel
theorem dX6_record_64 : decode cX6_record 64 = .ok (.if_icmp .ge 30, 3) := by decide +kernel
theorem dX6_record_67 : decode cX6_record 67 = .ok (.aload_n 0, 1) := by decide +kernel
theorem dX6_record_68 : decode cX6_record 68 = .ok (.getfield 13, 3) := by decide +kernel
theorem dX6_record_71 : decode cX6_record 71 = .ok (.aload_n 0, 1) := by decide +kernel
theorem dX6_record_72 : decode cX6_record 72 = .ok (.getfield 53, 3) := by decide +kernel
theorem dX6_record_75 : decode cX6_record 75 = .ok (.sipush 356, 3) := by decide +kernel
theorem dX6_record_78 : decode cX6_record 78 = .ok (.imul, 1) := by decide +kernel
theorem dX6_record_79 : decode cX6_record 79 = .ok (.iload_n 1, 1) := by decide +kernel
theorem dX6_record_80 : decode cX6_record 80 = .ok (.iadd, 1) := by decide +kernel
theorem dX6_record_81 : decode cX6_record 81 = .ok (.aload_n 0, 1) := by decide +kernel
theorem dX6_record_82 : decode cX6_record 82 = .ok (.getfield 7, 3) := by decide +kernel
theorem dX6_record_85 : decode cX6_record 85 = .ok (.iload_n 1, 1) := by decide +kernel
theorem dX6_record_86 : decode cX6_record 86 = .ok (.iaload, 1) := by decide +kernel
theorem dX6_record_87 : decode cX6_record 87 = .ok (.iastore, 1) := by decide +kernel
theorem dX6_record_88 : decode cX6_record 88 = .ok (.iinc 1 1, 3) := by decide +kernel
theorem dX6_record_91 : decode cX6_record 91 = .ok (.goto (-31), 3) := by decide +kernel
theorem dX6_record_94 : decode cX6_record 94 = .ok (.aload_n 0, 1) := by decide +kernel
theorem dX6_record_95 : decode cX6_record 95 = .ok (.dup, 1) := by decide +kernel
theorem dX6_record_96 : decode cX6_record 96 = .ok (.getfield 53, 3) := by decide +kernel
theorem dX6_record_99 : decode cX6_record 99 = .ok (.iconst 1, 1) := by decide +kernel
theorem dX6_record_100 : decode cX6_record 100 = .ok (.iadd, 1) := by decide +kernel
theorem dX6_record_101 : decode cX6_record 101 = .ok (.putfield 53, 3) := by decide +kernel
theorem dX6_record_104 : decode cX6_record 104 = .ok (.return_, 1) := by decide +kernel
theorem okX6_record : CalOK yX6_record cX6_record 2 (none) 0 := ⟨wd_73, wd_790, by decide +kernel⟩
theorem ovX6_record : VirOK yX6_record := ⟨wd_789, wd_25⟩
def FX6_record_60s (k60 : Int32 → Blk → Option Blk) (l1 : Int32) (B : Blk) : Option Blk :=
  if (356 : Int32) ≤ l1 then
    lt1 (bs B 0 5 (((B 0) 5) + (1 : Int32))) fun B4 =>
    some B4
  else
    ld (B 1) 356 l1 fun v6 =>
    stb B 2 2136 ((((B 0) 5) * (356 : Int32)) + l1) v6 fun B9 =>
    lt1 (l1 + (1 : Int32)) fun x12 =>
    k60 x12 B9
set_option maxRecDepth 100000 in
set_option maxHeartbeats 4000000 in
theorem wX6_record_60s {E : WE} {V : VT} {A : Nat → Prop} {H0 : Heap} {M : Mem} (Cx : CX E RX6 cX6_record 2 0 0) {B' : Blk} (hret : RetV E V A H0 cX6_record (jb M 12 B')) {k60 : Int32 → Blk → Option Blk} (hk60 : ∀ {H : Heap} {locs : List Loc} {ls : Array Slot} {B : Blk} {l1 : Int32}, Wd V A H0 (jb M 12 B) (eS E) H locs → lv_has ls 2 [(0, .ref (vA V 12 0)), (1, .int l1)] → k60 l1 B = some B' → Wq E H locs 60 ls []) {H : Heap} {locs : List Loc} {ls : Array Slot} {l1 : Int32} {B : Blk} (hW : Wd V A H0 (jb M 12 B) (eS E) H locs) (hl : lv_has ls 2 [(0, .ref (vA V 12 0)), (1, .int l1)]) (hF : FX6_record_60s k60 l1 B = some B') : Wq E H locs 60 ls [] := by
  unfold FX6_record_60s at hF
  refine q_iload_n Cx dX6_record_60 rfl (lv_at hl 1 rfl) ?_
  refine q_sipush (v := (356 : Int32)) Cx dX6_record_61 (by decide) ?_
  refine q_icmp_ge (tgt := 94) Cx dX6_record_64 (by decide) (fun c3 => ?_) (fun c3 => ?_)
  · have hF := (if_pos c3).symm.trans hF
    refine q_aload_n Cx dX6_record_94 rfl (lv_at hl 0 rfl) ?_
    refine q_dup Cx dX6_record_95 rfl ?_
    refine qb_get (v := .int ((B 0) 5)) Cx hW oZ ic6 5 (by decide) rfl wd_719 dX6_record_96 ?_
    refine q_iconst (v := (1 : Int32)) Cx dX6_record_99 (by decide) ?_
    refine q_iadd Cx dX6_record_100 ?_
    obtain ⟨B4, e5, hF⟩ := lt1_some hF
    refine qb_put Cx hW oZ ic6 5 (by decide) (Nat.le_of_ble_eq_true rfl) e5 rfl rfl ⟨nI32 _, rfl⟩ wd_719 dX6_record_101 (fun H locs hW => ?_)
    obtain rfl := Option.some.inj hF
    exact hret _ _ _ _ dX6_record_104 hW
  · have hF := (if_neg c3).symm.trans hF
    refine q_aload_n Cx dX6_record_67 rfl (lv_at hl 0 rfl) ?_
    refine q_get (v := .ref (vA V 12 2)) Cx hW oZ ic6 1 (by decide) rfl wd_715 dX6_record_68 ?_
    refine q_aload_n Cx dX6_record_71 rfl (lv_at hl 0 rfl) ?_
    refine qb_get (v := .int ((B 0) 5)) Cx hW oZ ic6 5 (by decide) rfl wd_719 dX6_record_72 ?_
    refine q_sipush (v := (356 : Int32)) Cx dX6_record_75 (by decide) ?_
    refine q_imul Cx dX6_record_78 ?_
    refine q_iload_n Cx dX6_record_79 rfl (lv_at hl 1 rfl) ?_
    refine q_iadd Cx dX6_record_80 ?_
    refine q_aload_n Cx dX6_record_81 rfl (lv_at hl 0 rfl) ?_
    refine q_get (v := .ref (vA V 12 1)) Cx hW oZ ic6 0 (by decide) rfl wd_714 dX6_record_82 ?_
    refine q_iload_n Cx dX6_record_85 rfl (lv_at hl 1 rfl) ?_
    obtain ⟨h7, v6, e8, hF⟩ := ld_some hF
    refine qb_iald Cx hW az_1 h7 e8 dX6_record_86 ?_
    obtain ⟨h10, B9, e11, hF⟩ := stb_some hF
    refine qb_iast Cx hW az_2 h10 e11 dX6_record_87 (fun H locs hW => ?_)
    obtain ⟨x12, e13, hF⟩ := lt1_some hF
    refine q_iinc (k := 1) (v := x12) (lv' := [(1, .int x12), (0, .ref (vA V 12 0))]) Cx dX6_record_88 hl rfl e13.symm (by decide) rfl (fun ls hl => ?_)
    refine q_goto (tgt := 60) Cx dX6_record_91 (by decide) ?_
    exact hk60 hW (lv_sub hl [1, 0] rfl) hF
def FX6_record_60 : Nat → Int32 → Blk → Option Blk
  | 0 => fun _ _ => none
  | n + 1 => FX6_record_60s (FX6_record_60 n)
set_option maxRecDepth 100000 in
theorem wX6_record_60 {E : WE} {V : VT} {A : Nat → Prop} {H0 : Heap} {M : Mem} (Cx : CX E RX6 cX6_record 2 0 0) {B' : Blk} (hret : RetV E V A H0 cX6_record (jb M 12 B')) : ∀ (n : Nat) {H : Heap} {locs : List Loc} {ls : Array Slot} {l1 : Int32} {B : Blk}, Wd V A H0 (jb M 12 B) (eS E) H locs → lv_has ls 2 [(0, .ref (vA V 12 0)), (1, .int l1)] → FX6_record_60 n l1 B = some B' → Wq E H locs 60 ls [] := by
  intro n
  induction n with
  | zero => intro _ _ _ _ _ hW hl hF; cases hF
  | succ n ih => intro _ _ _ _ _ hW hl hF; exact wX6_record_60s Cx hret ih hW hl hF
def FX6_record_19s (k19 : Int32 → Blk → Option Blk) (l1 : Int32) (B : Blk) : Option Blk :=
  if (1780 : Int32) ≤ l1 then
    lt1 (bs B 0 5 (((B 0) 5) - (1 : Int32))) fun B15 =>
    FX6_record_60 fu (0 : Int32) B15
  else
    ld (B 2) 2136 (l1 + (356 : Int32)) fun v17 =>
    stb B 2 2136 l1 v17 fun B20 =>
    lt1 (l1 + (1 : Int32)) fun x23 =>
    k19 x23 B20
set_option maxRecDepth 100000 in
set_option maxHeartbeats 4000000 in
theorem wX6_record_19s {E : WE} {V : VT} {A : Nat → Prop} {H0 : Heap} {M : Mem} (Cx : CX E RX6 cX6_record 2 0 0) {B' : Blk} (hret : RetV E V A H0 cX6_record (jb M 12 B')) {k19 : Int32 → Blk → Option Blk} (hk19 : ∀ {H : Heap} {locs : List Loc} {ls : Array Slot} {B : Blk} {l1 : Int32}, Wd V A H0 (jb M 12 B) (eS E) H locs → lv_has ls 2 [(0, .ref (vA V 12 0)), (1, .int l1)] → k19 l1 B = some B' → Wq E H locs 19 ls []) {H : Heap} {locs : List Loc} {ls : Array Slot} {l1 : Int32} {B : Blk} (hW : Wd V A H0 (jb M 12 B) (eS E) H locs) (hl : lv_has ls 2 [(0, .ref (vA V 12 0)), (1, .int l1)]) (hF : FX6_record_19s k19 l1 B = some B') : Wq E H locs 19 ls [] := by
  unfold FX6_record_19s at hF
  refine q_iload_n Cx dX6_record_19 rfl (lv_at hl 1 rfl) ?_
  refine q_sipush (v := (1780 : Int32)) Cx dX6_record_20 (by decide) ?_
  refine q_icmp_ge (tgt := 48) Cx dX6_record_23 (by decide) (fun c14 => ?_) (fun c14 => ?_)
  · have hF := (if_pos c14).symm.trans hF
    refine q_aload_n Cx dX6_record_48 rfl (lv_at hl 0 rfl) ?_
    refine q_dup Cx dX6_record_49 rfl ?_
    refine qb_get (v := .int ((B 0) 5)) Cx hW oZ ic6 5 (by decide) rfl wd_719 dX6_record_50 ?_
    refine q_iconst (v := (1 : Int32)) Cx dX6_record_53 (by decide) ?_
    refine q_isub Cx dX6_record_54 ?_
    obtain ⟨B15, e16, hF⟩ := lt1_some hF
    refine qb_put Cx hW oZ ic6 5 (by decide) (Nat.le_of_ble_eq_true rfl) e16 rfl rfl ⟨nI32 _, rfl⟩ wd_719 dX6_record_55 (fun H locs hW => ?_)
    refine q_iconst (v := (0 : Int32)) Cx dX6_record_58 (by decide) ?_
    refine q_istore_n (lv' := [(1, .int (0 : Int32)), (0, .ref (vA V 12 0))]) Cx dX6_record_59 rfl hl (by decide) rfl (fun ls hl => ?_)
    exact wX6_record_60 Cx hret fu hW (lv_sub hl [1, 0] rfl) hF
  · have hF := (if_neg c14).symm.trans hF
    refine q_aload_n Cx dX6_record_26 rfl (lv_at hl 0 rfl) ?_
    refine q_get (v := .ref (vA V 12 2)) Cx hW oZ ic6 1 (by decide) rfl wd_715 dX6_record_27 ?_
    refine q_iload_n Cx dX6_record_30 rfl (lv_at hl 1 rfl) ?_
    refine q_aload_n Cx dX6_record_31 rfl (lv_at hl 0 rfl) ?_
    refine q_get (v := .ref (vA V 12 2)) Cx hW oZ ic6 1 (by decide) rfl wd_715 dX6_record_32 ?_
    refine q_iload_n Cx dX6_record_35 rfl (lv_at hl 1 rfl) ?_
    refine q_sipush (v := (356 : Int32)) Cx dX6_record_36 (by decide) ?_
    refine q_iadd Cx dX6_record_39 ?_
    obtain ⟨h18, v17, e19, hF⟩ := ld_some hF
    refine qb_iald Cx hW az_2 h18 e19 dX6_record_40 ?_
    obtain ⟨h21, B20, e22, hF⟩ := stb_some hF
    refine qb_iast Cx hW az_2 h21 e22 dX6_record_41 (fun H locs hW => ?_)
    obtain ⟨x23, e24, hF⟩ := lt1_some hF
    refine q_iinc (k := 1) (v := x23) (lv' := [(1, .int x23), (0, .ref (vA V 12 0))]) Cx dX6_record_42 hl rfl e24.symm (by decide) rfl (fun ls hl => ?_)
    refine q_goto (tgt := 19) Cx dX6_record_45 (by decide) ?_
    exact hk19 hW (lv_sub hl [1, 0] rfl) hF
def FX6_record_19 : Nat → Int32 → Blk → Option Blk
  | 0 => fun _ _ => none
  | n + 1 => FX6_record_19s (FX6_record_19 n)
set_option maxRecDepth 100000 in
theorem wX6_record_19 {E : WE} {V : VT} {A : Nat → Prop} {H0 : Heap} {M : Mem} (Cx : CX E RX6 cX6_record 2 0 0) {B' : Blk} (hret : RetV E V A H0 cX6_record (jb M 12 B')) : ∀ (n : Nat) {H : Heap} {locs : List Loc} {ls : Array Slot} {l1 : Int32} {B : Blk}, Wd V A H0 (jb M 12 B) (eS E) H locs → lv_has ls 2 [(0, .ref (vA V 12 0)), (1, .int l1)] → FX6_record_19 n l1 B = some B' → Wq E H locs 19 ls [] := by
  intro n
  induction n with
  | zero => intro _ _ _ _ _ hW hl hF; cases hF
  | succ n ih => intro _ _ _ _ _ hW hl hF; exact wX6_record_19s Cx hret ih hW hl hF
def FX6_record (B : Blk) : Option Blk :=
  if ((B 0) 6) = 0 then
    if ((B 0) 5) = (6 : Int32) then
      FX6_record_19 fu (0 : Int32) B
    else
      FX6_record_60 fu (0 : Int32) B
  else
    some B
set_option maxRecDepth 100000 in
set_option maxHeartbeats 4000000 in
theorem wX6_record {E : WE} {V : VT} {A : Nat → Prop} {H0 : Heap} {M : Mem} (Cx : CX E RX6 cX6_record 2 0 0) {B' : Blk} (hret : RetV E V A H0 cX6_record (jb M 12 B')) {H : Heap} {locs : List Loc} {ls : Array Slot} {B : Blk} (hW : Wd V A H0 (jb M 12 B) (eS E) H locs) (hl : lv_has ls 2 [(0, .ref (vA V 12 0))]) (hF : FX6_record B = some B') : Wq E H locs 0 ls [] := by
  unfold FX6_record at hF
  refine q_aload_n Cx dX6_record_0 rfl (lv_at hl 0 rfl) ?_
  refine qb_get (v := .int ((B 0) 6)) Cx hW oZ ic6 6 (by decide) rfl wd_720 dX6_record_1 ?_
  refine q_if_eq (tgt := 8) Cx dX6_record_4 (by decide) (fun c1 => ?_) (fun c1 => ?_)
  · have hF := (if_pos c1).symm.trans hF
    refine q_aload_n Cx dX6_record_8 rfl (lv_at hl 0 rfl) ?_
    refine qb_get (v := .int ((B 0) 5)) Cx hW oZ ic6 5 (by decide) rfl wd_719 dX6_record_9 ?_
    refine q_bipush (v := (6 : Int32)) Cx dX6_record_12 (by decide) ?_
    refine q_icmp_ne (tgt := 58) Cx dX6_record_14 (by decide) (fun c2 => ?_) (fun c2 => ?_)
    · have hF := (if_neg c2).symm.trans hF
      refine q_iconst (v := (0 : Int32)) Cx dX6_record_58 (by decide) ?_
      refine q_istore_n (lv' := [(1, .int (0 : Int32)), (0, .ref (vA V 12 0))]) Cx dX6_record_59 rfl hl (by decide) rfl (fun ls hl => ?_)
      exact wX6_record_60 Cx hret fu hW (lv_sub hl [1, 0] rfl) hF
    · have hF := (if_pos c2).symm.trans hF
      refine q_iconst (v := (0 : Int32)) Cx dX6_record_17 (by decide) ?_
      refine q_istore_n (lv' := [(1, .int (0 : Int32)), (0, .ref (vA V 12 0))]) Cx dX6_record_18 rfl hl (by decide) rfl (fun ls hl => ?_)
      exact wX6_record_19 Cx hret fu hW (lv_sub hl [1, 0] rfl) hF
  · have hF := (if_neg c1).symm.trans hF
    obtain rfl := Option.some.inj hF
    exact hret _ _ _ _ dX6_record_7 hW
set_option maxRecDepth 100000 in
theorem kX6_record {l : Launch} {V : VT} {M : Mem} {B : Blk} {B' : Blk} (hF : FX6_record B = some B') : MetV l V yX6_record cX6_record 2 ({ frames := 0, cells := 0, slots := 0, locals := 0 } : Room) [.ref (vA V 12 0)] (jb M 12 B) (jb M 12 B') := metV_of (by decide) (Nat.le_of_ble_eq_true rfl) (fun E H0 _ Cx hret H locs ls hW hl => wX6_record Cx hret hW hl hF)
theorem dX6_undo_0 : decode cX6_undo 0 = .ok (.aload_n 0, 1) := by decide +kernel
theorem dX6_undo_1 : decode cX6_undo 1 = .ok (.getfield 53, 3) := by decide +kernel
theorem dX6_undo_4 : decode cX6_undo 4 = .ok (.ifCond .ne 6, 3) := by decide +kernel
theorem dX6_undo_7 : decode cX6_undo 7 = .ok (.bipush (-5), 2) := by decide +kernel
theorem dX6_undo_9 : decode cX6_undo 9 = .ok (.ireturn, 1) := by decide +kernel
theorem dX6_undo_10 : decode cX6_undo 10 = .ok (.aload_n 0, 1) := by decide +kernel
theorem dX6_undo_11 : decode cX6_undo 11 = .ok (.dup, 1) := by decide +kernel
theorem dX6_undo_12 : decode cX6_undo 12 = .ok (.getfield 53, 3) := by decide +kernel
theorem dX6_undo_15 : decode cX6_undo 15 = .ok (.iconst 1, 1) := by decide +kernel
theorem dX6_undo_16 : decode cX6_undo 16 = .ok (.isub, 1) := by decide +kernel
theorem dX6_undo_17 : decode cX6_undo 17 = .ok (.putfield 53, 3) := by decide +kernel
theorem dX6_undo_20 : decode cX6_undo 20 = .ok (.iconst 0, 1) := by decide +kernel
theorem dX6_undo_21 : decode cX6_undo 21 = .ok (.istore_n 1, 1) := by decide +kernel
theorem dX6_undo_22 : decode cX6_undo 22 = .ok (.iload_n 1, 1) := by decide +kernel
theorem dX6_undo_23 : decode cX6_undo 23 = .ok (.sipush 356, 3) := by decide +kernel
theorem dX6_undo_26 : decode cX6_undo 26 = .ok (.if_icmp .ge 30, 3) := by decide +kernel
theorem dX6_undo_29 : decode cX6_undo 29 = .ok (.aload_n 0, 1) := by decide +kernel
theorem dX6_undo_30 : decode cX6_undo 30 = .ok (.getfield 7, 3) := by decide +kernel
theorem dX6_undo_33 : decode cX6_undo 33 = .ok (.iload_n 1, 1) := by decide +kernel
theorem dX6_undo_34 : decode cX6_undo 34 = .ok (.aload_n 0, 1) := by decide +kernel
theorem dX6_undo_35 : decode cX6_undo 35 = .ok (.getfield 13, 3) := by decide +kernel
theorem dX6_undo_38 : decode cX6_undo 38 = .ok (.aload_n 0, 1) := by decide +kernel
theorem dX6_undo_39 : decode cX6_undo 39 = .ok (.getfield 53, 3) := by decide +kernel
theorem dX6_undo_42 : decode cX6_undo 42 = .ok (.sipush 356, 3) := by decide +kernel
theorem dX6_undo_45 : decode cX6_undo 45 = .ok (.imul, 1) := by decide +kernel
theorem dX6_undo_46 : decode cX6_undo 46 = .ok (.iload_n 1, 1) := by decide +kernel
theorem dX6_undo_47 : decode cX6_undo 47 = .ok (.iadd, 1) := by decide +kernel
theorem dX6_undo_48 : decode cX6_undo 48 = .ok (.iaload, 1) := by decide +kernel
theorem dX6_undo_49 : decode cX6_undo 49 = .ok (.iastore, 1) := by decide +kernel
theorem dX6_undo_50 : decode cX6_undo 50 = .ok (.iinc 1 1, 3) := by decide +kernel
theorem dX6_undo_53 : decode cX6_undo 53 = .ok (.goto (-31), 3) := by decide +kernel
theorem dX6_undo_56 : decode cX6_undo 56 = .ok (.aload_n 0, 1) := by decide +kernel
theorem dX6_undo_57 : decode cX6_undo 57 = .ok (.getfield 53, 3) := by decide +kernel
theorem dX6_undo_60 : decode cX6_undo 60 = .ok (.ireturn, 1) := by decide +kernel
theorem okX6_undo : CalOK yX6_undo cX6_undo 2 (some .int) 0 := ⟨wd_73, wd_775, by decide +kernel⟩
theorem ovX6_undo : VirOK yX6_undo := ⟨wd_773, wd_774⟩
def FX6_undo_22s (k22 : Int32 → Blk → Option (Int32 × Blk)) (l1 : Int32) (B : Blk) : Option (Int32 × Blk) :=
  if (356 : Int32) ≤ l1 then
    some (((B 0) 5), B)
  else
    ld (B 2) 2136 ((((B 0) 5) * (356 : Int32)) + l1) fun v5 =>
    stb B 1 356 l1 v5 fun B8 =>
    lt1 (l1 + (1 : Int32)) fun x11 =>
    k22 x11 B8
set_option maxRecDepth 100000 in
set_option maxHeartbeats 4000000 in
theorem wX6_undo_22s {E : WE} {V : VT} {A : Nat → Prop} {H0 : Heap} {M : Mem} (Cx : CX E RX6 cX6_undo 2 0 0) {r : Int32} {B' : Blk} (hret : RetI E V A H0 cX6_undo .int r (jb M 12 B')) {k22 : Int32 → Blk → Option (Int32 × Blk)} (hk22 : ∀ {H : Heap} {locs : List Loc} {ls : Array Slot} {B : Blk} {l1 : Int32}, Wd V A H0 (jb M 12 B) (eS E) H locs → lv_has ls 2 [(0, .ref (vA V 12 0)), (1, .int l1)] → k22 l1 B = some (r, B') → Wq E H locs 22 ls []) {H : Heap} {locs : List Loc} {ls : Array Slot} {l1 : Int32} {B : Blk} (hW : Wd V A H0 (jb M 12 B) (eS E) H locs) (hl : lv_has ls 2 [(0, .ref (vA V 12 0)), (1, .int l1)]) (hF : FX6_undo_22s k22 l1 B = some (r, B')) : Wq E H locs 22 ls [] := by
  unfold FX6_undo_22s at hF
  refine q_iload_n Cx dX6_undo_22 rfl (lv_at hl 1 rfl) ?_
  refine q_sipush (v := (356 : Int32)) Cx dX6_undo_23 (by decide) ?_
  refine q_icmp_ge (tgt := 56) Cx dX6_undo_26 (by decide) (fun c4 => ?_) (fun c4 => ?_)
  · have hF := (if_pos c4).symm.trans hF
    refine q_aload_n Cx dX6_undo_56 rfl (lv_at hl 0 rfl) ?_
    refine qb_get (v := .int ((B 0) 5)) Cx hW oZ ic6 5 (by decide) rfl wd_719 dX6_undo_57 ?_
    obtain ⟨rfl, rfl⟩ := Prod.mk.inj (Option.some.inj hF)
    exact hret _ _ _ _ dX6_undo_60 (nI32 _) hW
  · have hF := (if_neg c4).symm.trans hF
    refine q_aload_n Cx dX6_undo_29 rfl (lv_at hl 0 rfl) ?_
    refine q_get (v := .ref (vA V 12 1)) Cx hW oZ ic6 0 (by decide) rfl wd_714 dX6_undo_30 ?_
    refine q_iload_n Cx dX6_undo_33 rfl (lv_at hl 1 rfl) ?_
    refine q_aload_n Cx dX6_undo_34 rfl (lv_at hl 0 rfl) ?_
    refine q_get (v := .ref (vA V 12 2)) Cx hW oZ ic6 1 (by decide) rfl wd_715 dX6_undo_35 ?_
    refine q_aload_n Cx dX6_undo_38 rfl (lv_at hl 0 rfl) ?_
    refine qb_get (v := .int ((B 0) 5)) Cx hW oZ ic6 5 (by decide) rfl wd_719 dX6_undo_39 ?_
    refine q_sipush (v := (356 : Int32)) Cx dX6_undo_42 (by decide) ?_
    refine q_imul Cx dX6_undo_45 ?_
    refine q_iload_n Cx dX6_undo_46 rfl (lv_at hl 1 rfl) ?_
    refine q_iadd Cx dX6_undo_47 ?_
    obtain ⟨h6, v5, e7, hF⟩ := ld_some hF
    refine qb_iald Cx hW az_2 h6 e7 dX6_undo_48 ?_
    obtain ⟨h9, B8, e10, hF⟩ := stb_some hF
    refine qb_iast Cx hW az_1 h9 e10 dX6_undo_49 (fun H locs hW => ?_)
    obtain ⟨x11, e12, hF⟩ := lt1_some hF
    refine q_iinc (k := 1) (v := x11) (lv' := [(1, .int x11), (0, .ref (vA V 12 0))]) Cx dX6_undo_50 hl rfl e12.symm (by decide) rfl (fun ls hl => ?_)
    refine q_goto (tgt := 22) Cx dX6_undo_53 (by decide) ?_
    exact hk22 hW (lv_sub hl [1, 0] rfl) hF
def FX6_undo_22 : Nat → Int32 → Blk → Option (Int32 × Blk)
  | 0 => fun _ _ => none
  | n + 1 => FX6_undo_22s (FX6_undo_22 n)
set_option maxRecDepth 100000 in
theorem wX6_undo_22 {E : WE} {V : VT} {A : Nat → Prop} {H0 : Heap} {M : Mem} (Cx : CX E RX6 cX6_undo 2 0 0) {r : Int32} {B' : Blk} (hret : RetI E V A H0 cX6_undo .int r (jb M 12 B')) : ∀ (n : Nat) {H : Heap} {locs : List Loc} {ls : Array Slot} {l1 : Int32} {B : Blk}, Wd V A H0 (jb M 12 B) (eS E) H locs → lv_has ls 2 [(0, .ref (vA V 12 0)), (1, .int l1)] → FX6_undo_22 n l1 B = some (r, B') → Wq E H locs 22 ls [] := by
  intro n
  induction n with
  | zero => intro _ _ _ _ _ hW hl hF; cases hF
  | succ n ih => intro _ _ _ _ _ hW hl hF; exact wX6_undo_22s Cx hret ih hW hl hF
def FX6_undo (B : Blk) : Option (Int32 × Blk) :=
  if ((B 0) 5) = 0 then
    some ((-5 : Int32), B)
  else
    lt1 (bs B 0 5 (((B 0) 5) - (1 : Int32))) fun B2 =>
    FX6_undo_22 fu (0 : Int32) B2
set_option maxRecDepth 100000 in
set_option maxHeartbeats 4000000 in
theorem wX6_undo {E : WE} {V : VT} {A : Nat → Prop} {H0 : Heap} {M : Mem} (Cx : CX E RX6 cX6_undo 2 0 0) {r : Int32} {B' : Blk} (hret : RetI E V A H0 cX6_undo .int r (jb M 12 B')) {H : Heap} {locs : List Loc} {ls : Array Slot} {B : Blk} (hW : Wd V A H0 (jb M 12 B) (eS E) H locs) (hl : lv_has ls 2 [(0, .ref (vA V 12 0))]) (hF : FX6_undo B = some (r, B')) : Wq E H locs 0 ls [] := by
  unfold FX6_undo at hF
  refine q_aload_n Cx dX6_undo_0 rfl (lv_at hl 0 rfl) ?_
  refine qb_get (v := .int ((B 0) 5)) Cx hW oZ ic6 5 (by decide) rfl wd_719 dX6_undo_1 ?_
  refine q_if_ne (tgt := 10) Cx dX6_undo_4 (by decide) (fun c1 => ?_) (fun c1 => ?_)
  · have hF := (if_neg c1).symm.trans hF
    refine q_aload_n Cx dX6_undo_10 rfl (lv_at hl 0 rfl) ?_
    refine q_dup Cx dX6_undo_11 rfl ?_
    refine qb_get (v := .int ((B 0) 5)) Cx hW oZ ic6 5 (by decide) rfl wd_719 dX6_undo_12 ?_
    refine q_iconst (v := (1 : Int32)) Cx dX6_undo_15 (by decide) ?_
    refine q_isub Cx dX6_undo_16 ?_
    obtain ⟨B2, e3, hF⟩ := lt1_some hF
    refine qb_put Cx hW oZ ic6 5 (by decide) (Nat.le_of_ble_eq_true rfl) e3 rfl rfl ⟨nI32 _, rfl⟩ wd_719 dX6_undo_17 (fun H locs hW => ?_)
    refine q_iconst (v := (0 : Int32)) Cx dX6_undo_20 (by decide) ?_
    refine q_istore_n (lv' := [(1, .int (0 : Int32)), (0, .ref (vA V 12 0))]) Cx dX6_undo_21 rfl hl (by decide) rfl (fun ls hl => ?_)
    exact wX6_undo_22 Cx hret fu hW (lv_sub hl [1, 0] rfl) hF
  · have hF := (if_pos c1).symm.trans hF
    refine q_bipush (v := (-5 : Int32)) Cx dX6_undo_7 (by decide) ?_
    obtain ⟨rfl, rfl⟩ := Prod.mk.inj (Option.some.inj hF)
    exact hret _ _ _ _ dX6_undo_9 (nI32 _) hW
set_option maxRecDepth 100000 in
theorem kX6_undo {l : Launch} {V : VT} {M : Mem} {B : Blk} {r : Int32} {B' : Blk} (hF : FX6_undo B = some (r, B')) : MetI l V yX6_undo cX6_undo 2 .int ({ frames := 0, cells := 0, slots := 0, locals := 0 } : Room) [.ref (vA V 12 0)] r (jb M 12 B) (jb M 12 B') := metI_of (by decide) (Nat.le_of_ble_eq_true rfl) (fun E H0 _ Cx hret H locs ls hW hl => wX6_undo Cx hret hW hl hF)
theorem dX6_save_0 : decode cX6_save 0 = .ok (.iload_n 1, 1) := by decide +kernel
theorem dX6_save_1 : decode cX6_save 1 = .ok (.iconst 0, 1) := by decide +kernel
theorem dX6_save_2 : decode cX6_save 2 = .ok (.iconst 1, 1) := by decide +kernel
theorem dX6_save_3 : decode cX6_save 3 = .ok (.invokestatic 56, 3) := by decide +kernel
theorem dX6_save_6 : decode cX6_save 6 = .ok (.ifCond .ne 6, 3) := by decide +kernel
theorem dX6_save_9 : decode cX6_save 9 = .ok (.bipush (-2), 2) := by decide +kernel
theorem dX6_save_11 : decode cX6_save 11 = .ok (.ireturn, 1) := by decide +kernel
theorem dX6_save_12 : decode cX6_save 12 = .ok (.aload_n 0, 1) := by decide +kernel
theorem dX6_save_13 : decode cX6_save 13 = .ok (.getfield 19, 3) := by decide +kernel
theorem dX6_save_16 : decode cX6_save 16 = .ok (.iload_n 1, 1) := by decide +kernel
theorem dX6_save_17 : decode cX6_save 17 = .ok (.iconst 1, 1) := by decide +kernel
theorem dX6_save_18 : decode cX6_save 18 = .ok (.bastore, 1) := by decide +kernel
theorem dX6_save_19 : decode cX6_save 19 = .ok (.iconst 0, 1) := by decide +kernel
theorem dX6_save_20 : decode cX6_save 20 = .ok (.istore_n 2, 1) := by decide +kernel
theorem dX6_save_21 : decode cX6_save 21 = .ok (.iload_n 2, 1) := by decide +kernel
theorem dX6_save_22 : decode cX6_save 22 = .ok (.sipush 356, 3) := by decide +kernel
theorem dX6_save_25 : decode cX6_save 25 = .ok (.if_icmp .ge 27, 3) := by decide +kernel
theorem dX6_save_28 : decode cX6_save 28 = .ok (.aload_n 0, 1) := by decide +kernel
theorem dX6_save_29 : decode cX6_save 29 = .ok (.getfield 16, 3) := by decide +kernel
theorem dX6_save_32 : decode cX6_save 32 = .ok (.iload_n 1, 1) := by decide +kernel
theorem dX6_save_33 : decode cX6_save 33 = .ok (.sipush 356, 3) := by decide +kernel
theorem dX6_save_36 : decode cX6_save 36 = .ok (.imul, 1) := by decide +kernel
theorem dX6_save_37 : decode cX6_save 37 = .ok (.iload_n 2, 1) := by decide +kernel
theorem dX6_save_38 : decode cX6_save 38 = .ok (.iadd, 1) := by decide +kernel
theorem dX6_save_39 : decode cX6_save 39 = .ok (.aload_n 0, 1) := by decide +kernel
theorem dX6_save_40 : decode cX6_save 40 = .ok (.getfield 7, 3) := by decide +kernel
theorem dX6_save_43 : decode cX6_save 43 = .ok (.iload_n 2, 1) := by decide +kernel
theorem dX6_save_44 : decode cX6_save 44 = .ok (.iaload, 1) := by decide +kernel
theorem dX6_save_45 : decode cX6_save 45 = .ok (.iastore, 1) := by decide +kernel
theorem dX6_save_46 : decode cX6_save 46 = .ok (.iinc 2 1, 3) := by decide +kernel
theorem dX6_save_49 : decode cX6_save 49 = .ok (.goto (-28), 3) := by decide +kernel
theorem dX6_save_52 : decode cX6_save 52 = .ok (.aload_n 0, 1) := by decide +kernel
theorem dX6_save_53 : decode cX6_save 53 = .ok (.getfield 7, 3) := by decide +kernel
theorem dX6_save_56 : decode cX6_save 56 = .ok (.iconst 0, 1) := by decide +kernel
theorem dX6_save_57 : decode cX6_save 57 = .ok (.iaload, 1) := by decide +kernel
theorem dX6_save_58 : decode cX6_save 58 = .ok (.ireturn, 1) := by decide +kernel
theorem okX6_save : CalOK yX6_save cX6_save 3 (some .int) 1 := ⟨wd_73, wd_779, by decide +kernel⟩
theorem ovX6_save : VirOK yX6_save := ⟨wd_777, wd_778⟩
def FX6_save_21s (k21 : Int32 → Int32 → Blk → Option (Int32 × Blk)) (l1 : Int32) (l2 : Int32) (B : Blk) : Option (Int32 × Blk) :=
  if (356 : Int32) ≤ l2 then
    ld (B 1) 356 (0 : Int32) fun v8 =>
    some (v8, B)
  else
    ld (B 1) 356 l2 fun v11 =>
    stb B 3 712 ((l1 * (356 : Int32)) + l2) v11 fun B14 =>
    lt1 (l2 + (1 : Int32)) fun x17 =>
    k21 l1 x17 B14
set_option maxRecDepth 100000 in
set_option maxHeartbeats 4000000 in
theorem wX6_save_21s {E : WE} {V : VT} {A : Nat → Prop} {H0 : Heap} {M : Mem} (Cx : CX E RX6 cX6_save 3 1 22) {r : Int32} {B' : Blk} (hret : RetI E V A H0 cX6_save .int r (jb M 12 B')) {k21 : Int32 → Int32 → Blk → Option (Int32 × Blk)} (hk21 : ∀ {H : Heap} {locs : List Loc} {ls : Array Slot} {B : Blk} {l1 : Int32} {l2 : Int32}, Wd V A H0 (jb M 12 B) (eS E) H locs → lv_has ls 3 [(0, .ref (vA V 12 0)), (1, .int l1), (2, .int l2)] → k21 l1 l2 B = some (r, B') → Wq E H locs 21 ls []) {H : Heap} {locs : List Loc} {ls : Array Slot} {l1 : Int32} {l2 : Int32} {B : Blk} (hW : Wd V A H0 (jb M 12 B) (eS E) H locs) (hl : lv_has ls 3 [(0, .ref (vA V 12 0)), (1, .int l1), (2, .int l2)]) (hF : FX6_save_21s k21 l1 l2 B = some (r, B')) : Wq E H locs 21 ls [] := by
  unfold FX6_save_21s at hF
  refine q_iload_n Cx dX6_save_21 rfl (lv_at hl 2 rfl) ?_
  refine q_sipush (v := (356 : Int32)) Cx dX6_save_22 (by decide) ?_
  refine q_icmp_ge (tgt := 52) Cx dX6_save_25 (by decide) (fun c7 => ?_) (fun c7 => ?_)
  · have hF := (if_pos c7).symm.trans hF
    refine q_aload_n Cx dX6_save_52 rfl (lv_at hl 0 rfl) ?_
    refine q_get (v := .ref (vA V 12 1)) Cx hW oZ ic6 0 (by decide) rfl wd_714 dX6_save_53 ?_
    refine q_iconst (v := (0 : Int32)) Cx dX6_save_56 (by decide) ?_
    obtain ⟨h9, v8, e10, hF⟩ := ld_some hF
    refine qb_iald Cx hW az_1 h9 e10 dX6_save_57 ?_
    obtain ⟨rfl, rfl⟩ := Prod.mk.inj (Option.some.inj hF)
    exact hret _ _ _ _ dX6_save_58 (nI32 _) hW
  · have hF := (if_neg c7).symm.trans hF
    refine q_aload_n Cx dX6_save_28 rfl (lv_at hl 0 rfl) ?_
    refine q_get (v := .ref (vA V 12 3)) Cx hW oZ ic6 2 (by decide) rfl wd_716 dX6_save_29 ?_
    refine q_iload_n Cx dX6_save_32 rfl (lv_at hl 1 rfl) ?_
    refine q_sipush (v := (356 : Int32)) Cx dX6_save_33 (by decide) ?_
    refine q_imul Cx dX6_save_36 ?_
    refine q_iload_n Cx dX6_save_37 rfl (lv_at hl 2 rfl) ?_
    refine q_iadd Cx dX6_save_38 ?_
    refine q_aload_n Cx dX6_save_39 rfl (lv_at hl 0 rfl) ?_
    refine q_get (v := .ref (vA V 12 1)) Cx hW oZ ic6 0 (by decide) rfl wd_714 dX6_save_40 ?_
    refine q_iload_n Cx dX6_save_43 rfl (lv_at hl 2 rfl) ?_
    obtain ⟨h12, v11, e13, hF⟩ := ld_some hF
    refine qb_iald Cx hW az_1 h12 e13 dX6_save_44 ?_
    obtain ⟨h15, B14, e16, hF⟩ := stb_some hF
    refine qb_iast Cx hW az_3 h15 e16 dX6_save_45 (fun H locs hW => ?_)
    obtain ⟨x17, e18, hF⟩ := lt1_some hF
    refine q_iinc (k := 2) (v := x17) (lv' := [(2, .int x17), (0, .ref (vA V 12 0)), (1, .int l1)]) Cx dX6_save_46 hl rfl e18.symm (by decide) rfl (fun ls hl => ?_)
    refine q_goto (tgt := 21) Cx dX6_save_49 (by decide) ?_
    exact hk21 hW (lv_sub hl [1, 2, 0] rfl) hF
def FX6_save_21 : Nat → Int32 → Int32 → Blk → Option (Int32 × Blk)
  | 0 => fun _ _ _ => none
  | n + 1 => FX6_save_21s (FX6_save_21 n)
set_option maxRecDepth 100000 in
theorem wX6_save_21 {E : WE} {V : VT} {A : Nat → Prop} {H0 : Heap} {M : Mem} (Cx : CX E RX6 cX6_save 3 1 22) {r : Int32} {B' : Blk} (hret : RetI E V A H0 cX6_save .int r (jb M 12 B')) : ∀ (n : Nat) {H : Heap} {locs : List Loc} {ls : Array Slot} {l1 : Int32} {l2 : Int32} {B : Blk}, Wd V A H0 (jb M 12 B) (eS E) H locs → lv_has ls 3 [(0, .ref (vA V 12 0)), (1, .int l1), (2, .int l2)] → FX6_save_21 n l1 l2 B = some (r, B') → Wq E H locs 21 ls [] := by
  intro n
  induction n with
  | zero => intro _ _ _ _ _ _ hW hl hF; cases hF
  | succ n ih => intro _ _ _ _ _ _ hW hl hF; exact wX6_save_21s Cx hret ih hW hl hF
def FX6_save (B : Blk) (l1 : Int32) : Option (Int32 × Blk) :=
  c1 (FX6_in l1 (0 : Int32) (1 : Int32)) fun r1 =>
  if r1 = 0 then
    some ((-2 : Int32), B)
  else
    stb B 4 2 l1 (vp_nar .boolean (1 : Int32)) fun B4 =>
    FX6_save_21 fu l1 (0 : Int32) B4
set_option maxRecDepth 100000 in
set_option maxHeartbeats 4000000 in
theorem wX6_save {E : WE} {V : VT} {A : Nat → Prop} {H0 : Heap} {M : Mem} (Cx : CX E RX6 cX6_save 3 1 22) {r : Int32} {B' : Blk} (hret : RetI E V A H0 cX6_save .int r (jb M 12 B')) {H : Heap} {locs : List Loc} {ls : Array Slot} {l1 : Int32} {B : Blk} (hW : Wd V A H0 (jb M 12 B) (eS E) H locs) (hl : lv_has ls 3 [(0, .ref (vA V 12 0)), (1, .int l1)]) (hF : FX6_save B l1 = some (r, B')) : Wq E H locs 0 ls [] := by
  unfold FX6_save at hF
  refine q_iload_n Cx dX6_save_0 rfl (lv_at hl 1 rfl) ?_
  refine q_iconst (v := (0 : Int32)) Cx dX6_save_1 (by decide) ?_
  refine q_iconst (v := (1 : Int32)) Cx dX6_save_2 (by decide) ?_
  obtain ⟨r1, e2, hF⟩ := c1_some hF
  refine q_callSI (as := [.int l1, .int (0 : Int32), .int (1 : Int32)]) (rest := []) Cx (kX6_in e2) okX6_in osX6_in rfl wd_780 ⟨rfl, rfl, by decide, by decide⟩ hW rfl hl.1 (Nat.le_of_ble_eq_true rfl) rfl dX6_save_3 (fun H locs hW => ?_)
  refine q_if_ne (tgt := 12) Cx dX6_save_6 (by decide) (fun c3 => ?_) (fun c3 => ?_)
  · have hF := (if_neg c3).symm.trans hF
    refine q_aload_n Cx dX6_save_12 rfl (lv_at hl 0 rfl) ?_
    refine q_get (v := .ref (vA V 12 4)) Cx hW oZ ic6 3 (by decide) rfl wd_717 dX6_save_13 ?_
    refine q_iload_n Cx dX6_save_16 rfl (lv_at hl 1 rfl) ?_
    refine q_iconst (v := (1 : Int32)) Cx dX6_save_17 (by decide) ?_
    obtain ⟨h5, B4, e6, hF⟩ := stb_some hF
    refine qb_zast Cx hW az_4 h5 e6 dX6_save_18 (fun H locs hW => ?_)
    refine q_iconst (v := (0 : Int32)) Cx dX6_save_19 (by decide) ?_
    refine q_istore_n (lv' := [(2, .int (0 : Int32)), (0, .ref (vA V 12 0)), (1, .int l1)]) Cx dX6_save_20 rfl hl (by decide) rfl (fun ls hl => ?_)
    exact wX6_save_21 Cx hret fu hW (lv_sub hl [1, 2, 0] rfl) hF
  · have hF := (if_pos c3).symm.trans hF
    refine q_bipush (v := (-2 : Int32)) Cx dX6_save_9 (by decide) ?_
    obtain ⟨rfl, rfl⟩ := Prod.mk.inj (Option.some.inj hF)
    exact hret _ _ _ _ dX6_save_11 (nI32 _) hW
set_option maxRecDepth 100000 in
theorem kX6_save {l : Launch} {V : VT} {M : Mem} {B : Blk} {l1 : Int32} {r : Int32} {B' : Blk} (hF : FX6_save B l1 = some (r, B')) : MetI l V yX6_save cX6_save 3 .int ({ frames := 1, cells := 0, slots := 0, locals := 22 } : Room) [.ref (vA V 12 0), .int l1] r (jb M 12 B) (jb M 12 B') := metI_of (by decide) (Nat.le_of_ble_eq_true rfl) (fun E H0 _ Cx hret H locs ls hW hl => wX6_save Cx hret hW hl hF)
theorem dX6_restore_0 : decode cX6_restore 0 = .ok (.iload_n 1, 1) := by decide +kernel
theorem dX6_restore_1 : decode cX6_restore 1 = .ok (.iconst 0, 1) := by decide +kernel
theorem dX6_restore_2 : decode cX6_restore 2 = .ok (.iconst 1, 1) := by decide +kernel
theorem dX6_restore_3 : decode cX6_restore 3 = .ok (.invokestatic 56, 3) := by decide +kernel
theorem dX6_restore_6 : decode cX6_restore 6 = .ok (.ifCond .ne 6, 3) := by decide +kernel
theorem dX6_restore_9 : decode cX6_restore 9 = .ok (.bipush (-2), 2) := by decide +kernel
theorem dX6_restore_11 : decode cX6_restore 11 = .ok (.ireturn, 1) := by decide +kernel
theorem dX6_restore_12 : decode cX6_restore 12 = .ok (.aload_n 0, 1) := by decide +kernel
theorem dX6_restore_13 : decode cX6_restore 13 = .ok (.getfield 19, 3) := by decide +kernel
theorem dX6_restore_16 : decode cX6_restore 16 = .ok (.iload_n 1, 1) := by decide +kernel
theorem dX6_restore_17 : decode cX6_restore 17 = .ok (.baload, 1) := by decide +kernel
theorem dX6_restore_18 : decode cX6_restore 18 = .ok (.ifCond .ne 6, 3) := by decide +kernel
theorem dX6_restore_21 : decode cX6_restore 21 = .ok (.bipush (-5), 2) := by decide +kernel
theorem dX6_restore_23 : decode cX6_restore 23 = .ok (.ireturn, 1) := by decide +kernel
theorem dX6_restore_24 : decode cX6_restore 24 = .ok (.aload_n 0, 1) := by decide +kernel
theorem dX6_restore_25 : decode cX6_restore 25 = .ok (.invokevirtual 60, 3) := by decide +kernel
theorem dX6_restore_28 : decode cX6_restore 28 = .ok (.iconst 0, 1) := by decide +kernel
theorem dX6_restore_29 : decode cX6_restore 29 = .ok (.istore_n 2, 1) := by decide +kernel
theorem dX6_restore_30 : decode cX6_restore 30 = .ok (.iload_n 2, 1) := by decide +kernel
theorem dX6_restore_31 : decode cX6_restore 31 = .ok (.sipush 356, 3) := by decide +kernel
theorem dX6_restore_34 : decode cX6_restore 34 = .ok (.if_icmp .ge 27, 3) := by decide +kernel
theorem dX6_restore_37 : decode cX6_restore 37 = .ok (.aload_n 0, 1) := by decide +kernel
theorem dX6_restore_38 : decode cX6_restore 38 = .ok (.getfield 7, 3) := by decide +kernel
theorem dX6_restore_41 : decode cX6_restore 41 = .ok (.iload_n 2, 1) := by decide +kernel
theorem dX6_restore_42 : decode cX6_restore 42 = .ok (.aload_n 0, 1) := by decide +kernel
theorem dX6_restore_43 : decode cX6_restore 43 = .ok (.getfield 16, 3) := by decide +kernel
theorem dX6_restore_46 : decode cX6_restore 46 = .ok (.iload_n 1, 1) := by decide +kernel
theorem dX6_restore_47 : decode cX6_restore 47 = .ok (.sipush 356, 3) := by decide +kernel
theorem dX6_restore_50 : decode cX6_restore 50 = .ok (.imul, 1) := by decide +kernel
theorem dX6_restore_51 : decode cX6_restore 51 = .ok (.iload_n 2, 1) := by decide +kernel
theorem dX6_restore_52 : decode cX6_restore 52 = .ok (.iadd, 1) := by decide +kernel
theorem dX6_restore_53 : decode cX6_restore 53 = .ok (.iaload, 1) := by decide +kernel
theorem dX6_restore_54 : decode cX6_restore 54 = .ok (.iastore, 1) := by decide +kernel
theorem dX6_restore_55 : decode cX6_restore 55 = .ok (.iinc 2 1, 3) := by decide +kernel
theorem dX6_restore_58 : decode cX6_restore 58 = .ok (.goto (-28), 3) := by decide +kernel
theorem dX6_restore_61 : decode cX6_restore 61 = .ok (.aload_n 0, 1) := by decide +kernel
theorem dX6_restore_62 : decode cX6_restore 62 = .ok (.getfield 7, 3) := by decide +kernel
theorem dX6_restore_65 : decode cX6_restore 65 = .ok (.iconst 0, 1) := by decide +kernel
theorem dX6_restore_66 : decode cX6_restore 66 = .ok (.iaload, 1) := by decide +kernel
theorem dX6_restore_67 : decode cX6_restore 67 = .ok (.ireturn, 1) := by decide +kernel
theorem okX6_restore : CalOK yX6_restore cX6_restore 3 (some .int) 1 := ⟨wd_73, wd_786, by decide +kernel⟩
theorem ovX6_restore : VirOK yX6_restore := ⟨wd_784, wd_785⟩
def FX6_restore_30s (k30 : Int32 → Int32 → Blk → Option (Int32 × Blk)) (l1 : Int32) (l2 : Int32) (B : Blk) : Option (Int32 × Blk) :=
  if (356 : Int32) ≤ l2 then
    ld (B 1) 356 (0 : Int32) fun v12 =>
    some (v12, B)
  else
    ld (B 3) 712 ((l1 * (356 : Int32)) + l2) fun v15 =>
    stb B 1 356 l2 v15 fun B18 =>
    lt1 (l2 + (1 : Int32)) fun x21 =>
    k30 l1 x21 B18
set_option maxRecDepth 100000 in
set_option maxHeartbeats 4000000 in
theorem wX6_restore_30s {E : WE} {V : VT} {A : Nat → Prop} {H0 : Heap} {M : Mem} (Cx : CX E RX6 cX6_restore 3 1 22) {r : Int32} {B' : Blk} (hret : RetI E V A H0 cX6_restore .int r (jb M 12 B')) {k30 : Int32 → Int32 → Blk → Option (Int32 × Blk)} (hk30 : ∀ {H : Heap} {locs : List Loc} {ls : Array Slot} {B : Blk} {l1 : Int32} {l2 : Int32}, Wd V A H0 (jb M 12 B) (eS E) H locs → lv_has ls 3 [(0, .ref (vA V 12 0)), (1, .int l1), (2, .int l2)] → k30 l1 l2 B = some (r, B') → Wq E H locs 30 ls []) {H : Heap} {locs : List Loc} {ls : Array Slot} {l1 : Int32} {l2 : Int32} {B : Blk} (hW : Wd V A H0 (jb M 12 B) (eS E) H locs) (hl : lv_has ls 3 [(0, .ref (vA V 12 0)), (1, .int l1), (2, .int l2)]) (hF : FX6_restore_30s k30 l1 l2 B = some (r, B')) : Wq E H locs 30 ls [] := by
  unfold FX6_restore_30s at hF
  refine q_iload_n Cx dX6_restore_30 rfl (lv_at hl 2 rfl) ?_
  refine q_sipush (v := (356 : Int32)) Cx dX6_restore_31 (by decide) ?_
  refine q_icmp_ge (tgt := 61) Cx dX6_restore_34 (by decide) (fun c11 => ?_) (fun c11 => ?_)
  · have hF := (if_pos c11).symm.trans hF
    refine q_aload_n Cx dX6_restore_61 rfl (lv_at hl 0 rfl) ?_
    refine q_get (v := .ref (vA V 12 1)) Cx hW oZ ic6 0 (by decide) rfl wd_714 dX6_restore_62 ?_
    refine q_iconst (v := (0 : Int32)) Cx dX6_restore_65 (by decide) ?_
    obtain ⟨h13, v12, e14, hF⟩ := ld_some hF
    refine qb_iald Cx hW az_1 h13 e14 dX6_restore_66 ?_
    obtain ⟨rfl, rfl⟩ := Prod.mk.inj (Option.some.inj hF)
    exact hret _ _ _ _ dX6_restore_67 (nI32 _) hW
  · have hF := (if_neg c11).symm.trans hF
    refine q_aload_n Cx dX6_restore_37 rfl (lv_at hl 0 rfl) ?_
    refine q_get (v := .ref (vA V 12 1)) Cx hW oZ ic6 0 (by decide) rfl wd_714 dX6_restore_38 ?_
    refine q_iload_n Cx dX6_restore_41 rfl (lv_at hl 2 rfl) ?_
    refine q_aload_n Cx dX6_restore_42 rfl (lv_at hl 0 rfl) ?_
    refine q_get (v := .ref (vA V 12 3)) Cx hW oZ ic6 2 (by decide) rfl wd_716 dX6_restore_43 ?_
    refine q_iload_n Cx dX6_restore_46 rfl (lv_at hl 1 rfl) ?_
    refine q_sipush (v := (356 : Int32)) Cx dX6_restore_47 (by decide) ?_
    refine q_imul Cx dX6_restore_50 ?_
    refine q_iload_n Cx dX6_restore_51 rfl (lv_at hl 2 rfl) ?_
    refine q_iadd Cx dX6_restore_52 ?_
    obtain ⟨h16, v15, e17, hF⟩ := ld_some hF
    refine qb_iald Cx hW az_3 h16 e17 dX6_restore_53 ?_
    obtain ⟨h19, B18, e20, hF⟩ := stb_some hF
    refine qb_iast Cx hW az_1 h19 e20 dX6_restore_54 (fun H locs hW => ?_)
    obtain ⟨x21, e22, hF⟩ := lt1_some hF
    refine q_iinc (k := 2) (v := x21) (lv' := [(2, .int x21), (0, .ref (vA V 12 0)), (1, .int l1)]) Cx dX6_restore_55 hl rfl e22.symm (by decide) rfl (fun ls hl => ?_)
    refine q_goto (tgt := 30) Cx dX6_restore_58 (by decide) ?_
    exact hk30 hW (lv_sub hl [1, 2, 0] rfl) hF
def FX6_restore_30 : Nat → Int32 → Int32 → Blk → Option (Int32 × Blk)
  | 0 => fun _ _ _ => none
  | n + 1 => FX6_restore_30s (FX6_restore_30 n)
set_option maxRecDepth 100000 in
theorem wX6_restore_30 {E : WE} {V : VT} {A : Nat → Prop} {H0 : Heap} {M : Mem} (Cx : CX E RX6 cX6_restore 3 1 22) {r : Int32} {B' : Blk} (hret : RetI E V A H0 cX6_restore .int r (jb M 12 B')) : ∀ (n : Nat) {H : Heap} {locs : List Loc} {ls : Array Slot} {l1 : Int32} {l2 : Int32} {B : Blk}, Wd V A H0 (jb M 12 B) (eS E) H locs → lv_has ls 3 [(0, .ref (vA V 12 0)), (1, .int l1), (2, .int l2)] → FX6_restore_30 n l1 l2 B = some (r, B') → Wq E H locs 30 ls [] := by
  intro n
  induction n with
  | zero => intro _ _ _ _ _ _ hW hl hF; cases hF
  | succ n ih => intro _ _ _ _ _ _ hW hl hF; exact wX6_restore_30s Cx hret ih hW hl hF
def FX6_restore (B : Blk) (l1 : Int32) : Option (Int32 × Blk) :=
  c1 (FX6_in l1 (0 : Int32) (1 : Int32)) fun r1 =>
  if r1 = 0 then
    some ((-2 : Int32), B)
  else
    ld (B 4) 2 l1 fun v4 =>
    if v4 = 0 then
      some ((-5 : Int32), B)
    else
      c1 (FX6_record B) fun B10 =>
      FX6_restore_30 fu l1 (0 : Int32) B10
set_option maxRecDepth 100000 in
set_option maxHeartbeats 4000000 in
theorem wX6_restore {E : WE} {V : VT} {A : Nat → Prop} {H0 : Heap} {M : Mem} (Cx : CX E RX6 cX6_restore 3 1 22) {r : Int32} {B' : Blk} (hret : RetI E V A H0 cX6_restore .int r (jb M 12 B')) {H : Heap} {locs : List Loc} {ls : Array Slot} {l1 : Int32} {B : Blk} (hW : Wd V A H0 (jb M 12 B) (eS E) H locs) (hl : lv_has ls 3 [(0, .ref (vA V 12 0)), (1, .int l1)]) (hF : FX6_restore B l1 = some (r, B')) : Wq E H locs 0 ls [] := by
  unfold FX6_restore at hF
  refine q_iload_n Cx dX6_restore_0 rfl (lv_at hl 1 rfl) ?_
  refine q_iconst (v := (0 : Int32)) Cx dX6_restore_1 (by decide) ?_
  refine q_iconst (v := (1 : Int32)) Cx dX6_restore_2 (by decide) ?_
  obtain ⟨r1, e2, hF⟩ := c1_some hF
  refine q_callSI (as := [.int l1, .int (0 : Int32), .int (1 : Int32)]) (rest := []) Cx (kX6_in e2) okX6_in osX6_in rfl wd_780 ⟨rfl, rfl, by decide, by decide⟩ hW rfl hl.1 (Nat.le_of_ble_eq_true rfl) rfl dX6_restore_3 (fun H locs hW => ?_)
  refine q_if_ne (tgt := 12) Cx dX6_restore_6 (by decide) (fun c3 => ?_) (fun c3 => ?_)
  · have hF := (if_neg c3).symm.trans hF
    refine q_aload_n Cx dX6_restore_12 rfl (lv_at hl 0 rfl) ?_
    refine q_get (v := .ref (vA V 12 4)) Cx hW oZ ic6 3 (by decide) rfl wd_717 dX6_restore_13 ?_
    refine q_iload_n Cx dX6_restore_16 rfl (lv_at hl 1 rfl) ?_
    obtain ⟨h5, v4, e6, hF⟩ := ld_some hF
    refine qb_zald Cx hW az_4 h5 e6 dX6_restore_17 ?_
    refine q_if_ne (tgt := 24) Cx dX6_restore_18 (by decide) (fun c7 => ?_) (fun c7 => ?_)
    · have hF := (if_neg c7).symm.trans hF
      refine q_aload_n Cx dX6_restore_24 rfl (lv_at hl 0 rfl) ?_
      obtain ⟨B10, e9, hF⟩ := c1_some hF
      refine q_callV (as := []) (rest := []) Cx (kX6_record e9) okX6_record ovX6_record wd_787 ⟨rfl, rfl, by decide, by decide⟩ hW oZ ic6 rfl hl.1 (Nat.le_of_ble_eq_true rfl) rfl dX6_restore_25 (fun H locs hW => ?_)
      refine q_iconst (v := (0 : Int32)) Cx dX6_restore_28 (by decide) ?_
      refine q_istore_n (lv' := [(2, .int (0 : Int32)), (0, .ref (vA V 12 0)), (1, .int l1)]) Cx dX6_restore_29 rfl hl (by decide) rfl (fun ls hl => ?_)
      exact wX6_restore_30 Cx hret fu hW (lv_sub hl [1, 2, 0] rfl) hF
    · have hF := (if_pos c7).symm.trans hF
      refine q_bipush (v := (-5 : Int32)) Cx dX6_restore_21 (by decide) ?_
      obtain ⟨rfl, rfl⟩ := Prod.mk.inj (Option.some.inj hF)
      exact hret _ _ _ _ dX6_restore_23 (nI32 _) hW
  · have hF := (if_pos c3).symm.trans hF
    refine q_bipush (v := (-2 : Int32)) Cx dX6_restore_9 (by decide) ?_
    obtain ⟨rfl, rfl⟩ := Prod.mk.inj (Option.some.inj hF)
    exact hret _ _ _ _ dX6_restore_11 (nI32 _) hW
set_option maxRecDepth 100000 in
theorem kX6_restore {l : Launch} {V : VT} {M : Mem} {B : Blk} {l1 : Int32} {r : Int32} {B' : Blk} (hF : FX6_restore B l1 = some (r, B')) : MetI l V yX6_restore cX6_restore 3 .int ({ frames := 1, cells := 0, slots := 0, locals := 22 } : Room) [.ref (vA V 12 0), .int l1] r (jb M 12 B) (jb M 12 B') := metI_of (by decide) (Nat.le_of_ble_eq_true rfl) (fun E H0 _ Cx hret H locs ls hW hl => wX6_restore Cx hret hW hl hF)
theorem dX6_putAside_0 : decode cX6_putAside 0 = .ok (.iconst 0, 1) := by decide +kernel
theorem dX6_putAside_1 : decode cX6_putAside 1 = .ok (.istore_n 1, 1) := by decide +kernel
theorem dX6_putAside_2 : decode cX6_putAside 2 = .ok (.iload_n 1, 1) := by decide +kernel
theorem dX6_putAside_3 : decode cX6_putAside 3 = .ok (.sipush 356, 3) := by decide +kernel
theorem dX6_putAside_6 : decode cX6_putAside 6 = .ok (.if_icmp .ge 21, 3) := by decide +kernel
theorem dX6_putAside_9 : decode cX6_putAside 9 = .ok (.aload_n 0, 1) := by decide +kernel
theorem dX6_putAside_10 : decode cX6_putAside 10 = .ok (.getfield 23, 3) := by decide +kernel
theorem dX6_putAside_13 : decode cX6_putAside 13 = .ok (.iload_n 1, 1) := by decide +kernel
theorem dX6_putAside_14 : decode cX6_putAside 14 = .ok (.aload_n 0, 1) := by decide +kernel
theorem dX6_putAside_15 : decode cX6_putAside 15 = .ok (.getfield 7, 3) := by decide +kernel
theorem dX6_putAside_18 : decode cX6_putAside 18 = .ok (.iload_n 1, 1) := by decide +kernel
theorem dX6_putAside_19 : decode cX6_putAside 19 = .ok (.iaload, 1) := by decide +kernel
theorem dX6_putAside_20 : decode cX6_putAside 20 = .ok (.iastore, 1) := by decide +kernel
theorem dX6_putAside_21 : decode cX6_putAside 21 = .ok (.iinc 1 1, 3) := by decide +kernel
theorem dX6_putAside_24 : decode cX6_putAside 24 = .ok (.goto (-22), 3) := by decide +kernel
theorem dX6_putAside_27 : decode cX6_putAside 27 = .ok (.return_, 1) := by decide +kernel
theorem okX6_putAside : CalOK yX6_putAside cX6_putAside 2 (none) 0 := ⟨wd_73, wd_971, by decide +kernel⟩
theorem ovX6_putAside : VirOK yX6_putAside := ⟨wd_970, wd_53⟩
def FX6_putAside_2s (k2 : Int32 → Blk → Option Blk) (l1 : Int32) (B : Blk) : Option Blk :=
  if (356 : Int32) ≤ l1 then
    some B
  else
    ld (B 1) 356 l1 fun v2 =>
    stb B 5 356 l1 v2 fun B5 =>
    lt1 (l1 + (1 : Int32)) fun x8 =>
    k2 x8 B5
set_option maxRecDepth 100000 in
set_option maxHeartbeats 4000000 in
theorem wX6_putAside_2s {E : WE} {V : VT} {A : Nat → Prop} {H0 : Heap} {M : Mem} (Cx : CX E RX6 cX6_putAside 2 0 0) {B' : Blk} (hret : RetV E V A H0 cX6_putAside (jb M 12 B')) {k2 : Int32 → Blk → Option Blk} (hk2 : ∀ {H : Heap} {locs : List Loc} {ls : Array Slot} {B : Blk} {l1 : Int32}, Wd V A H0 (jb M 12 B) (eS E) H locs → lv_has ls 2 [(0, .ref (vA V 12 0)), (1, .int l1)] → k2 l1 B = some B' → Wq E H locs 2 ls []) {H : Heap} {locs : List Loc} {ls : Array Slot} {l1 : Int32} {B : Blk} (hW : Wd V A H0 (jb M 12 B) (eS E) H locs) (hl : lv_has ls 2 [(0, .ref (vA V 12 0)), (1, .int l1)]) (hF : FX6_putAside_2s k2 l1 B = some B') : Wq E H locs 2 ls [] := by
  unfold FX6_putAside_2s at hF
  refine q_iload_n Cx dX6_putAside_2 rfl (lv_at hl 1 rfl) ?_
  refine q_sipush (v := (356 : Int32)) Cx dX6_putAside_3 (by decide) ?_
  refine q_icmp_ge (tgt := 27) Cx dX6_putAside_6 (by decide) (fun c1 => ?_) (fun c1 => ?_)
  · have hF := (if_pos c1).symm.trans hF
    obtain rfl := Option.some.inj hF
    exact hret _ _ _ _ dX6_putAside_27 hW
  · have hF := (if_neg c1).symm.trans hF
    refine q_aload_n Cx dX6_putAside_9 rfl (lv_at hl 0 rfl) ?_
    refine q_get (v := .ref (vA V 12 5)) Cx hW oZ ic6 4 (by decide) rfl wd_718 dX6_putAside_10 ?_
    refine q_iload_n Cx dX6_putAside_13 rfl (lv_at hl 1 rfl) ?_
    refine q_aload_n Cx dX6_putAside_14 rfl (lv_at hl 0 rfl) ?_
    refine q_get (v := .ref (vA V 12 1)) Cx hW oZ ic6 0 (by decide) rfl wd_714 dX6_putAside_15 ?_
    refine q_iload_n Cx dX6_putAside_18 rfl (lv_at hl 1 rfl) ?_
    obtain ⟨h3, v2, e4, hF⟩ := ld_some hF
    refine qb_iald Cx hW az_1 h3 e4 dX6_putAside_19 ?_
    obtain ⟨h6, B5, e7, hF⟩ := stb_some hF
    refine qb_iast Cx hW az_5 h6 e7 dX6_putAside_20 (fun H locs hW => ?_)
    obtain ⟨x8, e9, hF⟩ := lt1_some hF
    refine q_iinc (k := 1) (v := x8) (lv' := [(1, .int x8), (0, .ref (vA V 12 0))]) Cx dX6_putAside_21 hl rfl e9.symm (by decide) rfl (fun ls hl => ?_)
    refine q_goto (tgt := 2) Cx dX6_putAside_24 (by decide) ?_
    exact hk2 hW (lv_sub hl [1, 0] rfl) hF
def FX6_putAside_2 : Nat → Int32 → Blk → Option Blk
  | 0 => fun _ _ => none
  | n + 1 => FX6_putAside_2s (FX6_putAside_2 n)
set_option maxRecDepth 100000 in
theorem wX6_putAside_2 {E : WE} {V : VT} {A : Nat → Prop} {H0 : Heap} {M : Mem} (Cx : CX E RX6 cX6_putAside 2 0 0) {B' : Blk} (hret : RetV E V A H0 cX6_putAside (jb M 12 B')) : ∀ (n : Nat) {H : Heap} {locs : List Loc} {ls : Array Slot} {l1 : Int32} {B : Blk}, Wd V A H0 (jb M 12 B) (eS E) H locs → lv_has ls 2 [(0, .ref (vA V 12 0)), (1, .int l1)] → FX6_putAside_2 n l1 B = some B' → Wq E H locs 2 ls [] := by
  intro n
  induction n with
  | zero => intro _ _ _ _ _ hW hl hF; cases hF
  | succ n ih => intro _ _ _ _ _ hW hl hF; exact wX6_putAside_2s Cx hret ih hW hl hF
def FX6_putAside (B : Blk) : Option Blk :=
  FX6_putAside_2 fu (0 : Int32) B
set_option maxRecDepth 100000 in
set_option maxHeartbeats 4000000 in
theorem wX6_putAside {E : WE} {V : VT} {A : Nat → Prop} {H0 : Heap} {M : Mem} (Cx : CX E RX6 cX6_putAside 2 0 0) {B' : Blk} (hret : RetV E V A H0 cX6_putAside (jb M 12 B')) {H : Heap} {locs : List Loc} {ls : Array Slot} {B : Blk} (hW : Wd V A H0 (jb M 12 B) (eS E) H locs) (hl : lv_has ls 2 [(0, .ref (vA V 12 0))]) (hF : FX6_putAside B = some B') : Wq E H locs 0 ls [] := by
  unfold FX6_putAside at hF
  refine q_iconst (v := (0 : Int32)) Cx dX6_putAside_0 (by decide) ?_
  refine q_istore_n (lv' := [(1, .int (0 : Int32)), (0, .ref (vA V 12 0))]) Cx dX6_putAside_1 rfl hl (by decide) rfl (fun ls hl => ?_)
  exact wX6_putAside_2 Cx hret fu hW (lv_sub hl [1, 0] rfl) hF
set_option maxRecDepth 100000 in
theorem kX6_putAside {l : Launch} {V : VT} {M : Mem} {B : Blk} {B' : Blk} (hF : FX6_putAside B = some B') : MetV l V yX6_putAside cX6_putAside 2 ({ frames := 0, cells := 0, slots := 0, locals := 0 } : Room) [.ref (vA V 12 0)] (jb M 12 B) (jb M 12 B') := metV_of (by decide) (Nat.le_of_ble_eq_true rfl) (fun E H0 _ Cx hret H locs ls hW hl => wX6_putAside Cx hret hW hl hF)
theorem dX6_bringBack_0 : decode cX6_bringBack 0 = .ok (.iconst 0, 1) := by decide +kernel
theorem dX6_bringBack_1 : decode cX6_bringBack 1 = .ok (.istore_n 1, 1) := by decide +kernel
theorem dX6_bringBack_2 : decode cX6_bringBack 2 = .ok (.iload_n 1, 1) := by decide +kernel
theorem dX6_bringBack_3 : decode cX6_bringBack 3 = .ok (.sipush 356, 3) := by decide +kernel
theorem dX6_bringBack_6 : decode cX6_bringBack 6 = .ok (.if_icmp .ge 21, 3) := by decide +kernel
theorem dX6_bringBack_9 : decode cX6_bringBack 9 = .ok (.aload_n 0, 1) := by decide +kernel
theorem dX6_bringBack_10 : decode cX6_bringBack 10 = .ok (.getfield 7, 3) := by decide +kernel
theorem dX6_bringBack_13 : decode cX6_bringBack 13 = .ok (.iload_n 1, 1) := by decide +kernel
theorem dX6_bringBack_14 : decode cX6_bringBack 14 = .ok (.aload_n 0, 1) := by decide +kernel
theorem dX6_bringBack_15 : decode cX6_bringBack 15 = .ok (.getfield 23, 3) := by decide +kernel
theorem dX6_bringBack_18 : decode cX6_bringBack 18 = .ok (.iload_n 1, 1) := by decide +kernel
theorem dX6_bringBack_19 : decode cX6_bringBack 19 = .ok (.iaload, 1) := by decide +kernel
theorem dX6_bringBack_20 : decode cX6_bringBack 20 = .ok (.iastore, 1) := by decide +kernel
theorem dX6_bringBack_21 : decode cX6_bringBack 21 = .ok (.iinc 1 1, 3) := by decide +kernel
theorem dX6_bringBack_24 : decode cX6_bringBack 24 = .ok (.goto (-22), 3) := by decide +kernel
theorem dX6_bringBack_27 : decode cX6_bringBack 27 = .ok (.return_, 1) := by decide +kernel
theorem okX6_bringBack : CalOK yX6_bringBack cX6_bringBack 2 (none) 0 := ⟨wd_73, wd_975, by decide +kernel⟩
theorem ovX6_bringBack : VirOK yX6_bringBack := ⟨wd_974, wd_54⟩
def FX6_bringBack_2s (k2 : Int32 → Blk → Option Blk) (l1 : Int32) (B : Blk) : Option Blk :=
  if (356 : Int32) ≤ l1 then
    some B
  else
    ld (B 5) 356 l1 fun v2 =>
    stb B 1 356 l1 v2 fun B5 =>
    lt1 (l1 + (1 : Int32)) fun x8 =>
    k2 x8 B5
set_option maxRecDepth 100000 in
set_option maxHeartbeats 4000000 in
theorem wX6_bringBack_2s {E : WE} {V : VT} {A : Nat → Prop} {H0 : Heap} {M : Mem} (Cx : CX E RX6 cX6_bringBack 2 0 0) {B' : Blk} (hret : RetV E V A H0 cX6_bringBack (jb M 12 B')) {k2 : Int32 → Blk → Option Blk} (hk2 : ∀ {H : Heap} {locs : List Loc} {ls : Array Slot} {B : Blk} {l1 : Int32}, Wd V A H0 (jb M 12 B) (eS E) H locs → lv_has ls 2 [(0, .ref (vA V 12 0)), (1, .int l1)] → k2 l1 B = some B' → Wq E H locs 2 ls []) {H : Heap} {locs : List Loc} {ls : Array Slot} {l1 : Int32} {B : Blk} (hW : Wd V A H0 (jb M 12 B) (eS E) H locs) (hl : lv_has ls 2 [(0, .ref (vA V 12 0)), (1, .int l1)]) (hF : FX6_bringBack_2s k2 l1 B = some B') : Wq E H locs 2 ls [] := by
  unfold FX6_bringBack_2s at hF
  refine q_iload_n Cx dX6_bringBack_2 rfl (lv_at hl 1 rfl) ?_
  refine q_sipush (v := (356 : Int32)) Cx dX6_bringBack_3 (by decide) ?_
  refine q_icmp_ge (tgt := 27) Cx dX6_bringBack_6 (by decide) (fun c1 => ?_) (fun c1 => ?_)
  · have hF := (if_pos c1).symm.trans hF
    obtain rfl := Option.some.inj hF
    exact hret _ _ _ _ dX6_bringBack_27 hW
  · have hF := (if_neg c1).symm.trans hF
    refine q_aload_n Cx dX6_bringBack_9 rfl (lv_at hl 0 rfl) ?_
    refine q_get (v := .ref (vA V 12 1)) Cx hW oZ ic6 0 (by decide) rfl wd_714 dX6_bringBack_10 ?_
    refine q_iload_n Cx dX6_bringBack_13 rfl (lv_at hl 1 rfl) ?_
    refine q_aload_n Cx dX6_bringBack_14 rfl (lv_at hl 0 rfl) ?_
    refine q_get (v := .ref (vA V 12 5)) Cx hW oZ ic6 4 (by decide) rfl wd_718 dX6_bringBack_15 ?_
    refine q_iload_n Cx dX6_bringBack_18 rfl (lv_at hl 1 rfl) ?_
    obtain ⟨h3, v2, e4, hF⟩ := ld_some hF
    refine qb_iald Cx hW az_5 h3 e4 dX6_bringBack_19 ?_
    obtain ⟨h6, B5, e7, hF⟩ := stb_some hF
    refine qb_iast Cx hW az_1 h6 e7 dX6_bringBack_20 (fun H locs hW => ?_)
    obtain ⟨x8, e9, hF⟩ := lt1_some hF
    refine q_iinc (k := 1) (v := x8) (lv' := [(1, .int x8), (0, .ref (vA V 12 0))]) Cx dX6_bringBack_21 hl rfl e9.symm (by decide) rfl (fun ls hl => ?_)
    refine q_goto (tgt := 2) Cx dX6_bringBack_24 (by decide) ?_
    exact hk2 hW (lv_sub hl [1, 0] rfl) hF
def FX6_bringBack_2 : Nat → Int32 → Blk → Option Blk
  | 0 => fun _ _ => none
  | n + 1 => FX6_bringBack_2s (FX6_bringBack_2 n)
set_option maxRecDepth 100000 in
theorem wX6_bringBack_2 {E : WE} {V : VT} {A : Nat → Prop} {H0 : Heap} {M : Mem} (Cx : CX E RX6 cX6_bringBack 2 0 0) {B' : Blk} (hret : RetV E V A H0 cX6_bringBack (jb M 12 B')) : ∀ (n : Nat) {H : Heap} {locs : List Loc} {ls : Array Slot} {l1 : Int32} {B : Blk}, Wd V A H0 (jb M 12 B) (eS E) H locs → lv_has ls 2 [(0, .ref (vA V 12 0)), (1, .int l1)] → FX6_bringBack_2 n l1 B = some B' → Wq E H locs 2 ls [] := by
  intro n
  induction n with
  | zero => intro _ _ _ _ _ hW hl hF; cases hF
  | succ n ih => intro _ _ _ _ _ hW hl hF; exact wX6_bringBack_2s Cx hret ih hW hl hF
def FX6_bringBack (B : Blk) : Option Blk :=
  FX6_bringBack_2 fu (0 : Int32) B
set_option maxRecDepth 100000 in
set_option maxHeartbeats 4000000 in
theorem wX6_bringBack {E : WE} {V : VT} {A : Nat → Prop} {H0 : Heap} {M : Mem} (Cx : CX E RX6 cX6_bringBack 2 0 0) {B' : Blk} (hret : RetV E V A H0 cX6_bringBack (jb M 12 B')) {H : Heap} {locs : List Loc} {ls : Array Slot} {B : Blk} (hW : Wd V A H0 (jb M 12 B) (eS E) H locs) (hl : lv_has ls 2 [(0, .ref (vA V 12 0))]) (hF : FX6_bringBack B = some B') : Wq E H locs 0 ls [] := by
  unfold FX6_bringBack at hF
  refine q_iconst (v := (0 : Int32)) Cx dX6_bringBack_0 (by decide) ?_
  refine q_istore_n (lv' := [(1, .int (0 : Int32)), (0, .ref (vA V 12 0))]) Cx dX6_bringBack_1 rfl hl (by decide) rfl (fun ls hl => ?_)
  exact wX6_bringBack_2 Cx hret fu hW (lv_sub hl [1, 0] rfl) hF
set_option maxRecDepth 100000 in
theorem kX6_bringBack {l : Launch} {V : VT} {M : Mem} {B : Blk} {B' : Blk} (hF : FX6_bringBack B = some B') : MetV l V yX6_bringBack cX6_bringBack 2 ({ frames := 0, cells := 0, slots := 0, locals := 0 } : Room) [.ref (vA V 12 0)] (jb M 12 B) (jb M 12 B') := metV_of (by decide) (Nat.le_of_ble_eq_true rfl) (fun E H0 _ Cx hret H locs ls hW hl => wX6_bringBack Cx hret hW hl hF)
theorem dX6_isTask_0 : decode cX6_isTask 0 = .ok (.iload_n 1, 1) := by decide +kernel
theorem dX6_isTask_1 : decode cX6_isTask 1 = .ok (.ifCond .lt 17, 3) := by decide +kernel
theorem dX6_isTask_4 : decode cX6_isTask 4 = .ok (.iload_n 1, 1) := by decide +kernel
theorem dX6_isTask_5 : decode cX6_isTask 5 = .ok (.aload_n 0, 1) := by decide +kernel
theorem dX6_isTask_6 : decode cX6_isTask 6 = .ok (.getfield 7, 3) := by decide +kernel
theorem dX6_isTask_9 : decode cX6_isTask 9 = .ok (.iconst 0, 1) := by decide +kernel
theorem dX6_isTask_10 : decode cX6_isTask 10 = .ok (.iaload, 1) := by decide +kernel
theorem dX6_isTask_11 : decode cX6_isTask 11 = .ok (.if_icmp .ge 7, 3) := by decide +kernel
theorem dX6_isTask_14 : decode cX6_isTask 14 = .ok (.iconst 1, 1) := by decide +kernel
theorem dX6_isTask_15 : decode cX6_isTask 15 = .ok (.goto 4, 3) := by decide +kernel
theorem dX6_isTask_18 : decode cX6_isTask 18 = .ok (.iconst 0, 1) := by decide +kernel
theorem dX6_isTask_19 : decode cX6_isTask 19 = .ok (.ireturn, 1) := by decide +kernel
theorem okX6_isTask : CalOK yX6_isTask cX6_isTask 2 (some .boolean) 1 := ⟨wd_73, wd_802, by decide +kernel⟩
theorem ovX6_isTask : VirOK yX6_isTask := ⟨wd_801, wd_26⟩
def FX6_isTask (B : Blk) (l1 : Int32) : Option Int32 :=
  if l1 < 0 then
    some (0 : Int32)
  else
    ld (B 1) 356 (0 : Int32) fun v2 =>
    if v2 ≤ l1 then
      some (0 : Int32)
    else
      some (1 : Int32)
set_option maxRecDepth 100000 in
set_option maxHeartbeats 4000000 in
theorem wX6_isTask {E : WE} {V : VT} {A : Nat → Prop} {H0 : Heap} {M : Mem} (Cx : CX E RX6 cX6_isTask 2 0 0) {r : Int32} {B : Blk} (hret : RetI E V A H0 cX6_isTask .boolean r (jb M 12 B)) {H : Heap} {locs : List Loc} {ls : Array Slot} {l1 : Int32} (hW : Wd V A H0 (jb M 12 B) (eS E) H locs) (hl : lv_has ls 2 [(0, .ref (vA V 12 0)), (1, .int l1)]) (hF : FX6_isTask B l1 = some r) : Wq E H locs 0 ls [] := by
  unfold FX6_isTask at hF
  refine q_iload_n Cx dX6_isTask_0 rfl (lv_at hl 1 rfl) ?_
  refine q_if_lt (tgt := 18) Cx dX6_isTask_1 (by decide) (fun c1 => ?_) (fun c1 => ?_)
  · have hF := (if_pos c1).symm.trans hF
    refine q_iconst (v := (0 : Int32)) Cx dX6_isTask_18 (by decide) ?_
    obtain rfl := Option.some.inj hF
    exact hret _ _ _ _ dX6_isTask_19 (by rfl) hW
  · have hF := (if_neg c1).symm.trans hF
    refine q_iload_n Cx dX6_isTask_4 rfl (lv_at hl 1 rfl) ?_
    refine q_aload_n Cx dX6_isTask_5 rfl (lv_at hl 0 rfl) ?_
    refine q_get (v := .ref (vA V 12 1)) Cx hW oZ ic6 0 (by decide) rfl wd_714 dX6_isTask_6 ?_
    refine q_iconst (v := (0 : Int32)) Cx dX6_isTask_9 (by decide) ?_
    obtain ⟨h3, v2, e4, hF⟩ := ld_some hF
    refine qb_iald Cx hW az_1 h3 e4 dX6_isTask_10 ?_
    refine q_icmp_ge (tgt := 18) Cx dX6_isTask_11 (by decide) (fun c5 => ?_) (fun c5 => ?_)
    · have hF := (if_pos c5).symm.trans hF
      refine q_iconst (v := (0 : Int32)) Cx dX6_isTask_18 (by decide) ?_
      obtain rfl := Option.some.inj hF
      exact hret _ _ _ _ dX6_isTask_19 (by rfl) hW
    · have hF := (if_neg c5).symm.trans hF
      refine q_iconst (v := (1 : Int32)) Cx dX6_isTask_14 (by decide) ?_
      refine q_goto (tgt := 19) Cx dX6_isTask_15 (by decide) ?_
      obtain rfl := Option.some.inj hF
      exact hret _ _ _ _ dX6_isTask_19 (by rfl) hW
set_option maxRecDepth 100000 in
theorem kX6_isTask {l : Launch} {V : VT} {M : Mem} {B : Blk} {l1 : Int32} {r : Int32} (hF : FX6_isTask B l1 = some r) : MetI l V yX6_isTask cX6_isTask 2 .boolean ({ frames := 0, cells := 0, slots := 0, locals := 0 } : Room) [.ref (vA V 12 0), .int l1] r (jb M 12 B) (jb M 12 B) := metI_of (by decide) (Nat.le_of_ble_eq_true rfl) (fun E H0 _ Cx hret H locs ls hW hl => wX6_isTask Cx hret hW hl hF)
theorem dX6_manyOn_0 : decode cX6_manyOn 0 = .ok (.iconst 0, 1) := by decide +kernel
theorem dX6_manyOn_1 : decode cX6_manyOn 1 = .ok (.istore_n 2, 1) := by decide +kernel
theorem dX6_manyOn_2 : decode cX6_manyOn 2 = .ok (.iconst 0, 1) := by decide +kernel
theorem dX6_manyOn_3 : decode cX6_manyOn 3 = .ok (.istore_n 3, 1) := by decide +kernel
theorem dX6_manyOn_4 : decode cX6_manyOn 4 = .ok (.iload_n 3, 1) := by decide +kernel
theorem dX6_manyOn_5 : decode cX6_manyOn 5 = .ok (.aload_n 0, 1) := by decide +kernel
theorem dX6_manyOn_6 : decode cX6_manyOn 6 = .ok (.getfield 7, 3) := by decide +kernel
theorem dX6_manyOn_9 : decode cX6_manyOn 9 = .ok (.iconst 0, 1) := by decide +kernel
theorem dX6_manyOn_10 : decode cX6_manyOn 10 = .ok (.iaload, 1) := by decide +kernel
theorem dX6_manyOn_11 : decode cX6_manyOn 11 = .ok (.if_icmp .ge 29, 3) := by decide +kernel
theorem dX6_manyOn_14 : decode cX6_manyOn 14 = .ok (.iload_n 2, 1) := by decide +kernel
theorem dX6_manyOn_15 : decode cX6_manyOn 15 = .ok (.aload_n 0, 1) := by decide +kernel
theorem dX6_manyOn_16 : decode cX6_manyOn 16 = .ok (.getfield 7, 3) := by decide +kernel
theorem dX6_manyOn_19 : decode cX6_manyOn 19 = .ok (.iconst 4, 1) := by decide +kernel
theorem dX6_manyOn_20 : decode cX6_manyOn 20 = .ok (.iload_n 3, 1) := by decide +kernel
theorem dX6_manyOn_21 : decode cX6_manyOn 21 = .ok (.iadd, 1) := by decide +kernel
theorem dX6_manyOn_22 : decode cX6_manyOn 22 = .ok (.iaload, 1) := by decide +kernel
theorem dX6_manyOn_23 : decode cX6_manyOn 23 = .ok (.iload_n 1, 1) := by decide +kernel
theorem dX6_manyOn_24 : decode cX6_manyOn 24 = .ok (.if_icmp .ne 7, 3) := by decide +kernel
theorem dX6_manyOn_27 : decode cX6_manyOn 27 = .ok (.iconst 1, 1) := by decide +kernel
theorem dX6_manyOn_28 : decode cX6_manyOn 28 = .ok (.goto 4, 3) := by decide +kernel
theorem dX6_manyOn_31 : decode cX6_manyOn 31 = .ok (.iconst 0, 1) := by decide +kernel
theorem dX6_manyOn_32 : decode cX6_manyOn 32 = .ok (.iadd, 1) := by decide +kernel
theorem dX6_manyOn_33 : decode cX6_manyOn 33 = .ok (.istore_n 2, 1) := by decide +kernel
theorem dX6_manyOn_34 : decode cX6_manyOn 34 = .ok (.iinc 3 1, 3) := by decide +kernel
theorem dX6_manyOn_37 : decode cX6_manyOn 37 = .ok (.goto (-33), 3) := by decide +kernel
theorem dX6_manyOn_40 : decode cX6_manyOn 40 = .ok (.iload_n 2, 1) := by decide +kernel
theorem dX6_manyOn_41 : decode cX6_manyOn 41 = .ok (.ireturn, 1) := by decide +kernel
theorem okX6_manyOn : CalOK yX6_manyOn cX6_manyOn 4 (some .int) 1 := ⟨wd_73, wd_807, by decide +kernel⟩
theorem ovX6_manyOn : VirOK yX6_manyOn := ⟨wd_806, wd_27⟩
def FX6_manyOn_32 (B : Blk) (k4 : Int32 → Int32 → Int32 → Option Int32) (l1 : Int32) (l3 : Int32) (s0 : Int32) (s1 : Int32) : Option Int32 :=
  lt1 (s1 + s0) fun x9 =>
  lt1 (l3 + (1 : Int32)) fun x11 =>
  k4 l1 x9 x11
set_option maxRecDepth 100000 in
set_option maxHeartbeats 4000000 in
theorem wX6_manyOn_32 {E : WE} {V : VT} {A : Nat → Prop} {H0 : Heap} {M : Mem} (Cx : CX E RX6 cX6_manyOn 4 0 0) {r : Int32} {B : Blk} (hret : RetI E V A H0 cX6_manyOn .int r (jb M 12 B)) {k4 : Int32 → Int32 → Int32 → Option Int32} (hk4 : ∀ {H : Heap} {locs : List Loc} {ls : Array Slot} {l1 : Int32} {l2 : Int32} {l3 : Int32}, Wd V A H0 (jb M 12 B) (eS E) H locs → lv_has ls 4 [(0, .ref (vA V 12 0)), (1, .int l1), (2, .int l2), (3, .int l3)] → k4 l1 l2 l3 = some r → Wq E H locs 4 ls []) {H : Heap} {locs : List Loc} {ls : Array Slot} {l1 : Int32} {l3 : Int32} {s0 : Int32} {s1 : Int32} (hW : Wd V A H0 (jb M 12 B) (eS E) H locs) (hl : lv_has ls 4 [(0, .ref (vA V 12 0)), (1, .int l1), (3, .int l3)]) (hF : FX6_manyOn_32 B k4 l1 l3 s0 s1 = some r) : Wq E H locs 32 ls [.int s0, .int s1] := by
  unfold FX6_manyOn_32 at hF
  refine q_iadd Cx dX6_manyOn_32 ?_
  obtain ⟨x9, e10, hF⟩ := lt1_some hF
  refine q_topi e10 ?_
  refine q_istore_n (lv' := [(2, .int x9), (0, .ref (vA V 12 0)), (1, .int l1), (3, .int l3)]) Cx dX6_manyOn_33 rfl hl (by decide) rfl (fun ls hl => ?_)
  obtain ⟨x11, e12, hF⟩ := lt1_some hF
  refine q_iinc (k := 3) (v := x11) (lv' := [(3, .int x11), (2, .int x9), (0, .ref (vA V 12 0)), (1, .int l1)]) Cx dX6_manyOn_34 hl rfl e12.symm (by decide) rfl (fun ls hl => ?_)
  refine q_goto (tgt := 4) Cx dX6_manyOn_37 (by decide) ?_
  exact hk4 hW (lv_sub hl [2, 3, 1, 0] rfl) hF
def FX6_manyOn_4s (B : Blk) (k4 : Int32 → Int32 → Int32 → Option Int32) (l1 : Int32) (l2 : Int32) (l3 : Int32) : Option Int32 :=
  ld (B 1) 356 (0 : Int32) fun v1 =>
  if v1 ≤ l3 then
    some l2
  else
    ld (B 1) 356 ((4 : Int32) + l3) fun v5 =>
    if v5 = l1 then
      FX6_manyOn_32 B k4 l1 l3 (1 : Int32) l2
    else
      FX6_manyOn_32 B k4 l1 l3 (0 : Int32) l2
set_option maxRecDepth 100000 in
set_option maxHeartbeats 4000000 in
theorem wX6_manyOn_4s {E : WE} {V : VT} {A : Nat → Prop} {H0 : Heap} {M : Mem} (Cx : CX E RX6 cX6_manyOn 4 0 0) {r : Int32} {B : Blk} (hret : RetI E V A H0 cX6_manyOn .int r (jb M 12 B)) {k4 : Int32 → Int32 → Int32 → Option Int32} (hk4 : ∀ {H : Heap} {locs : List Loc} {ls : Array Slot} {l1 : Int32} {l2 : Int32} {l3 : Int32}, Wd V A H0 (jb M 12 B) (eS E) H locs → lv_has ls 4 [(0, .ref (vA V 12 0)), (1, .int l1), (2, .int l2), (3, .int l3)] → k4 l1 l2 l3 = some r → Wq E H locs 4 ls []) {H : Heap} {locs : List Loc} {ls : Array Slot} {l1 : Int32} {l2 : Int32} {l3 : Int32} (hW : Wd V A H0 (jb M 12 B) (eS E) H locs) (hl : lv_has ls 4 [(0, .ref (vA V 12 0)), (1, .int l1), (2, .int l2), (3, .int l3)]) (hF : FX6_manyOn_4s B k4 l1 l2 l3 = some r) : Wq E H locs 4 ls [] := by
  unfold FX6_manyOn_4s at hF
  refine q_iload_n Cx dX6_manyOn_4 rfl (lv_at hl 3 rfl) ?_
  refine q_aload_n Cx dX6_manyOn_5 rfl (lv_at hl 0 rfl) ?_
  refine q_get (v := .ref (vA V 12 1)) Cx hW oZ ic6 0 (by decide) rfl wd_714 dX6_manyOn_6 ?_
  refine q_iconst (v := (0 : Int32)) Cx dX6_manyOn_9 (by decide) ?_
  obtain ⟨h2, v1, e3, hF⟩ := ld_some hF
  refine qb_iald Cx hW az_1 h2 e3 dX6_manyOn_10 ?_
  refine q_icmp_ge (tgt := 40) Cx dX6_manyOn_11 (by decide) (fun c4 => ?_) (fun c4 => ?_)
  · have hF := (if_pos c4).symm.trans hF
    refine q_iload_n Cx dX6_manyOn_40 rfl (lv_at hl 2 rfl) ?_
    obtain rfl := Option.some.inj hF
    exact hret _ _ _ _ dX6_manyOn_41 (nI32 _) hW
  · have hF := (if_neg c4).symm.trans hF
    refine q_iload_n Cx dX6_manyOn_14 rfl (lv_at hl 2 rfl) ?_
    refine q_aload_n Cx dX6_manyOn_15 rfl (lv_at hl 0 rfl) ?_
    refine q_get (v := .ref (vA V 12 1)) Cx hW oZ ic6 0 (by decide) rfl wd_714 dX6_manyOn_16 ?_
    refine q_iconst (v := (4 : Int32)) Cx dX6_manyOn_19 (by decide) ?_
    refine q_iload_n Cx dX6_manyOn_20 rfl (lv_at hl 3 rfl) ?_
    refine q_iadd Cx dX6_manyOn_21 ?_
    obtain ⟨h6, v5, e7, hF⟩ := ld_some hF
    refine qb_iald Cx hW az_1 h6 e7 dX6_manyOn_22 ?_
    refine q_iload_n Cx dX6_manyOn_23 rfl (lv_at hl 1 rfl) ?_
    refine q_icmp_ne (tgt := 31) Cx dX6_manyOn_24 (by decide) (fun c8 => ?_) (fun c8 => ?_)
    · have hF := (if_neg c8).symm.trans hF
      refine q_iconst (v := (0 : Int32)) Cx dX6_manyOn_31 (by decide) ?_
      exact wX6_manyOn_32 Cx hret hk4 hW (lv_sub hl [0, 1, 3] rfl) hF
    · have hF := (if_pos c8).symm.trans hF
      refine q_iconst (v := (1 : Int32)) Cx dX6_manyOn_27 (by decide) ?_
      refine q_goto (tgt := 32) Cx dX6_manyOn_28 (by decide) ?_
      exact wX6_manyOn_32 Cx hret hk4 hW (lv_sub hl [0, 1, 3] rfl) hF
def FX6_manyOn_4 (B : Blk) : Nat → Int32 → Int32 → Int32 → Option Int32
  | 0 => fun _ _ _ => none
  | n + 1 => FX6_manyOn_4s B (FX6_manyOn_4 B n)
set_option maxRecDepth 100000 in
theorem wX6_manyOn_4 {E : WE} {V : VT} {A : Nat → Prop} {H0 : Heap} {M : Mem} (Cx : CX E RX6 cX6_manyOn 4 0 0) {r : Int32} {B : Blk} (hret : RetI E V A H0 cX6_manyOn .int r (jb M 12 B)) : ∀ (n : Nat) {H : Heap} {locs : List Loc} {ls : Array Slot} {l1 : Int32} {l2 : Int32} {l3 : Int32}, Wd V A H0 (jb M 12 B) (eS E) H locs → lv_has ls 4 [(0, .ref (vA V 12 0)), (1, .int l1), (2, .int l2), (3, .int l3)] → FX6_manyOn_4 B n l1 l2 l3 = some r → Wq E H locs 4 ls [] := by
  intro n
  induction n with
  | zero => intro _ _ _ _ _ _ hW hl hF; cases hF
  | succ n ih => intro _ _ _ _ _ _ hW hl hF; exact wX6_manyOn_4s Cx hret ih hW hl hF
def FX6_manyOn (B : Blk) (l1 : Int32) : Option Int32 :=
  FX6_manyOn_4 B fu l1 (0 : Int32) (0 : Int32)
set_option maxRecDepth 100000 in
set_option maxHeartbeats 4000000 in
theorem wX6_manyOn {E : WE} {V : VT} {A : Nat → Prop} {H0 : Heap} {M : Mem} (Cx : CX E RX6 cX6_manyOn 4 0 0) {r : Int32} {B : Blk} (hret : RetI E V A H0 cX6_manyOn .int r (jb M 12 B)) {H : Heap} {locs : List Loc} {ls : Array Slot} {l1 : Int32} (hW : Wd V A H0 (jb M 12 B) (eS E) H locs) (hl : lv_has ls 4 [(0, .ref (vA V 12 0)), (1, .int l1)]) (hF : FX6_manyOn B l1 = some r) : Wq E H locs 0 ls [] := by
  unfold FX6_manyOn at hF
  refine q_iconst (v := (0 : Int32)) Cx dX6_manyOn_0 (by decide) ?_
  refine q_istore_n (lv' := [(2, .int (0 : Int32)), (0, .ref (vA V 12 0)), (1, .int l1)]) Cx dX6_manyOn_1 rfl hl (by decide) rfl (fun ls hl => ?_)
  refine q_iconst (v := (0 : Int32)) Cx dX6_manyOn_2 (by decide) ?_
  refine q_istore_n (lv' := [(3, .int (0 : Int32)), (2, .int (0 : Int32)), (0, .ref (vA V 12 0)), (1, .int l1)]) Cx dX6_manyOn_3 rfl hl (by decide) rfl (fun ls hl => ?_)
  exact wX6_manyOn_4 Cx hret fu hW (lv_sub hl [2, 3, 1, 0] rfl) hF
set_option maxRecDepth 100000 in
theorem kX6_manyOn {l : Launch} {V : VT} {M : Mem} {B : Blk} {l1 : Int32} {r : Int32} (hF : FX6_manyOn B l1 = some r) : MetI l V yX6_manyOn cX6_manyOn 4 .int ({ frames := 0, cells := 0, slots := 0, locals := 0 } : Room) [.ref (vA V 12 0), .int l1] r (jb M 12 B) (jb M 12 B) := metI_of (by decide) (Nat.le_of_ble_eq_true rfl) (fun E H0 _ Cx hret H locs ls hW hl => wX6_manyOn Cx hret hW hl hF)
theorem dX6_taskAt_0 : decode cX6_taskAt 0 = .ok (.bipush (-6), 2) := by decide +kernel
theorem dX6_taskAt_2 : decode cX6_taskAt 2 = .ok (.istore_n 3, 1) := by decide +kernel
theorem dX6_taskAt_3 : decode cX6_taskAt 3 = .ok (.iconst 0, 1) := by decide +kernel
theorem dX6_taskAt_4 : decode cX6_taskAt 4 = .ok (.istore 4, 2) := by decide +kernel
theorem dX6_taskAt_6 : decode cX6_taskAt 6 = .ok (.iload 4, 2) := by decide +kernel
theorem dX6_taskAt_8 : decode cX6_taskAt 8 = .ok (.aload_n 0, 1) := by decide +kernel
theorem dX6_taskAt_9 : decode cX6_taskAt 9 = .ok (.getfield 7, 3) := by decide +kernel
theorem dX6_taskAt_12 : decode cX6_taskAt 12 = .ok (.iconst 0, 1) := by decide +kernel
theorem dX6_taskAt_13 : decode cX6_taskAt 13 = .ok (.iaload, 1) := by decide +kernel
theorem dX6_taskAt_14 : decode cX6_taskAt 14 = .ok (.if_icmp .ge 44, 3) := by decide +kernel
theorem dX6_taskAt_17 : decode cX6_taskAt 17 = .ok (.aload_n 0, 1) := by decide +kernel
theorem dX6_taskAt_18 : decode cX6_taskAt 18 = .ok (.getfield 7, 3) := by decide +kernel
theorem dX6_taskAt_21 : decode cX6_taskAt 21 = .ok (.iconst 4, 1) := by decide +kernel
theorem dX6_taskAt_22 : decode cX6_taskAt 22 = .ok (.iload 4, 2) := by decide +kernel
theorem dX6_taskAt_24 : decode cX6_taskAt 24 = .ok (.iadd, 1) := by decide +kernel
theorem dX6_taskAt_25 : decode cX6_taskAt 25 = .ok (.iaload, 1) := by decide +kernel
theorem dX6_taskAt_26 : decode cX6_taskAt 26 = .ok (.iload_n 1, 1) := by decide +kernel
theorem dX6_taskAt_27 : decode cX6_taskAt 27 = .ok (.if_icmp .ne 23, 3) := by decide +kernel
theorem dX6_taskAt_30 : decode cX6_taskAt 30 = .ok (.aload_n 0, 1) := by decide +kernel
theorem dX6_taskAt_31 : decode cX6_taskAt 31 = .ok (.getfield 7, 3) := by decide +kernel
theorem dX6_taskAt_34 : decode cX6_taskAt 34 = .ok (.sipush 172, 3) := by decide +kernel
theorem dX6_taskAt_37 : decode cX6_taskAt 37 = .ok (.iload 4, 2) := by decide +kernel
theorem dX6_taskAt_39 : decode cX6_taskAt 39 = .ok (.iadd, 1) := by decide +kernel
theorem dX6_taskAt_40 : decode cX6_taskAt 40 = .ok (.iaload, 1) := by decide +kernel
theorem dX6_taskAt_41 : decode cX6_taskAt 41 = .ok (.iload_n 2, 1) := by decide +kernel
theorem dX6_taskAt_42 : decode cX6_taskAt 42 = .ok (.if_icmp .ne 8, 3) := by decide +kernel
theorem dX6_taskAt_45 : decode cX6_taskAt 45 = .ok (.iload 4, 2) := by decide +kernel
theorem dX6_taskAt_47 : decode cX6_taskAt 47 = .ok (.goto 4, 3) := by decide +kernel
theorem dX6_taskAt_50 : decode cX6_taskAt 50 = .ok (.iload_n 3, 1) := by decide +kernel
theorem dX6_taskAt_51 : decode cX6_taskAt 51 = .ok (.istore_n 3, 1) := by decide +kernel
theorem dX6_taskAt_52 : decode cX6_taskAt 52 = .ok (.iinc 4 1, 3) := by decide +kernel
theorem dX6_taskAt_55 : decode cX6_taskAt 55 = .ok (.goto (-49), 3) := by decide +kernel
theorem dX6_taskAt_58 : decode cX6_taskAt 58 = .ok (.iload_n 3, 1) := by decide +kernel
theorem dX6_taskAt_59 : decode cX6_taskAt 59 = .ok (.ireturn, 1) := by decide +kernel
theorem okX6_taskAt : CalOK yX6_taskAt cX6_taskAt 5 (some .int) 2 := ⟨wd_73, wd_831, by decide +kernel⟩
theorem ovX6_taskAt : VirOK yX6_taskAt := ⟨wd_830, wd_31⟩
def FX6_taskAt_50 (B : Blk) (k6 : Int32 → Int32 → Int32 → Int32 → Option Int32) (l1 : Int32) (l2 : Int32) (l3 : Int32) (l4 : Int32) : Option Int32 :=
  lt1 (l4 + (1 : Int32)) fun x9 =>
  k6 l1 l2 l3 x9
set_option maxRecDepth 100000 in
set_option maxHeartbeats 4000000 in
theorem wX6_taskAt_50 {E : WE} {V : VT} {A : Nat → Prop} {H0 : Heap} {M : Mem} (Cx : CX E RX6 cX6_taskAt 5 0 0) {r : Int32} {B : Blk} (hret : RetI E V A H0 cX6_taskAt .int r (jb M 12 B)) {k6 : Int32 → Int32 → Int32 → Int32 → Option Int32} (hk6 : ∀ {H : Heap} {locs : List Loc} {ls : Array Slot} {l1 : Int32} {l2 : Int32} {l3 : Int32} {l4 : Int32}, Wd V A H0 (jb M 12 B) (eS E) H locs → lv_has ls 5 [(0, .ref (vA V 12 0)), (1, .int l1), (2, .int l2), (3, .int l3), (4, .int l4)] → k6 l1 l2 l3 l4 = some r → Wq E H locs 6 ls []) {H : Heap} {locs : List Loc} {ls : Array Slot} {l1 : Int32} {l2 : Int32} {l3 : Int32} {l4 : Int32} (hW : Wd V A H0 (jb M 12 B) (eS E) H locs) (hl : lv_has ls 5 [(0, .ref (vA V 12 0)), (1, .int l1), (2, .int l2), (3, .int l3), (4, .int l4)]) (hF : FX6_taskAt_50 B k6 l1 l2 l3 l4 = some r) : Wq E H locs 50 ls [] := by
  unfold FX6_taskAt_50 at hF
  refine q_iload_n Cx dX6_taskAt_50 rfl (lv_at hl 3 rfl) ?_
  refine q_istore_n (lv' := [(3, .int l3), (0, .ref (vA V 12 0)), (1, .int l1), (2, .int l2), (4, .int l4)]) Cx dX6_taskAt_51 rfl hl (by decide) rfl (fun ls hl => ?_)
  obtain ⟨x9, e10, hF⟩ := lt1_some hF
  refine q_iinc (k := 4) (v := x9) (lv' := [(4, .int x9), (3, .int l3), (0, .ref (vA V 12 0)), (1, .int l1), (2, .int l2)]) Cx dX6_taskAt_52 hl rfl e10.symm (by decide) rfl (fun ls hl => ?_)
  refine q_goto (tgt := 6) Cx dX6_taskAt_55 (by decide) ?_
  exact hk6 hW (lv_sub hl [2, 3, 4, 1, 0] rfl) hF
def FX6_taskAt_6s (B : Blk) (k6 : Int32 → Int32 → Int32 → Int32 → Option Int32) (l1 : Int32) (l2 : Int32) (l3 : Int32) (l4 : Int32) : Option Int32 :=
  ld (B 1) 356 (0 : Int32) fun v1 =>
  if v1 ≤ l4 then
    some l3
  else
    ld (B 1) 356 ((4 : Int32) + l4) fun v5 =>
    if v5 = l1 then
      ld (B 1) 356 ((172 : Int32) + l4) fun v11 =>
      if v11 = l2 then
        lt1 (l4 + (1 : Int32)) fun x15 =>
        k6 l1 l2 l4 x15
      else
        FX6_taskAt_50 B k6 l1 l2 l3 l4
    else
      FX6_taskAt_50 B k6 l1 l2 l3 l4
set_option maxRecDepth 100000 in
set_option maxHeartbeats 4000000 in
theorem wX6_taskAt_6s {E : WE} {V : VT} {A : Nat → Prop} {H0 : Heap} {M : Mem} (Cx : CX E RX6 cX6_taskAt 5 0 0) {r : Int32} {B : Blk} (hret : RetI E V A H0 cX6_taskAt .int r (jb M 12 B)) {k6 : Int32 → Int32 → Int32 → Int32 → Option Int32} (hk6 : ∀ {H : Heap} {locs : List Loc} {ls : Array Slot} {l1 : Int32} {l2 : Int32} {l3 : Int32} {l4 : Int32}, Wd V A H0 (jb M 12 B) (eS E) H locs → lv_has ls 5 [(0, .ref (vA V 12 0)), (1, .int l1), (2, .int l2), (3, .int l3), (4, .int l4)] → k6 l1 l2 l3 l4 = some r → Wq E H locs 6 ls []) {H : Heap} {locs : List Loc} {ls : Array Slot} {l1 : Int32} {l2 : Int32} {l3 : Int32} {l4 : Int32} (hW : Wd V A H0 (jb M 12 B) (eS E) H locs) (hl : lv_has ls 5 [(0, .ref (vA V 12 0)), (1, .int l1), (2, .int l2), (3, .int l3), (4, .int l4)]) (hF : FX6_taskAt_6s B k6 l1 l2 l3 l4 = some r) : Wq E H locs 6 ls [] := by
  unfold FX6_taskAt_6s at hF
  refine q_iload Cx dX6_taskAt_6 (lv_at hl 4 rfl) ?_
  refine q_aload_n Cx dX6_taskAt_8 rfl (lv_at hl 0 rfl) ?_
  refine q_get (v := .ref (vA V 12 1)) Cx hW oZ ic6 0 (by decide) rfl wd_714 dX6_taskAt_9 ?_
  refine q_iconst (v := (0 : Int32)) Cx dX6_taskAt_12 (by decide) ?_
  obtain ⟨h2, v1, e3, hF⟩ := ld_some hF
  refine qb_iald Cx hW az_1 h2 e3 dX6_taskAt_13 ?_
  refine q_icmp_ge (tgt := 58) Cx dX6_taskAt_14 (by decide) (fun c4 => ?_) (fun c4 => ?_)
  · have hF := (if_pos c4).symm.trans hF
    refine q_iload_n Cx dX6_taskAt_58 rfl (lv_at hl 3 rfl) ?_
    obtain rfl := Option.some.inj hF
    exact hret _ _ _ _ dX6_taskAt_59 (nI32 _) hW
  · have hF := (if_neg c4).symm.trans hF
    refine q_aload_n Cx dX6_taskAt_17 rfl (lv_at hl 0 rfl) ?_
    refine q_get (v := .ref (vA V 12 1)) Cx hW oZ ic6 0 (by decide) rfl wd_714 dX6_taskAt_18 ?_
    refine q_iconst (v := (4 : Int32)) Cx dX6_taskAt_21 (by decide) ?_
    refine q_iload Cx dX6_taskAt_22 (lv_at hl 4 rfl) ?_
    refine q_iadd Cx dX6_taskAt_24 ?_
    obtain ⟨h6, v5, e7, hF⟩ := ld_some hF
    refine qb_iald Cx hW az_1 h6 e7 dX6_taskAt_25 ?_
    refine q_iload_n Cx dX6_taskAt_26 rfl (lv_at hl 1 rfl) ?_
    refine q_icmp_ne (tgt := 50) Cx dX6_taskAt_27 (by decide) (fun c8 => ?_) (fun c8 => ?_)
    · have hF := (if_neg c8).symm.trans hF
      exact wX6_taskAt_50 Cx hret hk6 hW (lv_sub hl [0, 1, 2, 3, 4] rfl) hF
    · have hF := (if_pos c8).symm.trans hF
      refine q_aload_n Cx dX6_taskAt_30 rfl (lv_at hl 0 rfl) ?_
      refine q_get (v := .ref (vA V 12 1)) Cx hW oZ ic6 0 (by decide) rfl wd_714 dX6_taskAt_31 ?_
      refine q_sipush (v := (172 : Int32)) Cx dX6_taskAt_34 (by decide) ?_
      refine q_iload Cx dX6_taskAt_37 (lv_at hl 4 rfl) ?_
      refine q_iadd Cx dX6_taskAt_39 ?_
      obtain ⟨h12, v11, e13, hF⟩ := ld_some hF
      refine qb_iald Cx hW az_1 h12 e13 dX6_taskAt_40 ?_
      refine q_iload_n Cx dX6_taskAt_41 rfl (lv_at hl 2 rfl) ?_
      refine q_icmp_ne (tgt := 50) Cx dX6_taskAt_42 (by decide) (fun c14 => ?_) (fun c14 => ?_)
      · have hF := (if_neg c14).symm.trans hF
        exact wX6_taskAt_50 Cx hret hk6 hW (lv_sub hl [0, 1, 2, 3, 4] rfl) hF
      · have hF := (if_pos c14).symm.trans hF
        refine q_iload Cx dX6_taskAt_45 (lv_at hl 4 rfl) ?_
        refine q_goto (tgt := 51) Cx dX6_taskAt_47 (by decide) ?_
        refine q_istore_n (lv' := [(3, .int l4), (0, .ref (vA V 12 0)), (1, .int l1), (2, .int l2), (4, .int l4)]) Cx dX6_taskAt_51 rfl hl (by decide) rfl (fun ls hl => ?_)
        obtain ⟨x15, e16, hF⟩ := lt1_some hF
        refine q_iinc (k := 4) (v := x15) (lv' := [(4, .int x15), (3, .int l4), (0, .ref (vA V 12 0)), (1, .int l1), (2, .int l2)]) Cx dX6_taskAt_52 hl rfl e16.symm (by decide) rfl (fun ls hl => ?_)
        refine q_goto (tgt := 6) Cx dX6_taskAt_55 (by decide) ?_
        exact hk6 hW (lv_sub hl [2, 3, 4, 1, 0] rfl) hF
def FX6_taskAt_6 (B : Blk) : Nat → Int32 → Int32 → Int32 → Int32 → Option Int32
  | 0 => fun _ _ _ _ => none
  | n + 1 => FX6_taskAt_6s B (FX6_taskAt_6 B n)
set_option maxRecDepth 100000 in
theorem wX6_taskAt_6 {E : WE} {V : VT} {A : Nat → Prop} {H0 : Heap} {M : Mem} (Cx : CX E RX6 cX6_taskAt 5 0 0) {r : Int32} {B : Blk} (hret : RetI E V A H0 cX6_taskAt .int r (jb M 12 B)) : ∀ (n : Nat) {H : Heap} {locs : List Loc} {ls : Array Slot} {l1 : Int32} {l2 : Int32} {l3 : Int32} {l4 : Int32}, Wd V A H0 (jb M 12 B) (eS E) H locs → lv_has ls 5 [(0, .ref (vA V 12 0)), (1, .int l1), (2, .int l2), (3, .int l3), (4, .int l4)] → FX6_taskAt_6 B n l1 l2 l3 l4 = some r → Wq E H locs 6 ls [] := by
  intro n
  induction n with
  | zero => intro _ _ _ _ _ _ _ hW hl hF; cases hF
  | succ n ih => intro _ _ _ _ _ _ _ hW hl hF; exact wX6_taskAt_6s Cx hret ih hW hl hF
def FX6_taskAt (B : Blk) (l1 : Int32) (l2 : Int32) : Option Int32 :=
  FX6_taskAt_6 B fu l1 l2 (-6 : Int32) (0 : Int32)
set_option maxRecDepth 100000 in
set_option maxHeartbeats 4000000 in
theorem wX6_taskAt {E : WE} {V : VT} {A : Nat → Prop} {H0 : Heap} {M : Mem} (Cx : CX E RX6 cX6_taskAt 5 0 0) {r : Int32} {B : Blk} (hret : RetI E V A H0 cX6_taskAt .int r (jb M 12 B)) {H : Heap} {locs : List Loc} {ls : Array Slot} {l1 : Int32} {l2 : Int32} (hW : Wd V A H0 (jb M 12 B) (eS E) H locs) (hl : lv_has ls 5 [(0, .ref (vA V 12 0)), (1, .int l1), (2, .int l2)]) (hF : FX6_taskAt B l1 l2 = some r) : Wq E H locs 0 ls [] := by
  unfold FX6_taskAt at hF
  refine q_bipush (v := (-6 : Int32)) Cx dX6_taskAt_0 (by decide) ?_
  refine q_istore_n (lv' := [(3, .int (-6 : Int32)), (0, .ref (vA V 12 0)), (1, .int l1), (2, .int l2)]) Cx dX6_taskAt_2 rfl hl (by decide) rfl (fun ls hl => ?_)
  refine q_iconst (v := (0 : Int32)) Cx dX6_taskAt_3 (by decide) ?_
  refine q_istore (lv' := [(4, .int (0 : Int32)), (3, .int (-6 : Int32)), (0, .ref (vA V 12 0)), (1, .int l1), (2, .int l2)]) Cx dX6_taskAt_4 hl (by decide) rfl (fun ls hl => ?_)
  exact wX6_taskAt_6 Cx hret fu hW (lv_sub hl [2, 3, 4, 1, 0] rfl) hF
set_option maxRecDepth 100000 in
theorem kX6_taskAt {l : Launch} {V : VT} {M : Mem} {B : Blk} {l1 : Int32} {l2 : Int32} {r : Int32} (hF : FX6_taskAt B l1 l2 = some r) : MetI l V yX6_taskAt cX6_taskAt 5 .int ({ frames := 0, cells := 0, slots := 0, locals := 0 } : Room) [.ref (vA V 12 0), .int l1, .int l2] r (jb M 12 B) (jb M 12 B) := metI_of (by decide) (Nat.le_of_ble_eq_true rfl) (fun E H0 _ Cx hret H locs ls hW hl => wX6_taskAt Cx hret hW hl hF)
theorem dX6_endOf_0 : decode cX6_endOf 0 = .ok (.aload_n 0, 1) := by decide +kernel
theorem dX6_endOf_1 : decode cX6_endOf 1 = .ok (.getfield 30, 3) := by decide +kernel
theorem dX6_endOf_4 : decode cX6_endOf 4 = .ok (.iload_n 1, 1) := by decide +kernel
theorem dX6_endOf_5 : decode cX6_endOf 5 = .ok (.iaload, 1) := by decide +kernel
theorem dX6_endOf_6 : decode cX6_endOf 6 = .ok (.aload_n 0, 1) := by decide +kernel
theorem dX6_endOf_7 : decode cX6_endOf 7 = .ok (.getfield 7, 3) := by decide +kernel
theorem dX6_endOf_10 : decode cX6_endOf 10 = .ok (.bipush 28, 2) := by decide +kernel
theorem dX6_endOf_12 : decode cX6_endOf 12 = .ok (.iload_n 1, 1) := by decide +kernel
theorem dX6_endOf_13 : decode cX6_endOf 13 = .ok (.iadd, 1) := by decide +kernel
theorem dX6_endOf_14 : decode cX6_endOf 14 = .ok (.iaload, 1) := by decide +kernel
theorem dX6_endOf_15 : decode cX6_endOf 15 = .ok (.iadd, 1) := by decide +kernel
theorem dX6_endOf_16 : decode cX6_endOf 16 = .ok (.iload_n 1, 1) := by decide +kernel
theorem dX6_endOf_17 : decode cX6_endOf 17 = .ok (.aload_n 0, 1) := by decide +kernel
theorem dX6_endOf_18 : decode cX6_endOf 18 = .ok (.getfield 36, 3) := by decide +kernel
theorem dX6_endOf_21 : decode cX6_endOf 21 = .ok (.if_icmp .ne 10, 3) := by decide +kernel
theorem dX6_endOf_24 : decode cX6_endOf 24 = .ok (.aload_n 0, 1) := by decide +kernel
theorem dX6_endOf_25 : decode cX6_endOf 25 = .ok (.getfield 63, 3) := by decide +kernel
theorem dX6_endOf_28 : decode cX6_endOf 28 = .ok (.goto 4, 3) := by decide +kernel
theorem dX6_endOf_31 : decode cX6_endOf 31 = .ok (.iconst 0, 1) := by decide +kernel
theorem dX6_endOf_32 : decode cX6_endOf 32 = .ok (.iadd, 1) := by decide +kernel
theorem dX6_endOf_33 : decode cX6_endOf 33 = .ok (.ireturn, 1) := by decide +kernel
theorem okX6_endOf : CalOK yX6_endOf cX6_endOf 2 (some .int) 1 := ⟨wd_73, wd_827, by decide +kernel⟩
theorem ovX6_endOf : VirOK yX6_endOf := ⟨wd_826, wd_30⟩
def FX6_endOf (B : Blk) (l1 : Int32) : Option Int32 :=
  ld (B 7) 24 l1 fun v1 =>
  ld (B 1) 356 ((28 : Int32) + l1) fun v4 =>
  if l1 = ((B 0) 11) then
    some ((v1 + v4) + ((B 0) 12))
  else
    some ((v1 + v4) + (0 : Int32))
set_option maxRecDepth 100000 in
set_option maxHeartbeats 4000000 in
theorem wX6_endOf {E : WE} {V : VT} {A : Nat → Prop} {H0 : Heap} {M : Mem} (Cx : CX E RX6 cX6_endOf 2 0 0) {r : Int32} {B : Blk} (hret : RetI E V A H0 cX6_endOf .int r (jb M 12 B)) {H : Heap} {locs : List Loc} {ls : Array Slot} {l1 : Int32} (hW : Wd V A H0 (jb M 12 B) (eS E) H locs) (hl : lv_has ls 2 [(0, .ref (vA V 12 0)), (1, .int l1)]) (hF : FX6_endOf B l1 = some r) : Wq E H locs 0 ls [] := by
  unfold FX6_endOf at hF
  refine q_aload_n Cx dX6_endOf_0 rfl (lv_at hl 0 rfl) ?_
  refine q_get (v := .ref (vA V 12 7)) Cx hW oZ ic6 9 (by decide) rfl wd_723 dX6_endOf_1 ?_
  refine q_iload_n Cx dX6_endOf_4 rfl (lv_at hl 1 rfl) ?_
  obtain ⟨h2, v1, e3, hF⟩ := ld_some hF
  refine qb_iald Cx hW az_7 h2 e3 dX6_endOf_5 ?_
  refine q_aload_n Cx dX6_endOf_6 rfl (lv_at hl 0 rfl) ?_
  refine q_get (v := .ref (vA V 12 1)) Cx hW oZ ic6 0 (by decide) rfl wd_714 dX6_endOf_7 ?_
  refine q_bipush (v := (28 : Int32)) Cx dX6_endOf_10 (by decide) ?_
  refine q_iload_n Cx dX6_endOf_12 rfl (lv_at hl 1 rfl) ?_
  refine q_iadd Cx dX6_endOf_13 ?_
  obtain ⟨h5, v4, e6, hF⟩ := ld_some hF
  refine qb_iald Cx hW az_1 h5 e6 dX6_endOf_14 ?_
  refine q_iadd Cx dX6_endOf_15 ?_
  refine q_iload_n Cx dX6_endOf_16 rfl (lv_at hl 1 rfl) ?_
  refine q_aload_n Cx dX6_endOf_17 rfl (lv_at hl 0 rfl) ?_
  refine qb_get (v := .int ((B 0) 11)) Cx hW oZ ic6 11 (by decide) rfl wd_725 dX6_endOf_18 ?_
  refine q_icmp_ne (tgt := 31) Cx dX6_endOf_21 (by decide) (fun c7 => ?_) (fun c7 => ?_)
  · have hF := (if_neg c7).symm.trans hF
    refine q_iconst (v := (0 : Int32)) Cx dX6_endOf_31 (by decide) ?_
    refine q_iadd Cx dX6_endOf_32 ?_
    obtain rfl := Option.some.inj hF
    exact hret _ _ _ _ dX6_endOf_33 (nI32 _) hW
  · have hF := (if_pos c7).symm.trans hF
    refine q_aload_n Cx dX6_endOf_24 rfl (lv_at hl 0 rfl) ?_
    refine qb_get (v := .int ((B 0) 12)) Cx hW oZ ic6 12 (by decide) rfl wd_726 dX6_endOf_25 ?_
    refine q_goto (tgt := 32) Cx dX6_endOf_28 (by decide) ?_
    refine q_iadd Cx dX6_endOf_32 ?_
    obtain rfl := Option.some.inj hF
    exact hret _ _ _ _ dX6_endOf_33 (nI32 _) hW
set_option maxRecDepth 100000 in
theorem kX6_endOf {l : Launch} {V : VT} {M : Mem} {B : Blk} {l1 : Int32} {r : Int32} (hF : FX6_endOf B l1 = some r) : MetI l V yX6_endOf cX6_endOf 2 .int ({ frames := 0, cells := 0, slots := 0, locals := 0 } : Room) [.ref (vA V 12 0), .int l1] r (jb M 12 B) (jb M 12 B) := metI_of (by decide) (Nat.le_of_ble_eq_true rfl) (fun E H0 _ Cx hret H locs ls hW hl => wX6_endOf Cx hret hW hl hF)
theorem dX6_reckon_0 : decode cX6_reckon 0 = .ok (.iconst 1, 1) := by decide +kernel
theorem dX6_reckon_1 : decode cX6_reckon 1 = .ok (.istore_n 1, 1) := by decide +kernel
theorem dX6_reckon_2 : decode cX6_reckon 2 = .ok (.iconst 0, 1) := by decide +kernel
theorem dX6_reckon_3 : decode cX6_reckon 3 = .ok (.istore_n 2, 1) := by decide +kernel
theorem dX6_reckon_4 : decode cX6_reckon 4 = .ok (.iload_n 2, 1) := by decide +kernel
theorem dX6_reckon_5 : decode cX6_reckon 5 = .ok (.aload_n 0, 1) := by decide +kernel
theorem dX6_reckon_6 : decode cX6_reckon 6 = .ok (.getfield 7, 3) := by decide +kernel
theorem dX6_reckon_9 : decode cX6_reckon 9 = .ok (.iconst 0, 1) := by decide +kernel
theorem dX6_reckon_10 : decode cX6_reckon 10 = .ok (.iaload, 1) := by decide +kernel
theorem dX6_reckon_11 : decode cX6_reckon 11 = .ok (.if_icmp .ge 27, 3) := by decide +kernel
theorem dX6_reckon_14 : decode cX6_reckon 14 = .ok (.aload_n 0, 1) := by decide +kernel
theorem dX6_reckon_15 : decode cX6_reckon 15 = .ok (.getfield 30, 3) := by decide +kernel
theorem dX6_reckon_18 : decode cX6_reckon 18 = .ok (.iload_n 2, 1) := by decide +kernel
theorem dX6_reckon_19 : decode cX6_reckon 19 = .ok (.iconst 0, 1) := by decide +kernel
theorem dX6_reckon_20 : decode cX6_reckon 20 = .ok (.iastore, 1) := by decide +kernel
theorem dX6_reckon_21 : decode cX6_reckon 21 = .ok (.aload_n 0, 1) := by decide +kernel
theorem dX6_reckon_22 : decode cX6_reckon 22 = .ok (.getfield 33, 3) := by decide +kernel
theorem dX6_reckon_25 : decode cX6_reckon 25 = .ok (.iload_n 2, 1) := by decide +kernel
theorem dX6_reckon_26 : decode cX6_reckon 26 = .ok (.aload_n 0, 1) := by decide +kernel
theorem dX6_reckon_27 : decode cX6_reckon 27 = .ok (.iload_n 2, 1) := by decide +kernel
theorem dX6_reckon_28 : decode cX6_reckon 28 = .ok (.invokevirtual 66, 3) := by decide +kernel
theorem dX6_reckon_31 : decode cX6_reckon 31 = .ok (.iastore, 1) := by decide +kernel
theorem dX6_reckon_32 : decode cX6_reckon 32 = .ok (.iinc 2 1, 3) := by decide +kernel
theorem dX6_reckon_35 : decode cX6_reckon 35 = .ok (.goto (-31), 3) := by decide +kernel
theorem dX6_reckon_38 : decode cX6_reckon 38 = .ok (.iconst 0, 1) := by decide +kernel
theorem dX6_reckon_39 : decode cX6_reckon 39 = .ok (.istore_n 2, 1) := by decide +kernel
theorem dX6_reckon_40 : decode cX6_reckon 40 = .ok (.iload_n 2, 1) := by decide +kernel
theorem dX6_reckon_41 : decode cX6_reckon 41 = .ok (.aload_n 0, 1) := by decide +kernel
theorem dX6_reckon_42 : decode cX6_reckon 42 = .ok (.getfield 7, 3) := by decide +kernel
theorem dX6_reckon_45 : decode cX6_reckon 45 = .ok (.iconst 0, 1) := by decide +kernel
theorem dX6_reckon_46 : decode cX6_reckon 46 = .ok (.iaload, 1) := by decide +kernel
theorem dX6_reckon_47 : decode cX6_reckon 47 = .ok (.if_icmp .gt 169, 3) := by decide +kernel
theorem dX6_reckon_50 : decode cX6_reckon 50 = .ok (.iload_n 1, 1) := by decide +kernel
theorem dX6_reckon_51 : decode cX6_reckon 51 = .ok (.ifCond .eq 165, 3) := by decide +kernel
theorem dX6_reckon_54 : decode cX6_reckon 54 = .ok (.iconst 0, 1) := by decide +kernel
theorem dX6_reckon_55 : decode cX6_reckon 55 = .ok (.istore_n 1, 1) := by decide +kernel
theorem dX6_reckon_56 : decode cX6_reckon 56 = .ok (.iconst 0, 1) := by decide +kernel
theorem dX6_reckon_57 : decode cX6_reckon 57 = .ok (.istore_n 3, 1) := by decide +kernel
theorem dX6_reckon_58 : decode cX6_reckon 58 = .ok (.iload_n 3, 1) := by decide +kernel
theorem dX6_reckon_59 : decode cX6_reckon 59 = .ok (.aload_n 0, 1) := by decide +kernel
theorem dX6_reckon_60 : decode cX6_reckon 60 = .ok (.getfield 7, 3) := by decide +kernel
theorem dX6_reckon_63 : decode cX6_reckon 63 = .ok (.iconst 0, 1) := by decide +kernel
theorem dX6_reckon_64 : decode cX6_reckon 64 = .ok (.iaload, 1) := by decide +kernel
theorem dX6_reckon_65 : decode cX6_reckon 65 = .ok (.if_icmp .ge 145, 3) := by decide +kernel
theorem dX6_reckon_68 : decode cX6_reckon 68 = .ok (.aload_n 0, 1) := by decide +kernel
theorem dX6_reckon_69 : decode cX6_reckon 69 = .ok (.aload_n 0, 1) := by decide +kernel
theorem dX6_reckon_70 : decode cX6_reckon 70 = .ok (.getfield 7, 3) := by decide +kernel
theorem dX6_reckon_73 : decode cX6_reckon 73 = .ok (.iconst 4, 1) := by decide +kernel
theorem dX6_reckon_74 : decode cX6_reckon 74 = .ok (.iload_n 3, 1) := by decide +kernel
theorem dX6_reckon_75 : decode cX6_reckon 75 = .ok (.iadd, 1) := by decide +kernel
theorem dX6_reckon_76 : decode cX6_reckon 76 = .ok (.iaload, 1) := by decide +kernel
theorem dX6_reckon_77 : decode cX6_reckon 77 = .ok (.aload_n 0, 1) := by decide +kernel
theorem dX6_reckon_78 : decode cX6_reckon 78 = .ok (.getfield 7, 3) := by decide +kernel
theorem dX6_reckon_81 : decode cX6_reckon 81 = .ok (.sipush 172, 3) := by decide +kernel
theorem dX6_reckon_84 : decode cX6_reckon 84 = .ok (.iload_n 3, 1) := by decide +kernel
theorem dX6_reckon_85 : decode cX6_reckon 85 = .ok (.iadd, 1) := by decide +kernel
theorem dX6_reckon_86 : decode cX6_reckon 86 = .ok (.iaload, 1) := by decide +kernel
theorem dX6_reckon_87 : decode cX6_reckon 87 = .ok (.iconst 1, 1) := by decide +kernel
theorem dX6_reckon_88 : decode cX6_reckon 88 = .ok (.isub, 1) := by decide +kernel
theorem dX6_reckon_89 : decode cX6_reckon 89 = .ok (.invokevirtual 70, 3) := by decide +kernel
theorem dX6_reckon_92 : decode cX6_reckon 92 = .ok (.istore 4, 2) := by decide +kernel
theorem dX6_reckon_94 : decode cX6_reckon 94 = .ok (.iload 4, 2) := by decide +kernel
theorem dX6_reckon_96 : decode cX6_reckon 96 = .ok (.bipush (-6), 2) := by decide +kernel
theorem dX6_reckon_98 : decode cX6_reckon 98 = .ok (.if_icmp .ne 7, 3) := by decide +kernel
theorem dX6_reckon_101 : decode cX6_reckon 101 = .ok (.iconst 0, 1) := by decide +kernel
theorem dX6_reckon_102 : decode cX6_reckon 102 = .ok (.goto 10, 3) := by decide +kernel
theorem dX6_reckon_105 : decode cX6_reckon 105 = .ok (.aload_n 0, 1) := by decide +kernel
theorem dX6_reckon_106 : decode cX6_reckon 106 = .ok (.getfield 33, 3) := by decide +kernel
theorem dX6_reckon_109 : decode cX6_reckon 109 = .ok (.iload 4, 2) := by decide +kernel
theorem dX6_reckon_111 : decode cX6_reckon 111 = .ok (.iaload, 1) := by decide +kernel
theorem dX6_reckon_112 : decode cX6_reckon 112 = .ok (.istore 5, 2) := by decide +kernel
theorem dX6_reckon_114 : decode cX6_reckon 114 = .ok (.aload_n 0, 1) := by decide +kernel
theorem dX6_reckon_115 : decode cX6_reckon 115 = .ok (.getfield 7, 3) := by decide +kernel
theorem dX6_reckon_118 : decode cX6_reckon 118 = .ok (.bipush 100, 2) := by decide +kernel
theorem dX6_reckon_120 : decode cX6_reckon 120 = .ok (.iload_n 3, 1) := by decide +kernel
theorem dX6_reckon_121 : decode cX6_reckon 121 = .ok (.iadd, 1) := by decide +kernel
theorem dX6_reckon_122 : decode cX6_reckon 122 = .ok (.iaload, 1) := by decide +kernel
theorem dX6_reckon_123 : decode cX6_reckon 123 = .ok (.bipush (-6), 2) := by decide +kernel
theorem dX6_reckon_125 : decode cX6_reckon 125 = .ok (.if_icmp .ne 7, 3) := by decide +kernel
theorem dX6_reckon_128 : decode cX6_reckon 128 = .ok (.iconst 0, 1) := by decide +kernel
theorem dX6_reckon_129 : decode cX6_reckon 129 = .ok (.goto 17, 3) := by decide +kernel
theorem dX6_reckon_132 : decode cX6_reckon 132 = .ok (.aload_n 0, 1) := by decide +kernel
theorem dX6_reckon_133 : decode cX6_reckon 133 = .ok (.getfield 33, 3) := by decide +kernel
theorem dX6_reckon_136 : decode cX6_reckon 136 = .ok (.aload_n 0, 1) := by decide +kernel
theorem dX6_reckon_137 : decode cX6_reckon 137 = .ok (.getfield 7, 3) := by decide +kernel
theorem dX6_reckon_140 : decode cX6_reckon 140 = .ok (.bipush 100, 2) := by decide +kernel
theorem dX6_reckon_142 : decode cX6_reckon 142 = .ok (.iload_n 3, 1) := by decide +kernel
theorem dX6_reckon_143 : decode cX6_reckon 143 = .ok (.iadd, 1) := by decide +kernel
theorem dX6_reckon_144 : decode cX6_reckon 144 = .ok (.iaload, 1) := by decide +kernel
theorem dX6_reckon_145 : decode cX6_reckon 145 = .ok (.iaload, 1) := by decide +kernel
theorem dX6_reckon_146 : decode cX6_reckon 146 = .ok (.istore 6, 2) := by decide +kernel
theorem dX6_reckon_148 : decode cX6_reckon 148 = .ok (.iload 5, 2) := by decide +kernel
theorem dX6_reckon_150 : decode cX6_reckon 150 = .ok (.iload 6, 2) := by decide +kernel
theorem dX6_reckon_152 : decode cX6_reckon 152 = .ok (.if_icmp .le 8, 3) := by decide +kernel
theorem dX6_reckon_155 : decode cX6_reckon 155 = .ok (.iload 5, 2) := by decide +kernel
theorem dX6_reckon_157 : decode cX6_reckon 157 = .ok (.goto 5, 3) := by decide +kernel
theorem dX6_reckon_160 : decode cX6_reckon 160 = .ok (.iload 6, 2) := by decide +kernel
theorem dX6_reckon_162 : decode cX6_reckon 162 = .ok (.istore 7, 2) := by decide +kernel
theorem dX6_reckon_164 : decode cX6_reckon 164 = .ok (.iload_n 1, 1) := by decide +kernel
theorem dX6_reckon_165 : decode cX6_reckon 165 = .ok (.ifCond .ne 14, 3) := by decide +kernel
theorem dX6_reckon_168 : decode cX6_reckon 168 = .ok (.iload 7, 2) := by decide +kernel
theorem dX6_reckon_170 : decode cX6_reckon 170 = .ok (.aload_n 0, 1) := by decide +kernel
theorem dX6_reckon_171 : decode cX6_reckon 171 = .ok (.getfield 30, 3) := by decide +kernel
theorem dX6_reckon_174 : decode cX6_reckon 174 = .ok (.iload_n 3, 1) := by decide +kernel
theorem dX6_reckon_175 : decode cX6_reckon 175 = .ok (.iaload, 1) := by decide +kernel
theorem dX6_reckon_176 : decode cX6_reckon 176 = .ok (.if_icmp .eq 7, 3) := by decide +kernel
theorem dX6_reckon_179 : decode cX6_reckon 179 = .ok (.iconst 1, 1) := by decide +kernel
theorem dX6_reckon_180 : decode cX6_reckon 180 = .ok (.goto 4, 3) := by decide +kernel
theorem dX6_reckon_183 : decode cX6_reckon 183 = .ok (.iconst 0, 1) := by decide +kernel
theorem dX6_reckon_184 : decode cX6_reckon 184 = .ok (.istore_n 1, 1) := by decide +kernel
theorem dX6_reckon_185 : decode cX6_reckon 185 = .ok (.aload_n 0, 1) := by decide +kernel
theorem dX6_reckon_186 : decode cX6_reckon 186 = .ok (.getfield 30, 3) := by decide +kernel
theorem dX6_reckon_189 : decode cX6_reckon 189 = .ok (.iload_n 3, 1) := by decide +kernel
theorem dX6_reckon_190 : decode cX6_reckon 190 = .ok (.iload 7, 2) := by decide +kernel
theorem dX6_reckon_192 : decode cX6_reckon 192 = .ok (.iastore, 1) := by decide +kernel
theorem dX6_reckon_193 : decode cX6_reckon 193 = .ok (.aload_n 0, 1) := by decide +kernel
theorem dX6_reckon_194 : decode cX6_reckon 194 = .ok (.getfield 33, 3) := by decide +kernel
theorem dX6_reckon_197 : decode cX6_reckon 197 = .ok (.iload_n 3, 1) := by decide +kernel
theorem dX6_reckon_198 : decode cX6_reckon 198 = .ok (.aload_n 0, 1) := by decide +kernel
theorem dX6_reckon_199 : decode cX6_reckon 199 = .ok (.iload_n 3, 1) := by decide +kernel
theorem dX6_reckon_200 : decode cX6_reckon 200 = .ok (.invokevirtual 66, 3) := by decide +kernel
theorem dX6_reckon_203 : decode cX6_reckon 203 = .ok (.iastore, 1) := by decide +kernel
theorem dX6_reckon_204 : decode cX6_reckon 204 = .ok (.iinc 3 1, 3) := by decide +kernel
theorem dX6_reckon_207 : decode cX6_reckon 207 = .ok (.goto (-149), 3) := by decide +kernel
theorem dX6_reckon_210 : decode cX6_reckon 210 = .ok (.iinc 2 1, 3) := by decide +kernel
theorem dX6_reckon_213 : decode cX6_reckon 213 = .ok (.goto (-173), 3) := by decide +kernel
theorem dX6_reckon_216 : decode cX6_reckon 216 = .ok (.iload_n 1, 1) := by decide +kernel
theorem dX6_reckon_217 : decode cX6_reckon 217 = .ok (.ifCond .ne 7, 3) := by decide +kernel
theorem dX6_reckon_220 : decode cX6_reckon 220 = .ok (.iconst 1, 1) := by decide +kernel
theorem dX6_reckon_221 : decode cX6_reckon 221 = .ok (.goto 4, 3) := by decide +kernel
theorem dX6_reckon_224 : decode cX6_reckon 224 = .ok (.iconst 0, 1) := by decide +kernel
theorem dX6_reckon_225 : decode cX6_reckon 225 = .ok (.ireturn, 1) := by decide +kernel
theorem okX6_reckon : CalOK yX6_reckon cX6_reckon 8 (some .boolean) 0 := ⟨wd_73, wd_823, by decide +kernel⟩
theorem ovX6_reckon : VirOK yX6_reckon := ⟨wd_822, wd_29⟩
def FX6_reckon_216 (l1 : Int32) (B : Blk) : Option (Int32 × Blk) :=
  if l1 = 0 then
    some ((1 : Int32), B)
  else
    some ((0 : Int32), B)
set_option maxRecDepth 100000 in
set_option maxHeartbeats 4000000 in
theorem wX6_reckon_216 {E : WE} {V : VT} {A : Nat → Prop} {H0 : Heap} {M : Mem} (Cx : CX E RX6 cX6_reckon 8 1 24) {r : Int32} {B' : Blk} (hret : RetI E V A H0 cX6_reckon .boolean r (jb M 12 B')) {H : Heap} {locs : List Loc} {ls : Array Slot} {l1 : Int32} {B : Blk} (hW : Wd V A H0 (jb M 12 B) (eS E) H locs) (hl : lv_has ls 8 [(1, .int l1)]) (hF : FX6_reckon_216 l1 B = some (r, B')) : Wq E H locs 216 ls [] := by
  unfold FX6_reckon_216 at hF
  refine q_iload_n Cx dX6_reckon_216 rfl (lv_at hl 0 rfl) ?_
  refine q_if_ne (tgt := 224) Cx dX6_reckon_217 (by decide) (fun c9 => ?_) (fun c9 => ?_)
  · have hF := (if_neg c9).symm.trans hF
    refine q_iconst (v := (0 : Int32)) Cx dX6_reckon_224 (by decide) ?_
    obtain ⟨rfl, rfl⟩ := Prod.mk.inj (Option.some.inj hF)
    exact hret _ _ _ _ dX6_reckon_225 (by rfl) hW
  · have hF := (if_pos c9).symm.trans hF
    refine q_iconst (v := (1 : Int32)) Cx dX6_reckon_220 (by decide) ?_
    refine q_goto (tgt := 225) Cx dX6_reckon_221 (by decide) ?_
    obtain ⟨rfl, rfl⟩ := Prod.mk.inj (Option.some.inj hF)
    exact hret _ _ _ _ dX6_reckon_225 (by rfl) hW
def FX6_reckon_184 (k40 : Int32 → Int32 → Blk → Option (Int32 × Blk)) (k58 : Int32 → Int32 → Int32 → Blk → Option (Int32 × Blk)) (l2 : Int32) (l3 : Int32) (l7 : Int32) (s0 : Int32) (B : Blk) : Option (Int32 × Blk) :=
  stb B 7 24 l3 l7 fun B41 =>
  c1 (FX6_endOf B41 l3) fun r44 =>
  stb B41 8 24 l3 r44 fun B46 =>
  lt1 (l3 + (1 : Int32)) fun x49 =>
  k58 s0 l2 x49 B46
set_option maxRecDepth 100000 in
set_option maxHeartbeats 4000000 in
theorem wX6_reckon_184 {E : WE} {V : VT} {A : Nat → Prop} {H0 : Heap} {M : Mem} (Cx : CX E RX6 cX6_reckon 8 1 24) {r : Int32} {B' : Blk} (hret : RetI E V A H0 cX6_reckon .boolean r (jb M 12 B')) {k40 : Int32 → Int32 → Blk → Option (Int32 × Blk)} (hk40 : ∀ {H : Heap} {locs : List Loc} {ls : Array Slot} {B : Blk} {l1 : Int32} {l2 : Int32}, Wd V A H0 (jb M 12 B) (eS E) H locs → lv_has ls 8 [(0, .ref (vA V 12 0)), (1, .int l1), (2, .int l2)] → k40 l1 l2 B = some (r, B') → Wq E H locs 40 ls []) {k58 : Int32 → Int32 → Int32 → Blk → Option (Int32 × Blk)} (hk58 : ∀ {H : Heap} {locs : List Loc} {ls : Array Slot} {B : Blk} {l1 : Int32} {l2 : Int32} {l3 : Int32}, Wd V A H0 (jb M 12 B) (eS E) H locs → lv_has ls 8 [(0, .ref (vA V 12 0)), (1, .int l1), (2, .int l2), (3, .int l3)] → k58 l1 l2 l3 B = some (r, B') → Wq E H locs 58 ls []) {H : Heap} {locs : List Loc} {ls : Array Slot} {l2 : Int32} {l3 : Int32} {l7 : Int32} {s0 : Int32} {B : Blk} (hW : Wd V A H0 (jb M 12 B) (eS E) H locs) (hl : lv_has ls 8 [(0, .ref (vA V 12 0)), (2, .int l2), (3, .int l3), (7, .int l7)]) (hF : FX6_reckon_184 k40 k58 l2 l3 l7 s0 B = some (r, B')) : Wq E H locs 184 ls [.int s0] := by
  unfold FX6_reckon_184 at hF
  refine q_istore_n (lv' := [(1, .int s0), (0, .ref (vA V 12 0)), (2, .int l2), (3, .int l3), (7, .int l7)]) Cx dX6_reckon_184 rfl hl (by decide) rfl (fun ls hl => ?_)
  refine q_aload_n Cx dX6_reckon_185 rfl (lv_at hl 1 rfl) ?_
  refine q_get (v := .ref (vA V 12 7)) Cx hW oZ ic6 9 (by decide) rfl wd_723 dX6_reckon_186 ?_
  refine q_iload_n Cx dX6_reckon_189 rfl (lv_at hl 3 rfl) ?_
  refine q_iload Cx dX6_reckon_190 (lv_at hl 4 rfl) ?_
  obtain ⟨h42, B41, e43, hF⟩ := stb_some hF
  refine qb_iast Cx hW az_7 h42 e43 dX6_reckon_192 (fun H locs hW => ?_)
  refine q_aload_n Cx dX6_reckon_193 rfl (lv_at hl 1 rfl) ?_
  refine q_get (v := .ref (vA V 12 8)) Cx hW oZ ic6 10 (by decide) rfl wd_724 dX6_reckon_194 ?_
  refine q_iload_n Cx dX6_reckon_197 rfl (lv_at hl 3 rfl) ?_
  refine q_aload_n Cx dX6_reckon_198 rfl (lv_at hl 1 rfl) ?_
  refine q_iload_n Cx dX6_reckon_199 rfl (lv_at hl 3 rfl) ?_
  obtain ⟨r44, e45, hF⟩ := c1_some hF
  refine q_callI (as := [.int l3]) (rest := [.int l3, .ref (vA V 12 8)]) Cx (kX6_endOf e45) okX6_endOf ovX6_endOf wd_824 ⟨rfl, rfl, by decide, by decide⟩ hW oZ ic6 rfl hl.1 (Nat.le_of_ble_eq_true rfl) rfl dX6_reckon_200 (fun H locs hW => ?_)
  obtain ⟨h47, B46, e48, hF⟩ := stb_some hF
  refine qb_iast Cx hW az_8 h47 e48 dX6_reckon_203 (fun H locs hW => ?_)
  obtain ⟨x49, e50, hF⟩ := lt1_some hF
  refine q_iinc (k := 3) (v := x49) (lv' := [(3, .int x49), (1, .int s0), (0, .ref (vA V 12 0)), (2, .int l2), (7, .int l7)]) Cx dX6_reckon_204 hl rfl e50.symm (by decide) rfl (fun ls hl => ?_)
  refine q_goto (tgt := 58) Cx dX6_reckon_207 (by decide) ?_
  exact hk58 hW (lv_sub hl [2, 1, 3, 0] rfl) hF
def FX6_reckon_179 (k40 : Int32 → Int32 → Blk → Option (Int32 × Blk)) (k58 : Int32 → Int32 → Int32 → Blk → Option (Int32 × Blk)) (l2 : Int32) (l3 : Int32) (l7 : Int32) (B : Blk) : Option (Int32 × Blk) :=
  FX6_reckon_184 k40 k58 l2 l3 l7 (1 : Int32) B
set_option maxRecDepth 100000 in
set_option maxHeartbeats 4000000 in
theorem wX6_reckon_179 {E : WE} {V : VT} {A : Nat → Prop} {H0 : Heap} {M : Mem} (Cx : CX E RX6 cX6_reckon 8 1 24) {r : Int32} {B' : Blk} (hret : RetI E V A H0 cX6_reckon .boolean r (jb M 12 B')) {k40 : Int32 → Int32 → Blk → Option (Int32 × Blk)} (hk40 : ∀ {H : Heap} {locs : List Loc} {ls : Array Slot} {B : Blk} {l1 : Int32} {l2 : Int32}, Wd V A H0 (jb M 12 B) (eS E) H locs → lv_has ls 8 [(0, .ref (vA V 12 0)), (1, .int l1), (2, .int l2)] → k40 l1 l2 B = some (r, B') → Wq E H locs 40 ls []) {k58 : Int32 → Int32 → Int32 → Blk → Option (Int32 × Blk)} (hk58 : ∀ {H : Heap} {locs : List Loc} {ls : Array Slot} {B : Blk} {l1 : Int32} {l2 : Int32} {l3 : Int32}, Wd V A H0 (jb M 12 B) (eS E) H locs → lv_has ls 8 [(0, .ref (vA V 12 0)), (1, .int l1), (2, .int l2), (3, .int l3)] → k58 l1 l2 l3 B = some (r, B') → Wq E H locs 58 ls []) {H : Heap} {locs : List Loc} {ls : Array Slot} {l2 : Int32} {l3 : Int32} {l7 : Int32} {B : Blk} (hW : Wd V A H0 (jb M 12 B) (eS E) H locs) (hl : lv_has ls 8 [(0, .ref (vA V 12 0)), (2, .int l2), (3, .int l3), (7, .int l7)]) (hF : FX6_reckon_179 k40 k58 l2 l3 l7 B = some (r, B')) : Wq E H locs 179 ls [] := by
  unfold FX6_reckon_179 at hF
  refine q_iconst (v := (1 : Int32)) Cx dX6_reckon_179 (by decide) ?_
  refine q_goto (tgt := 184) Cx dX6_reckon_180 (by decide) ?_
  exact wX6_reckon_184 Cx hret hk40 hk58 hW (lv_sub hl [0, 1, 2, 3] rfl) hF
def FX6_reckon_162 (k40 : Int32 → Int32 → Blk → Option (Int32 × Blk)) (k58 : Int32 → Int32 → Int32 → Blk → Option (Int32 × Blk)) (l1 : Int32) (l2 : Int32) (l3 : Int32) (s0 : Int32) (B : Blk) : Option (Int32 × Blk) :=
  if l1 = 0 then
    ld (B 7) 24 l3 fun v51 =>
    if s0 = v51 then
      FX6_reckon_184 k40 k58 l2 l3 s0 (0 : Int32) B
    else
      FX6_reckon_179 k40 k58 l2 l3 s0 B
  else
    FX6_reckon_179 k40 k58 l2 l3 s0 B
set_option maxRecDepth 100000 in
set_option maxHeartbeats 4000000 in
theorem wX6_reckon_162 {E : WE} {V : VT} {A : Nat → Prop} {H0 : Heap} {M : Mem} (Cx : CX E RX6 cX6_reckon 8 1 24) {r : Int32} {B' : Blk} (hret : RetI E V A H0 cX6_reckon .boolean r (jb M 12 B')) {k40 : Int32 → Int32 → Blk → Option (Int32 × Blk)} (hk40 : ∀ {H : Heap} {locs : List Loc} {ls : Array Slot} {B : Blk} {l1 : Int32} {l2 : Int32}, Wd V A H0 (jb M 12 B) (eS E) H locs → lv_has ls 8 [(0, .ref (vA V 12 0)), (1, .int l1), (2, .int l2)] → k40 l1 l2 B = some (r, B') → Wq E H locs 40 ls []) {k58 : Int32 → Int32 → Int32 → Blk → Option (Int32 × Blk)} (hk58 : ∀ {H : Heap} {locs : List Loc} {ls : Array Slot} {B : Blk} {l1 : Int32} {l2 : Int32} {l3 : Int32}, Wd V A H0 (jb M 12 B) (eS E) H locs → lv_has ls 8 [(0, .ref (vA V 12 0)), (1, .int l1), (2, .int l2), (3, .int l3)] → k58 l1 l2 l3 B = some (r, B') → Wq E H locs 58 ls []) {H : Heap} {locs : List Loc} {ls : Array Slot} {l1 : Int32} {l2 : Int32} {l3 : Int32} {s0 : Int32} {B : Blk} (hW : Wd V A H0 (jb M 12 B) (eS E) H locs) (hl : lv_has ls 8 [(0, .ref (vA V 12 0)), (1, .int l1), (2, .int l2), (3, .int l3)]) (hF : FX6_reckon_162 k40 k58 l1 l2 l3 s0 B = some (r, B')) : Wq E H locs 162 ls [.int s0] := by
  unfold FX6_reckon_162 at hF
  refine q_istore (lv' := [(7, .int s0), (0, .ref (vA V 12 0)), (1, .int l1), (2, .int l2), (3, .int l3)]) Cx dX6_reckon_162 hl (by decide) rfl (fun ls hl => ?_)
  refine q_iload_n Cx dX6_reckon_164 rfl (lv_at hl 2 rfl) ?_
  refine q_if_ne (tgt := 179) Cx dX6_reckon_165 (by decide) (fun c40 => ?_) (fun c40 => ?_)
  · have hF := (if_neg c40).symm.trans hF
    exact wX6_reckon_179 Cx hret hk40 hk58 hW (lv_sub hl [1, 3, 4, 0] rfl) hF
  · have hF := (if_pos c40).symm.trans hF
    refine q_iload Cx dX6_reckon_168 (lv_at hl 0 rfl) ?_
    refine q_aload_n Cx dX6_reckon_170 rfl (lv_at hl 1 rfl) ?_
    refine q_get (v := .ref (vA V 12 7)) Cx hW oZ ic6 9 (by decide) rfl wd_723 dX6_reckon_171 ?_
    refine q_iload_n Cx dX6_reckon_174 rfl (lv_at hl 4 rfl) ?_
    obtain ⟨h52, v51, e53, hF⟩ := ld_some hF
    refine qb_iald Cx hW az_7 h52 e53 dX6_reckon_175 ?_
    refine q_icmp_eq (tgt := 183) Cx dX6_reckon_176 (by decide) (fun c54 => ?_) (fun c54 => ?_)
    · have hF := (if_pos c54).symm.trans hF
      refine q_iconst (v := (0 : Int32)) Cx dX6_reckon_183 (by decide) ?_
      exact wX6_reckon_184 Cx hret hk40 hk58 hW (lv_sub hl [1, 3, 4, 0] rfl) hF
    · have hF := (if_neg c54).symm.trans hF
      exact wX6_reckon_179 Cx hret hk40 hk58 hW (lv_sub hl [1, 3, 4, 0] rfl) hF
def FX6_reckon_146 (k40 : Int32 → Int32 → Blk → Option (Int32 × Blk)) (k58 : Int32 → Int32 → Int32 → Blk → Option (Int32 × Blk)) (l1 : Int32) (l2 : Int32) (l3 : Int32) (l5 : Int32) (s0 : Int32) (B : Blk) : Option (Int32 × Blk) :=
  if l5 ≤ s0 then
    FX6_reckon_162 k40 k58 l1 l2 l3 s0 B
  else
    FX6_reckon_162 k40 k58 l1 l2 l3 l5 B
set_option maxRecDepth 100000 in
set_option maxHeartbeats 4000000 in
theorem wX6_reckon_146 {E : WE} {V : VT} {A : Nat → Prop} {H0 : Heap} {M : Mem} (Cx : CX E RX6 cX6_reckon 8 1 24) {r : Int32} {B' : Blk} (hret : RetI E V A H0 cX6_reckon .boolean r (jb M 12 B')) {k40 : Int32 → Int32 → Blk → Option (Int32 × Blk)} (hk40 : ∀ {H : Heap} {locs : List Loc} {ls : Array Slot} {B : Blk} {l1 : Int32} {l2 : Int32}, Wd V A H0 (jb M 12 B) (eS E) H locs → lv_has ls 8 [(0, .ref (vA V 12 0)), (1, .int l1), (2, .int l2)] → k40 l1 l2 B = some (r, B') → Wq E H locs 40 ls []) {k58 : Int32 → Int32 → Int32 → Blk → Option (Int32 × Blk)} (hk58 : ∀ {H : Heap} {locs : List Loc} {ls : Array Slot} {B : Blk} {l1 : Int32} {l2 : Int32} {l3 : Int32}, Wd V A H0 (jb M 12 B) (eS E) H locs → lv_has ls 8 [(0, .ref (vA V 12 0)), (1, .int l1), (2, .int l2), (3, .int l3)] → k58 l1 l2 l3 B = some (r, B') → Wq E H locs 58 ls []) {H : Heap} {locs : List Loc} {ls : Array Slot} {l1 : Int32} {l2 : Int32} {l3 : Int32} {l5 : Int32} {s0 : Int32} {B : Blk} (hW : Wd V A H0 (jb M 12 B) (eS E) H locs) (hl : lv_has ls 8 [(0, .ref (vA V 12 0)), (1, .int l1), (2, .int l2), (3, .int l3), (5, .int l5)]) (hF : FX6_reckon_146 k40 k58 l1 l2 l3 l5 s0 B = some (r, B')) : Wq E H locs 146 ls [.int s0] := by
  unfold FX6_reckon_146 at hF
  refine q_istore (lv' := [(6, .int s0), (0, .ref (vA V 12 0)), (1, .int l1), (2, .int l2), (3, .int l3), (5, .int l5)]) Cx dX6_reckon_146 hl (by decide) rfl (fun ls hl => ?_)
  refine q_iload Cx dX6_reckon_148 (lv_at hl 5 rfl) ?_
  refine q_iload Cx dX6_reckon_150 (lv_at hl 0 rfl) ?_
  refine q_icmp_le (tgt := 160) Cx dX6_reckon_152 (by decide) (fun c39 => ?_) (fun c39 => ?_)
  · have hF := (if_pos c39).symm.trans hF
    refine q_iload Cx dX6_reckon_160 (lv_at hl 0 rfl) ?_
    exact wX6_reckon_162 Cx hret hk40 hk58 hW (lv_sub hl [1, 2, 3, 4] rfl) hF
  · have hF := (if_neg c39).symm.trans hF
    refine q_iload Cx dX6_reckon_155 (lv_at hl 5 rfl) ?_
    refine q_goto (tgt := 162) Cx dX6_reckon_157 (by decide) ?_
    exact wX6_reckon_162 Cx hret hk40 hk58 hW (lv_sub hl [1, 2, 3, 4] rfl) hF
def FX6_reckon_112 (k40 : Int32 → Int32 → Blk → Option (Int32 × Blk)) (k58 : Int32 → Int32 → Int32 → Blk → Option (Int32 × Blk)) (l1 : Int32) (l2 : Int32) (l3 : Int32) (s0 : Int32) (B : Blk) : Option (Int32 × Blk) :=
  ld (B 1) 356 ((100 : Int32) + l3) fun v29 =>
  if v29 = (-6 : Int32) then
    FX6_reckon_146 k40 k58 l1 l2 l3 s0 (0 : Int32) B
  else
    ld (B 1) 356 ((100 : Int32) + l3) fun v33 =>
    ld (B 8) 24 v33 fun v36 =>
    FX6_reckon_146 k40 k58 l1 l2 l3 s0 v36 B
set_option maxRecDepth 100000 in
set_option maxHeartbeats 4000000 in
theorem wX6_reckon_112 {E : WE} {V : VT} {A : Nat → Prop} {H0 : Heap} {M : Mem} (Cx : CX E RX6 cX6_reckon 8 1 24) {r : Int32} {B' : Blk} (hret : RetI E V A H0 cX6_reckon .boolean r (jb M 12 B')) {k40 : Int32 → Int32 → Blk → Option (Int32 × Blk)} (hk40 : ∀ {H : Heap} {locs : List Loc} {ls : Array Slot} {B : Blk} {l1 : Int32} {l2 : Int32}, Wd V A H0 (jb M 12 B) (eS E) H locs → lv_has ls 8 [(0, .ref (vA V 12 0)), (1, .int l1), (2, .int l2)] → k40 l1 l2 B = some (r, B') → Wq E H locs 40 ls []) {k58 : Int32 → Int32 → Int32 → Blk → Option (Int32 × Blk)} (hk58 : ∀ {H : Heap} {locs : List Loc} {ls : Array Slot} {B : Blk} {l1 : Int32} {l2 : Int32} {l3 : Int32}, Wd V A H0 (jb M 12 B) (eS E) H locs → lv_has ls 8 [(0, .ref (vA V 12 0)), (1, .int l1), (2, .int l2), (3, .int l3)] → k58 l1 l2 l3 B = some (r, B') → Wq E H locs 58 ls []) {H : Heap} {locs : List Loc} {ls : Array Slot} {l1 : Int32} {l2 : Int32} {l3 : Int32} {s0 : Int32} {B : Blk} (hW : Wd V A H0 (jb M 12 B) (eS E) H locs) (hl : lv_has ls 8 [(0, .ref (vA V 12 0)), (1, .int l1), (2, .int l2), (3, .int l3)]) (hF : FX6_reckon_112 k40 k58 l1 l2 l3 s0 B = some (r, B')) : Wq E H locs 112 ls [.int s0] := by
  unfold FX6_reckon_112 at hF
  refine q_istore (lv' := [(5, .int s0), (0, .ref (vA V 12 0)), (1, .int l1), (2, .int l2), (3, .int l3)]) Cx dX6_reckon_112 hl (by decide) rfl (fun ls hl => ?_)
  refine q_aload_n Cx dX6_reckon_114 rfl (lv_at hl 1 rfl) ?_
  refine q_get (v := .ref (vA V 12 1)) Cx hW oZ ic6 0 (by decide) rfl wd_714 dX6_reckon_115 ?_
  refine q_bipush (v := (100 : Int32)) Cx dX6_reckon_118 (by decide) ?_
  refine q_iload_n Cx dX6_reckon_120 rfl (lv_at hl 4 rfl) ?_
  refine q_iadd Cx dX6_reckon_121 ?_
  obtain ⟨h30, v29, e31, hF⟩ := ld_some hF
  refine qb_iald Cx hW az_1 h30 e31 dX6_reckon_122 ?_
  refine q_bipush (v := (-6 : Int32)) Cx dX6_reckon_123 (by decide) ?_
  refine q_icmp_ne (tgt := 132) Cx dX6_reckon_125 (by decide) (fun c32 => ?_) (fun c32 => ?_)
  · have hF := (if_neg c32).symm.trans hF
    refine q_aload_n Cx dX6_reckon_132 rfl (lv_at hl 1 rfl) ?_
    refine q_get (v := .ref (vA V 12 8)) Cx hW oZ ic6 10 (by decide) rfl wd_724 dX6_reckon_133 ?_
    refine q_aload_n Cx dX6_reckon_136 rfl (lv_at hl 1 rfl) ?_
    refine q_get (v := .ref (vA V 12 1)) Cx hW oZ ic6 0 (by decide) rfl wd_714 dX6_reckon_137 ?_
    refine q_bipush (v := (100 : Int32)) Cx dX6_reckon_140 (by decide) ?_
    refine q_iload_n Cx dX6_reckon_142 rfl (lv_at hl 4 rfl) ?_
    refine q_iadd Cx dX6_reckon_143 ?_
    obtain ⟨h34, v33, e35, hF⟩ := ld_some hF
    refine qb_iald Cx hW az_1 h34 e35 dX6_reckon_144 ?_
    obtain ⟨h37, v36, e38, hF⟩ := ld_some hF
    refine qb_iald Cx hW az_8 h37 e38 dX6_reckon_145 ?_
    exact wX6_reckon_146 Cx hret hk40 hk58 hW (lv_sub hl [1, 2, 3, 4, 0] rfl) hF
  · have hF := (if_pos c32).symm.trans hF
    refine q_iconst (v := (0 : Int32)) Cx dX6_reckon_128 (by decide) ?_
    refine q_goto (tgt := 146) Cx dX6_reckon_129 (by decide) ?_
    exact wX6_reckon_146 Cx hret hk40 hk58 hW (lv_sub hl [1, 2, 3, 4, 0] rfl) hF
def FX6_reckon_58s (k40 : Int32 → Int32 → Blk → Option (Int32 × Blk)) (k58 : Int32 → Int32 → Int32 → Blk → Option (Int32 × Blk)) (l1 : Int32) (l2 : Int32) (l3 : Int32) (B : Blk) : Option (Int32 × Blk) :=
  ld (B 1) 356 (0 : Int32) fun v11 =>
  if v11 ≤ l3 then
    lt1 (l2 + (1 : Int32)) fun x15 =>
    k40 l1 x15 B
  else
    ld (B 1) 356 ((4 : Int32) + l3) fun v17 =>
    ld (B 1) 356 ((172 : Int32) + l3) fun v20 =>
    c1 (FX6_taskAt B v17 (v20 - (1 : Int32))) fun r23 =>
    if r23 = (-6 : Int32) then
      FX6_reckon_112 k40 k58 l1 l2 l3 (0 : Int32) B
    else
      ld (B 8) 24 r23 fun v26 =>
      FX6_reckon_112 k40 k58 l1 l2 l3 v26 B
set_option maxRecDepth 100000 in
set_option maxHeartbeats 4000000 in
theorem wX6_reckon_58s {E : WE} {V : VT} {A : Nat → Prop} {H0 : Heap} {M : Mem} (Cx : CX E RX6 cX6_reckon 8 1 24) {r : Int32} {B' : Blk} (hret : RetI E V A H0 cX6_reckon .boolean r (jb M 12 B')) {k40 : Int32 → Int32 → Blk → Option (Int32 × Blk)} (hk40 : ∀ {H : Heap} {locs : List Loc} {ls : Array Slot} {B : Blk} {l1 : Int32} {l2 : Int32}, Wd V A H0 (jb M 12 B) (eS E) H locs → lv_has ls 8 [(0, .ref (vA V 12 0)), (1, .int l1), (2, .int l2)] → k40 l1 l2 B = some (r, B') → Wq E H locs 40 ls []) {k58 : Int32 → Int32 → Int32 → Blk → Option (Int32 × Blk)} (hk58 : ∀ {H : Heap} {locs : List Loc} {ls : Array Slot} {B : Blk} {l1 : Int32} {l2 : Int32} {l3 : Int32}, Wd V A H0 (jb M 12 B) (eS E) H locs → lv_has ls 8 [(0, .ref (vA V 12 0)), (1, .int l1), (2, .int l2), (3, .int l3)] → k58 l1 l2 l3 B = some (r, B') → Wq E H locs 58 ls []) {H : Heap} {locs : List Loc} {ls : Array Slot} {l1 : Int32} {l2 : Int32} {l3 : Int32} {B : Blk} (hW : Wd V A H0 (jb M 12 B) (eS E) H locs) (hl : lv_has ls 8 [(0, .ref (vA V 12 0)), (1, .int l1), (2, .int l2), (3, .int l3)]) (hF : FX6_reckon_58s k40 k58 l1 l2 l3 B = some (r, B')) : Wq E H locs 58 ls [] := by
  unfold FX6_reckon_58s at hF
  refine q_iload_n Cx dX6_reckon_58 rfl (lv_at hl 3 rfl) ?_
  refine q_aload_n Cx dX6_reckon_59 rfl (lv_at hl 0 rfl) ?_
  refine q_get (v := .ref (vA V 12 1)) Cx hW oZ ic6 0 (by decide) rfl wd_714 dX6_reckon_60 ?_
  refine q_iconst (v := (0 : Int32)) Cx dX6_reckon_63 (by decide) ?_
  obtain ⟨h12, v11, e13, hF⟩ := ld_some hF
  refine qb_iald Cx hW az_1 h12 e13 dX6_reckon_64 ?_
  refine q_icmp_ge (tgt := 210) Cx dX6_reckon_65 (by decide) (fun c14 => ?_) (fun c14 => ?_)
  · have hF := (if_pos c14).symm.trans hF
    obtain ⟨x15, e16, hF⟩ := lt1_some hF
    refine q_iinc (k := 2) (v := x15) (lv' := [(2, .int x15), (0, .ref (vA V 12 0)), (1, .int l1), (3, .int l3)]) Cx dX6_reckon_210 hl rfl e16.symm (by decide) rfl (fun ls hl => ?_)
    refine q_goto (tgt := 40) Cx dX6_reckon_213 (by decide) ?_
    exact hk40 hW (lv_sub hl [1, 2, 0] rfl) hF
  · have hF := (if_neg c14).symm.trans hF
    refine q_aload_n Cx dX6_reckon_68 rfl (lv_at hl 0 rfl) ?_
    refine q_aload_n Cx dX6_reckon_69 rfl (lv_at hl 0 rfl) ?_
    refine q_get (v := .ref (vA V 12 1)) Cx hW oZ ic6 0 (by decide) rfl wd_714 dX6_reckon_70 ?_
    refine q_iconst (v := (4 : Int32)) Cx dX6_reckon_73 (by decide) ?_
    refine q_iload_n Cx dX6_reckon_74 rfl (lv_at hl 3 rfl) ?_
    refine q_iadd Cx dX6_reckon_75 ?_
    obtain ⟨h18, v17, e19, hF⟩ := ld_some hF
    refine qb_iald Cx hW az_1 h18 e19 dX6_reckon_76 ?_
    refine q_aload_n Cx dX6_reckon_77 rfl (lv_at hl 0 rfl) ?_
    refine q_get (v := .ref (vA V 12 1)) Cx hW oZ ic6 0 (by decide) rfl wd_714 dX6_reckon_78 ?_
    refine q_sipush (v := (172 : Int32)) Cx dX6_reckon_81 (by decide) ?_
    refine q_iload_n Cx dX6_reckon_84 rfl (lv_at hl 3 rfl) ?_
    refine q_iadd Cx dX6_reckon_85 ?_
    obtain ⟨h21, v20, e22, hF⟩ := ld_some hF
    refine qb_iald Cx hW az_1 h21 e22 dX6_reckon_86 ?_
    refine q_iconst (v := (1 : Int32)) Cx dX6_reckon_87 (by decide) ?_
    refine q_isub Cx dX6_reckon_88 ?_
    obtain ⟨r23, e24, hF⟩ := c1_some hF
    refine q_callI (as := [.int v17, .int (v20 - (1 : Int32))]) (rest := []) Cx (kX6_taskAt e24) okX6_taskAt ovX6_taskAt wd_828 ⟨rfl, rfl, by decide, by decide⟩ hW oZ ic6 rfl hl.1 (Nat.le_of_ble_eq_true rfl) rfl dX6_reckon_89 (fun H locs hW => ?_)
    refine q_istore (lv' := [(4, .int r23), (0, .ref (vA V 12 0)), (1, .int l1), (2, .int l2), (3, .int l3)]) Cx dX6_reckon_92 hl (by decide) rfl (fun ls hl => ?_)
    refine q_iload Cx dX6_reckon_94 (lv_at hl 0 rfl) ?_
    refine q_bipush (v := (-6 : Int32)) Cx dX6_reckon_96 (by decide) ?_
    refine q_icmp_ne (tgt := 105) Cx dX6_reckon_98 (by decide) (fun c25 => ?_) (fun c25 => ?_)
    · have hF := (if_neg c25).symm.trans hF
      refine q_aload_n Cx dX6_reckon_105 rfl (lv_at hl 1 rfl) ?_
      refine q_get (v := .ref (vA V 12 8)) Cx hW oZ ic6 10 (by decide) rfl wd_724 dX6_reckon_106 ?_
      refine q_iload Cx dX6_reckon_109 (lv_at hl 0 rfl) ?_
      obtain ⟨h27, v26, e28, hF⟩ := ld_some hF
      refine qb_iald Cx hW az_8 h27 e28 dX6_reckon_111 ?_
      exact wX6_reckon_112 Cx hret hk40 hk58 hW (lv_sub hl [1, 2, 3, 4] rfl) hF
    · have hF := (if_pos c25).symm.trans hF
      refine q_iconst (v := (0 : Int32)) Cx dX6_reckon_101 (by decide) ?_
      refine q_goto (tgt := 112) Cx dX6_reckon_102 (by decide) ?_
      exact wX6_reckon_112 Cx hret hk40 hk58 hW (lv_sub hl [1, 2, 3, 4] rfl) hF
def FX6_reckon_58 (k40 : Int32 → Int32 → Blk → Option (Int32 × Blk)) : Nat → Int32 → Int32 → Int32 → Blk → Option (Int32 × Blk)
  | 0 => fun _ _ _ _ => none
  | n + 1 => FX6_reckon_58s k40 (FX6_reckon_58 k40 n)
set_option maxRecDepth 100000 in
theorem wX6_reckon_58 {E : WE} {V : VT} {A : Nat → Prop} {H0 : Heap} {M : Mem} (Cx : CX E RX6 cX6_reckon 8 1 24) {r : Int32} {B' : Blk} (hret : RetI E V A H0 cX6_reckon .boolean r (jb M 12 B')) {k40 : Int32 → Int32 → Blk → Option (Int32 × Blk)} (hk40 : ∀ {H : Heap} {locs : List Loc} {ls : Array Slot} {B : Blk} {l1 : Int32} {l2 : Int32}, Wd V A H0 (jb M 12 B) (eS E) H locs → lv_has ls 8 [(0, .ref (vA V 12 0)), (1, .int l1), (2, .int l2)] → k40 l1 l2 B = some (r, B') → Wq E H locs 40 ls []) : ∀ (n : Nat) {H : Heap} {locs : List Loc} {ls : Array Slot} {l1 : Int32} {l2 : Int32} {l3 : Int32} {B : Blk}, Wd V A H0 (jb M 12 B) (eS E) H locs → lv_has ls 8 [(0, .ref (vA V 12 0)), (1, .int l1), (2, .int l2), (3, .int l3)] → FX6_reckon_58 k40 n l1 l2 l3 B = some (r, B') → Wq E H locs 58 ls [] := by
  intro n
  induction n with
  | zero => intro _ _ _ _ _ _ _ hW hl hF; cases hF
  | succ n ih => intro _ _ _ _ _ _ _ hW hl hF; exact wX6_reckon_58s Cx hret hk40 ih hW hl hF
def FX6_reckon_40s (k40 : Int32 → Int32 → Blk → Option (Int32 × Blk)) (l1 : Int32) (l2 : Int32) (B : Blk) : Option (Int32 × Blk) :=
  ld (B 1) 356 (0 : Int32) fun v5 =>
  if v5 < l2 then
    FX6_reckon_216 l1 B
  else
    if l1 = 0 then
      FX6_reckon_216 l1 B
    else
      FX6_reckon_58 k40 fu (0 : Int32) l2 (0 : Int32) B
set_option maxRecDepth 100000 in
set_option maxHeartbeats 4000000 in
theorem wX6_reckon_40s {E : WE} {V : VT} {A : Nat → Prop} {H0 : Heap} {M : Mem} (Cx : CX E RX6 cX6_reckon 8 1 24) {r : Int32} {B' : Blk} (hret : RetI E V A H0 cX6_reckon .boolean r (jb M 12 B')) {k40 : Int32 → Int32 → Blk → Option (Int32 × Blk)} (hk40 : ∀ {H : Heap} {locs : List Loc} {ls : Array Slot} {B : Blk} {l1 : Int32} {l2 : Int32}, Wd V A H0 (jb M 12 B) (eS E) H locs → lv_has ls 8 [(0, .ref (vA V 12 0)), (1, .int l1), (2, .int l2)] → k40 l1 l2 B = some (r, B') → Wq E H locs 40 ls []) {H : Heap} {locs : List Loc} {ls : Array Slot} {l1 : Int32} {l2 : Int32} {B : Blk} (hW : Wd V A H0 (jb M 12 B) (eS E) H locs) (hl : lv_has ls 8 [(0, .ref (vA V 12 0)), (1, .int l1), (2, .int l2)]) (hF : FX6_reckon_40s k40 l1 l2 B = some (r, B')) : Wq E H locs 40 ls [] := by
  unfold FX6_reckon_40s at hF
  refine q_iload_n Cx dX6_reckon_40 rfl (lv_at hl 2 rfl) ?_
  refine q_aload_n Cx dX6_reckon_41 rfl (lv_at hl 0 rfl) ?_
  refine q_get (v := .ref (vA V 12 1)) Cx hW oZ ic6 0 (by decide) rfl wd_714 dX6_reckon_42 ?_
  refine q_iconst (v := (0 : Int32)) Cx dX6_reckon_45 (by decide) ?_
  obtain ⟨h6, v5, e7, hF⟩ := ld_some hF
  refine qb_iald Cx hW az_1 h6 e7 dX6_reckon_46 ?_
  refine q_icmp_gt (tgt := 216) Cx dX6_reckon_47 (by decide) (fun c8 => ?_) (fun c8 => ?_)
  · have hF := (if_pos c8).symm.trans hF
    exact wX6_reckon_216 Cx hret hW (lv_sub hl [1] rfl) hF
  · have hF := (if_neg c8).symm.trans hF
    refine q_iload_n Cx dX6_reckon_50 rfl (lv_at hl 1 rfl) ?_
    refine q_if_eq (tgt := 216) Cx dX6_reckon_51 (by decide) (fun c10 => ?_) (fun c10 => ?_)
    · have hF := (if_pos c10).symm.trans hF
      exact wX6_reckon_216 Cx hret hW (lv_sub hl [1] rfl) hF
    · have hF := (if_neg c10).symm.trans hF
      refine q_iconst (v := (0 : Int32)) Cx dX6_reckon_54 (by decide) ?_
      refine q_istore_n (lv' := [(1, .int (0 : Int32)), (0, .ref (vA V 12 0)), (2, .int l2)]) Cx dX6_reckon_55 rfl hl (by decide) rfl (fun ls hl => ?_)
      refine q_iconst (v := (0 : Int32)) Cx dX6_reckon_56 (by decide) ?_
      refine q_istore_n (lv' := [(3, .int (0 : Int32)), (1, .int (0 : Int32)), (0, .ref (vA V 12 0)), (2, .int l2)]) Cx dX6_reckon_57 rfl hl (by decide) rfl (fun ls hl => ?_)
      exact wX6_reckon_58 Cx hret hk40 fu hW (lv_sub hl [2, 1, 3, 0] rfl) hF
def FX6_reckon_40 : Nat → Int32 → Int32 → Blk → Option (Int32 × Blk)
  | 0 => fun _ _ _ => none
  | n + 1 => FX6_reckon_40s (FX6_reckon_40 n)
set_option maxRecDepth 100000 in
theorem wX6_reckon_40 {E : WE} {V : VT} {A : Nat → Prop} {H0 : Heap} {M : Mem} (Cx : CX E RX6 cX6_reckon 8 1 24) {r : Int32} {B' : Blk} (hret : RetI E V A H0 cX6_reckon .boolean r (jb M 12 B')) : ∀ (n : Nat) {H : Heap} {locs : List Loc} {ls : Array Slot} {l1 : Int32} {l2 : Int32} {B : Blk}, Wd V A H0 (jb M 12 B) (eS E) H locs → lv_has ls 8 [(0, .ref (vA V 12 0)), (1, .int l1), (2, .int l2)] → FX6_reckon_40 n l1 l2 B = some (r, B') → Wq E H locs 40 ls [] := by
  intro n
  induction n with
  | zero => intro _ _ _ _ _ _ hW hl hF; cases hF
  | succ n ih => intro _ _ _ _ _ _ hW hl hF; exact wX6_reckon_40s Cx hret ih hW hl hF
def FX6_reckon_4s (k4 : Int32 → Int32 → Blk → Option (Int32 × Blk)) (l1 : Int32) (l2 : Int32) (B : Blk) : Option (Int32 × Blk) :=
  ld (B 1) 356 (0 : Int32) fun v1 =>
  if v1 ≤ l2 then
    FX6_reckon_40 fu l1 (0 : Int32) B
  else
    stb B 7 24 l2 (0 : Int32) fun B55 =>
    c1 (FX6_endOf B55 l2) fun r58 =>
    stb B55 8 24 l2 r58 fun B60 =>
    lt1 (l2 + (1 : Int32)) fun x63 =>
    k4 l1 x63 B60
set_option maxRecDepth 100000 in
set_option maxHeartbeats 4000000 in
theorem wX6_reckon_4s {E : WE} {V : VT} {A : Nat → Prop} {H0 : Heap} {M : Mem} (Cx : CX E RX6 cX6_reckon 8 1 24) {r : Int32} {B' : Blk} (hret : RetI E V A H0 cX6_reckon .boolean r (jb M 12 B')) {k4 : Int32 → Int32 → Blk → Option (Int32 × Blk)} (hk4 : ∀ {H : Heap} {locs : List Loc} {ls : Array Slot} {B : Blk} {l1 : Int32} {l2 : Int32}, Wd V A H0 (jb M 12 B) (eS E) H locs → lv_has ls 8 [(0, .ref (vA V 12 0)), (1, .int l1), (2, .int l2)] → k4 l1 l2 B = some (r, B') → Wq E H locs 4 ls []) {H : Heap} {locs : List Loc} {ls : Array Slot} {l1 : Int32} {l2 : Int32} {B : Blk} (hW : Wd V A H0 (jb M 12 B) (eS E) H locs) (hl : lv_has ls 8 [(0, .ref (vA V 12 0)), (1, .int l1), (2, .int l2)]) (hF : FX6_reckon_4s k4 l1 l2 B = some (r, B')) : Wq E H locs 4 ls [] := by
  unfold FX6_reckon_4s at hF
  refine q_iload_n Cx dX6_reckon_4 rfl (lv_at hl 2 rfl) ?_
  refine q_aload_n Cx dX6_reckon_5 rfl (lv_at hl 0 rfl) ?_
  refine q_get (v := .ref (vA V 12 1)) Cx hW oZ ic6 0 (by decide) rfl wd_714 dX6_reckon_6 ?_
  refine q_iconst (v := (0 : Int32)) Cx dX6_reckon_9 (by decide) ?_
  obtain ⟨h2, v1, e3, hF⟩ := ld_some hF
  refine qb_iald Cx hW az_1 h2 e3 dX6_reckon_10 ?_
  refine q_icmp_ge (tgt := 38) Cx dX6_reckon_11 (by decide) (fun c4 => ?_) (fun c4 => ?_)
  · have hF := (if_pos c4).symm.trans hF
    refine q_iconst (v := (0 : Int32)) Cx dX6_reckon_38 (by decide) ?_
    refine q_istore_n (lv' := [(2, .int (0 : Int32)), (0, .ref (vA V 12 0)), (1, .int l1)]) Cx dX6_reckon_39 rfl hl (by decide) rfl (fun ls hl => ?_)
    exact wX6_reckon_40 Cx hret fu hW (lv_sub hl [1, 2, 0] rfl) hF
  · have hF := (if_neg c4).symm.trans hF
    refine q_aload_n Cx dX6_reckon_14 rfl (lv_at hl 0 rfl) ?_
    refine q_get (v := .ref (vA V 12 7)) Cx hW oZ ic6 9 (by decide) rfl wd_723 dX6_reckon_15 ?_
    refine q_iload_n Cx dX6_reckon_18 rfl (lv_at hl 2 rfl) ?_
    refine q_iconst (v := (0 : Int32)) Cx dX6_reckon_19 (by decide) ?_
    obtain ⟨h56, B55, e57, hF⟩ := stb_some hF
    refine qb_iast Cx hW az_7 h56 e57 dX6_reckon_20 (fun H locs hW => ?_)
    refine q_aload_n Cx dX6_reckon_21 rfl (lv_at hl 0 rfl) ?_
    refine q_get (v := .ref (vA V 12 8)) Cx hW oZ ic6 10 (by decide) rfl wd_724 dX6_reckon_22 ?_
    refine q_iload_n Cx dX6_reckon_25 rfl (lv_at hl 2 rfl) ?_
    refine q_aload_n Cx dX6_reckon_26 rfl (lv_at hl 0 rfl) ?_
    refine q_iload_n Cx dX6_reckon_27 rfl (lv_at hl 2 rfl) ?_
    obtain ⟨r58, e59, hF⟩ := c1_some hF
    refine q_callI (as := [.int l2]) (rest := [.int l2, .ref (vA V 12 8)]) Cx (kX6_endOf e59) okX6_endOf ovX6_endOf wd_824 ⟨rfl, rfl, by decide, by decide⟩ hW oZ ic6 rfl hl.1 (Nat.le_of_ble_eq_true rfl) rfl dX6_reckon_28 (fun H locs hW => ?_)
    obtain ⟨h61, B60, e62, hF⟩ := stb_some hF
    refine qb_iast Cx hW az_8 h61 e62 dX6_reckon_31 (fun H locs hW => ?_)
    obtain ⟨x63, e64, hF⟩ := lt1_some hF
    refine q_iinc (k := 2) (v := x63) (lv' := [(2, .int x63), (0, .ref (vA V 12 0)), (1, .int l1)]) Cx dX6_reckon_32 hl rfl e64.symm (by decide) rfl (fun ls hl => ?_)
    refine q_goto (tgt := 4) Cx dX6_reckon_35 (by decide) ?_
    exact hk4 hW (lv_sub hl [1, 2, 0] rfl) hF
def FX6_reckon_4 : Nat → Int32 → Int32 → Blk → Option (Int32 × Blk)
  | 0 => fun _ _ _ => none
  | n + 1 => FX6_reckon_4s (FX6_reckon_4 n)
set_option maxRecDepth 100000 in
theorem wX6_reckon_4 {E : WE} {V : VT} {A : Nat → Prop} {H0 : Heap} {M : Mem} (Cx : CX E RX6 cX6_reckon 8 1 24) {r : Int32} {B' : Blk} (hret : RetI E V A H0 cX6_reckon .boolean r (jb M 12 B')) : ∀ (n : Nat) {H : Heap} {locs : List Loc} {ls : Array Slot} {l1 : Int32} {l2 : Int32} {B : Blk}, Wd V A H0 (jb M 12 B) (eS E) H locs → lv_has ls 8 [(0, .ref (vA V 12 0)), (1, .int l1), (2, .int l2)] → FX6_reckon_4 n l1 l2 B = some (r, B') → Wq E H locs 4 ls [] := by
  intro n
  induction n with
  | zero => intro _ _ _ _ _ _ hW hl hF; cases hF
  | succ n ih => intro _ _ _ _ _ _ hW hl hF; exact wX6_reckon_4s Cx hret ih hW hl hF
def FX6_reckon (B : Blk) : Option (Int32 × Blk) :=
  FX6_reckon_4 fu (1 : Int32) (0 : Int32) B
set_option maxRecDepth 100000 in
set_option maxHeartbeats 4000000 in
theorem wX6_reckon {E : WE} {V : VT} {A : Nat → Prop} {H0 : Heap} {M : Mem} (Cx : CX E RX6 cX6_reckon 8 1 24) {r : Int32} {B' : Blk} (hret : RetI E V A H0 cX6_reckon .boolean r (jb M 12 B')) {H : Heap} {locs : List Loc} {ls : Array Slot} {B : Blk} (hW : Wd V A H0 (jb M 12 B) (eS E) H locs) (hl : lv_has ls 8 [(0, .ref (vA V 12 0))]) (hF : FX6_reckon B = some (r, B')) : Wq E H locs 0 ls [] := by
  unfold FX6_reckon at hF
  refine q_iconst (v := (1 : Int32)) Cx dX6_reckon_0 (by decide) ?_
  refine q_istore_n (lv' := [(1, .int (1 : Int32)), (0, .ref (vA V 12 0))]) Cx dX6_reckon_1 rfl hl (by decide) rfl (fun ls hl => ?_)
  refine q_iconst (v := (0 : Int32)) Cx dX6_reckon_2 (by decide) ?_
  refine q_istore_n (lv' := [(2, .int (0 : Int32)), (1, .int (1 : Int32)), (0, .ref (vA V 12 0))]) Cx dX6_reckon_3 rfl hl (by decide) rfl (fun ls hl => ?_)
  exact wX6_reckon_4 Cx hret fu hW (lv_sub hl [2, 1, 0] rfl) hF
set_option maxRecDepth 100000 in
theorem kX6_reckon {l : Launch} {V : VT} {M : Mem} {B : Blk} {r : Int32} {B' : Blk} (hF : FX6_reckon B = some (r, B')) : MetI l V yX6_reckon cX6_reckon 8 .boolean ({ frames := 1, cells := 0, slots := 0, locals := 24 } : Room) [.ref (vA V 12 0)] r (jb M 12 B) (jb M 12 B') := metI_of (by decide) (Nat.le_of_ble_eq_true rfl) (fun E H0 _ Cx hret H locs ls hW hl => wX6_reckon Cx hret hW hl hF)
theorem dX6_late_0 : decode cX6_late 0 = .ok (.aload_n 0, 1) := by decide +kernel
theorem dX6_late_1 : decode cX6_late 1 = .ok (.getfield 33, 3) := by decide +kernel
theorem dX6_late_4 : decode cX6_late 4 = .ok (.iload_n 1, 1) := by decide +kernel
theorem dX6_late_5 : decode cX6_late 5 = .ok (.iaload, 1) := by decide +kernel
theorem dX6_late_6 : decode cX6_late 6 = .ok (.aload_n 0, 1) := by decide +kernel
theorem dX6_late_7 : decode cX6_late 7 = .ok (.getfield 7, 3) := by decide +kernel
theorem dX6_late_10 : decode cX6_late 10 = .ok (.bipush 52, 2) := by decide +kernel
theorem dX6_late_12 : decode cX6_late 12 = .ok (.iload_n 1, 1) := by decide +kernel
theorem dX6_late_13 : decode cX6_late 13 = .ok (.iadd, 1) := by decide +kernel
theorem dX6_late_14 : decode cX6_late 14 = .ok (.iaload, 1) := by decide +kernel
theorem dX6_late_15 : decode cX6_late 15 = .ok (.isub, 1) := by decide +kernel
theorem dX6_late_16 : decode cX6_late 16 = .ok (.istore_n 2, 1) := by decide +kernel
theorem dX6_late_17 : decode cX6_late 17 = .ok (.iload_n 2, 1) := by decide +kernel
theorem dX6_late_18 : decode cX6_late 18 = .ok (.ifCond .le 7, 3) := by decide +kernel
theorem dX6_late_21 : decode cX6_late 21 = .ok (.iload_n 2, 1) := by decide +kernel
theorem dX6_late_22 : decode cX6_late 22 = .ok (.goto 4, 3) := by decide +kernel
theorem dX6_late_25 : decode cX6_late 25 = .ok (.iconst 0, 1) := by decide +kernel
theorem dX6_late_26 : decode cX6_late 26 = .ok (.ireturn, 1) := by decide +kernel
theorem okX6_late : CalOK yX6_late cX6_late 3 (some .int) 1 := ⟨wd_73, wd_859, by decide +kernel⟩
theorem ovX6_late : VirOK yX6_late := ⟨wd_858, wd_35⟩
def FX6_late (B : Blk) (l1 : Int32) : Option Int32 :=
  ld (B 8) 24 l1 fun v1 =>
  ld (B 1) 356 ((52 : Int32) + l1) fun v4 =>
  lt1 (v1 - v4) fun x7 =>
  if x7 ≤ 0 then
    some (0 : Int32)
  else
    some x7
set_option maxRecDepth 100000 in
set_option maxHeartbeats 4000000 in
theorem wX6_late {E : WE} {V : VT} {A : Nat → Prop} {H0 : Heap} {M : Mem} (Cx : CX E RX6 cX6_late 3 0 0) {r : Int32} {B : Blk} (hret : RetI E V A H0 cX6_late .int r (jb M 12 B)) {H : Heap} {locs : List Loc} {ls : Array Slot} {l1 : Int32} (hW : Wd V A H0 (jb M 12 B) (eS E) H locs) (hl : lv_has ls 3 [(0, .ref (vA V 12 0)), (1, .int l1)]) (hF : FX6_late B l1 = some r) : Wq E H locs 0 ls [] := by
  unfold FX6_late at hF
  refine q_aload_n Cx dX6_late_0 rfl (lv_at hl 0 rfl) ?_
  refine q_get (v := .ref (vA V 12 8)) Cx hW oZ ic6 10 (by decide) rfl wd_724 dX6_late_1 ?_
  refine q_iload_n Cx dX6_late_4 rfl (lv_at hl 1 rfl) ?_
  obtain ⟨h2, v1, e3, hF⟩ := ld_some hF
  refine qb_iald Cx hW az_8 h2 e3 dX6_late_5 ?_
  refine q_aload_n Cx dX6_late_6 rfl (lv_at hl 0 rfl) ?_
  refine q_get (v := .ref (vA V 12 1)) Cx hW oZ ic6 0 (by decide) rfl wd_714 dX6_late_7 ?_
  refine q_bipush (v := (52 : Int32)) Cx dX6_late_10 (by decide) ?_
  refine q_iload_n Cx dX6_late_12 rfl (lv_at hl 1 rfl) ?_
  refine q_iadd Cx dX6_late_13 ?_
  obtain ⟨h5, v4, e6, hF⟩ := ld_some hF
  refine qb_iald Cx hW az_1 h5 e6 dX6_late_14 ?_
  refine q_isub Cx dX6_late_15 ?_
  obtain ⟨x7, e8, hF⟩ := lt1_some hF
  refine q_topi e8 ?_
  refine q_istore_n (lv' := [(2, .int x7), (0, .ref (vA V 12 0)), (1, .int l1)]) Cx dX6_late_16 rfl hl (by decide) rfl (fun ls hl => ?_)
  refine q_iload_n Cx dX6_late_17 rfl (lv_at hl 0 rfl) ?_
  refine q_if_le (tgt := 25) Cx dX6_late_18 (by decide) (fun c9 => ?_) (fun c9 => ?_)
  · have hF := (if_pos c9).symm.trans hF
    refine q_iconst (v := (0 : Int32)) Cx dX6_late_25 (by decide) ?_
    obtain rfl := Option.some.inj hF
    exact hret _ _ _ _ dX6_late_26 (nI32 _) hW
  · have hF := (if_neg c9).symm.trans hF
    refine q_iload_n Cx dX6_late_21 rfl (lv_at hl 0 rfl) ?_
    refine q_goto (tgt := 26) Cx dX6_late_22 (by decide) ?_
    obtain rfl := Option.some.inj hF
    exact hret _ _ _ _ dX6_late_26 (nI32 _) hW
set_option maxRecDepth 100000 in
theorem kX6_late {l : Launch} {V : VT} {M : Mem} {B : Blk} {l1 : Int32} {r : Int32} (hF : FX6_late B l1 = some r) : MetI l V yX6_late cX6_late 3 .int ({ frames := 0, cells := 0, slots := 0, locals := 0 } : Room) [.ref (vA V 12 0), .int l1] r (jb M 12 B) (jb M 12 B) := metI_of (by decide) (Nat.le_of_ble_eq_true rfl) (fun E H0 _ Cx hret H locs ls hW hl => wX6_late Cx hret hW hl hF)
theorem dX6_spared_0 : decode cX6_spared 0 = .ok (.aload_n 0, 1) := by decide +kernel
theorem dX6_spared_1 : decode cX6_spared 1 = .ok (.getfield 7, 3) := by decide +kernel
theorem dX6_spared_4 : decode cX6_spared 4 = .ok (.bipush 52, 2) := by decide +kernel
theorem dX6_spared_6 : decode cX6_spared 6 = .ok (.iload_n 1, 1) := by decide +kernel
theorem dX6_spared_7 : decode cX6_spared 7 = .ok (.iadd, 1) := by decide +kernel
theorem dX6_spared_8 : decode cX6_spared 8 = .ok (.iaload, 1) := by decide +kernel
theorem dX6_spared_9 : decode cX6_spared 9 = .ok (.aload_n 0, 1) := by decide +kernel
theorem dX6_spared_10 : decode cX6_spared 10 = .ok (.getfield 33, 3) := by decide +kernel
theorem dX6_spared_13 : decode cX6_spared 13 = .ok (.iload_n 1, 1) := by decide +kernel
theorem dX6_spared_14 : decode cX6_spared 14 = .ok (.iaload, 1) := by decide +kernel
theorem dX6_spared_15 : decode cX6_spared 15 = .ok (.isub, 1) := by decide +kernel
theorem dX6_spared_16 : decode cX6_spared 16 = .ok (.istore_n 2, 1) := by decide +kernel
theorem dX6_spared_17 : decode cX6_spared 17 = .ok (.iload_n 2, 1) := by decide +kernel
theorem dX6_spared_18 : decode cX6_spared 18 = .ok (.ifCond .le 7, 3) := by decide +kernel
theorem dX6_spared_21 : decode cX6_spared 21 = .ok (.iload_n 2, 1) := by decide +kernel
theorem dX6_spared_22 : decode cX6_spared 22 = .ok (.goto 4, 3) := by decide +kernel
theorem dX6_spared_25 : decode cX6_spared 25 = .ok (.iconst 0, 1) := by decide +kernel
theorem dX6_spared_26 : decode cX6_spared 26 = .ok (.ireturn, 1) := by decide +kernel
theorem okX6_spared : CalOK yX6_spared cX6_spared 3 (some .int) 1 := ⟨wd_73, wd_882, by decide +kernel⟩
theorem ovX6_spared : VirOK yX6_spared := ⟨wd_881, wd_40⟩
def FX6_spared (B : Blk) (l1 : Int32) : Option Int32 :=
  ld (B 1) 356 ((52 : Int32) + l1) fun v1 =>
  ld (B 8) 24 l1 fun v4 =>
  lt1 (v1 - v4) fun x7 =>
  if x7 ≤ 0 then
    some (0 : Int32)
  else
    some x7
set_option maxRecDepth 100000 in
set_option maxHeartbeats 4000000 in
theorem wX6_spared {E : WE} {V : VT} {A : Nat → Prop} {H0 : Heap} {M : Mem} (Cx : CX E RX6 cX6_spared 3 0 0) {r : Int32} {B : Blk} (hret : RetI E V A H0 cX6_spared .int r (jb M 12 B)) {H : Heap} {locs : List Loc} {ls : Array Slot} {l1 : Int32} (hW : Wd V A H0 (jb M 12 B) (eS E) H locs) (hl : lv_has ls 3 [(0, .ref (vA V 12 0)), (1, .int l1)]) (hF : FX6_spared B l1 = some r) : Wq E H locs 0 ls [] := by
  unfold FX6_spared at hF
  refine q_aload_n Cx dX6_spared_0 rfl (lv_at hl 0 rfl) ?_
  refine q_get (v := .ref (vA V 12 1)) Cx hW oZ ic6 0 (by decide) rfl wd_714 dX6_spared_1 ?_
  refine q_bipush (v := (52 : Int32)) Cx dX6_spared_4 (by decide) ?_
  refine q_iload_n Cx dX6_spared_6 rfl (lv_at hl 1 rfl) ?_
  refine q_iadd Cx dX6_spared_7 ?_
  obtain ⟨h2, v1, e3, hF⟩ := ld_some hF
  refine qb_iald Cx hW az_1 h2 e3 dX6_spared_8 ?_
  refine q_aload_n Cx dX6_spared_9 rfl (lv_at hl 0 rfl) ?_
  refine q_get (v := .ref (vA V 12 8)) Cx hW oZ ic6 10 (by decide) rfl wd_724 dX6_spared_10 ?_
  refine q_iload_n Cx dX6_spared_13 rfl (lv_at hl 1 rfl) ?_
  obtain ⟨h5, v4, e6, hF⟩ := ld_some hF
  refine qb_iald Cx hW az_8 h5 e6 dX6_spared_14 ?_
  refine q_isub Cx dX6_spared_15 ?_
  obtain ⟨x7, e8, hF⟩ := lt1_some hF
  refine q_topi e8 ?_
  refine q_istore_n (lv' := [(2, .int x7), (0, .ref (vA V 12 0)), (1, .int l1)]) Cx dX6_spared_16 rfl hl (by decide) rfl (fun ls hl => ?_)
  refine q_iload_n Cx dX6_spared_17 rfl (lv_at hl 0 rfl) ?_
  refine q_if_le (tgt := 25) Cx dX6_spared_18 (by decide) (fun c9 => ?_) (fun c9 => ?_)
  · have hF := (if_pos c9).symm.trans hF
    refine q_iconst (v := (0 : Int32)) Cx dX6_spared_25 (by decide) ?_
    obtain rfl := Option.some.inj hF
    exact hret _ _ _ _ dX6_spared_26 (nI32 _) hW
  · have hF := (if_neg c9).symm.trans hF
    refine q_iload_n Cx dX6_spared_21 rfl (lv_at hl 0 rfl) ?_
    refine q_goto (tgt := 26) Cx dX6_spared_22 (by decide) ?_
    obtain rfl := Option.some.inj hF
    exact hret _ _ _ _ dX6_spared_26 (nI32 _) hW
set_option maxRecDepth 100000 in
theorem kX6_spared {l : Launch} {V : VT} {M : Mem} {B : Blk} {l1 : Int32} {r : Int32} (hF : FX6_spared B l1 = some r) : MetI l V yX6_spared cX6_spared 3 .int ({ frames := 0, cells := 0, slots := 0, locals := 0 } : Room) [.ref (vA V 12 0), .int l1] r (jb M 12 B) (jb M 12 B) := metI_of (by decide) (Nat.le_of_ble_eq_true rfl) (fun E H0 _ Cx hret H locs ls hW hl => wX6_spared Cx hret hW hl hF)
theorem dX6_lateTogether_0 : decode cX6_lateTogether 0 = .ok (.iconst 0, 1) := by decide +kernel
theorem dX6_lateTogether_1 : decode cX6_lateTogether 1 = .ok (.istore_n 1, 1) := by decide +kernel
theorem dX6_lateTogether_2 : decode cX6_lateTogether 2 = .ok (.iconst 0, 1) := by decide +kernel
theorem dX6_lateTogether_3 : decode cX6_lateTogether 3 = .ok (.istore_n 2, 1) := by decide +kernel
theorem dX6_lateTogether_4 : decode cX6_lateTogether 4 = .ok (.iload_n 2, 1) := by decide +kernel
theorem dX6_lateTogether_5 : decode cX6_lateTogether 5 = .ok (.aload_n 0, 1) := by decide +kernel
theorem dX6_lateTogether_6 : decode cX6_lateTogether 6 = .ok (.getfield 7, 3) := by decide +kernel
theorem dX6_lateTogether_9 : decode cX6_lateTogether 9 = .ok (.iconst 0, 1) := by decide +kernel
theorem dX6_lateTogether_10 : decode cX6_lateTogether 10 = .ok (.iaload, 1) := by decide +kernel
theorem dX6_lateTogether_11 : decode cX6_lateTogether 11 = .ok (.if_icmp .ge 17, 3) := by decide +kernel
theorem dX6_lateTogether_14 : decode cX6_lateTogether 14 = .ok (.iload_n 1, 1) := by decide +kernel
theorem dX6_lateTogether_15 : decode cX6_lateTogether 15 = .ok (.aload_n 0, 1) := by decide +kernel
theorem dX6_lateTogether_16 : decode cX6_lateTogether 16 = .ok (.iload_n 2, 1) := by decide +kernel
theorem dX6_lateTogether_17 : decode cX6_lateTogether 17 = .ok (.invokevirtual 74, 3) := by decide +kernel
theorem dX6_lateTogether_20 : decode cX6_lateTogether 20 = .ok (.iadd, 1) := by decide +kernel
theorem dX6_lateTogether_21 : decode cX6_lateTogether 21 = .ok (.istore_n 1, 1) := by decide +kernel
theorem dX6_lateTogether_22 : decode cX6_lateTogether 22 = .ok (.iinc 2 1, 3) := by decide +kernel
theorem dX6_lateTogether_25 : decode cX6_lateTogether 25 = .ok (.goto (-21), 3) := by decide +kernel
theorem dX6_lateTogether_28 : decode cX6_lateTogether 28 = .ok (.iload_n 1, 1) := by decide +kernel
theorem dX6_lateTogether_29 : decode cX6_lateTogether 29 = .ok (.ireturn, 1) := by decide +kernel
theorem okX6_lateTogether : CalOK yX6_lateTogether cX6_lateTogether 3 (some .int) 0 := ⟨wd_73, wd_918, by decide +kernel⟩
theorem ovX6_lateTogether : VirOK yX6_lateTogether := ⟨wd_917, wd_46⟩
def FX6_lateTogether_4s (B : Blk) (k4 : Int32 → Int32 → Option Int32) (l1 : Int32) (l2 : Int32) : Option Int32 :=
  ld (B 1) 356 (0 : Int32) fun v1 =>
  if v1 ≤ l2 then
    some l1
  else
    c1 (FX6_late B l2) fun r5 =>
    lt1 (l1 + r5) fun x7 =>
    lt1 (l2 + (1 : Int32)) fun x9 =>
    k4 x7 x9
set_option maxRecDepth 100000 in
set_option maxHeartbeats 4000000 in
theorem wX6_lateTogether_4s {E : WE} {V : VT} {A : Nat → Prop} {H0 : Heap} {M : Mem} (Cx : CX E RX6 cX6_lateTogether 3 1 22) {r : Int32} {B : Blk} (hret : RetI E V A H0 cX6_lateTogether .int r (jb M 12 B)) {k4 : Int32 → Int32 → Option Int32} (hk4 : ∀ {H : Heap} {locs : List Loc} {ls : Array Slot} {l1 : Int32} {l2 : Int32}, Wd V A H0 (jb M 12 B) (eS E) H locs → lv_has ls 3 [(0, .ref (vA V 12 0)), (1, .int l1), (2, .int l2)] → k4 l1 l2 = some r → Wq E H locs 4 ls []) {H : Heap} {locs : List Loc} {ls : Array Slot} {l1 : Int32} {l2 : Int32} (hW : Wd V A H0 (jb M 12 B) (eS E) H locs) (hl : lv_has ls 3 [(0, .ref (vA V 12 0)), (1, .int l1), (2, .int l2)]) (hF : FX6_lateTogether_4s B k4 l1 l2 = some r) : Wq E H locs 4 ls [] := by
  unfold FX6_lateTogether_4s at hF
  refine q_iload_n Cx dX6_lateTogether_4 rfl (lv_at hl 2 rfl) ?_
  refine q_aload_n Cx dX6_lateTogether_5 rfl (lv_at hl 0 rfl) ?_
  refine q_get (v := .ref (vA V 12 1)) Cx hW oZ ic6 0 (by decide) rfl wd_714 dX6_lateTogether_6 ?_
  refine q_iconst (v := (0 : Int32)) Cx dX6_lateTogether_9 (by decide) ?_
  obtain ⟨h2, v1, e3, hF⟩ := ld_some hF
  refine qb_iald Cx hW az_1 h2 e3 dX6_lateTogether_10 ?_
  refine q_icmp_ge (tgt := 28) Cx dX6_lateTogether_11 (by decide) (fun c4 => ?_) (fun c4 => ?_)
  · have hF := (if_pos c4).symm.trans hF
    refine q_iload_n Cx dX6_lateTogether_28 rfl (lv_at hl 1 rfl) ?_
    obtain rfl := Option.some.inj hF
    exact hret _ _ _ _ dX6_lateTogether_29 (nI32 _) hW
  · have hF := (if_neg c4).symm.trans hF
    refine q_iload_n Cx dX6_lateTogether_14 rfl (lv_at hl 1 rfl) ?_
    refine q_aload_n Cx dX6_lateTogether_15 rfl (lv_at hl 0 rfl) ?_
    refine q_iload_n Cx dX6_lateTogether_16 rfl (lv_at hl 2 rfl) ?_
    obtain ⟨r5, e6, hF⟩ := c1_some hF
    refine q_callI (as := [.int l2]) (rest := [.int l1]) Cx (kX6_late e6) okX6_late ovX6_late wd_856 ⟨rfl, rfl, by decide, by decide⟩ hW oZ ic6 rfl hl.1 (Nat.le_of_ble_eq_true rfl) rfl dX6_lateTogether_17 (fun H locs hW => ?_)
    refine q_iadd Cx dX6_lateTogether_20 ?_
    obtain ⟨x7, e8, hF⟩ := lt1_some hF
    refine q_topi e8 ?_
    refine q_istore_n (lv' := [(1, .int x7), (0, .ref (vA V 12 0)), (2, .int l2)]) Cx dX6_lateTogether_21 rfl hl (by decide) rfl (fun ls hl => ?_)
    obtain ⟨x9, e10, hF⟩ := lt1_some hF
    refine q_iinc (k := 2) (v := x9) (lv' := [(2, .int x9), (1, .int x7), (0, .ref (vA V 12 0))]) Cx dX6_lateTogether_22 hl rfl e10.symm (by decide) rfl (fun ls hl => ?_)
    refine q_goto (tgt := 4) Cx dX6_lateTogether_25 (by decide) ?_
    exact hk4 hW (lv_sub hl [2, 1, 0] rfl) hF
def FX6_lateTogether_4 (B : Blk) : Nat → Int32 → Int32 → Option Int32
  | 0 => fun _ _ => none
  | n + 1 => FX6_lateTogether_4s B (FX6_lateTogether_4 B n)
set_option maxRecDepth 100000 in
theorem wX6_lateTogether_4 {E : WE} {V : VT} {A : Nat → Prop} {H0 : Heap} {M : Mem} (Cx : CX E RX6 cX6_lateTogether 3 1 22) {r : Int32} {B : Blk} (hret : RetI E V A H0 cX6_lateTogether .int r (jb M 12 B)) : ∀ (n : Nat) {H : Heap} {locs : List Loc} {ls : Array Slot} {l1 : Int32} {l2 : Int32}, Wd V A H0 (jb M 12 B) (eS E) H locs → lv_has ls 3 [(0, .ref (vA V 12 0)), (1, .int l1), (2, .int l2)] → FX6_lateTogether_4 B n l1 l2 = some r → Wq E H locs 4 ls [] := by
  intro n
  induction n with
  | zero => intro _ _ _ _ _ hW hl hF; cases hF
  | succ n ih => intro _ _ _ _ _ hW hl hF; exact wX6_lateTogether_4s Cx hret ih hW hl hF
def FX6_lateTogether (B : Blk) : Option Int32 :=
  FX6_lateTogether_4 B fu (0 : Int32) (0 : Int32)
set_option maxRecDepth 100000 in
set_option maxHeartbeats 4000000 in
theorem wX6_lateTogether {E : WE} {V : VT} {A : Nat → Prop} {H0 : Heap} {M : Mem} (Cx : CX E RX6 cX6_lateTogether 3 1 22) {r : Int32} {B : Blk} (hret : RetI E V A H0 cX6_lateTogether .int r (jb M 12 B)) {H : Heap} {locs : List Loc} {ls : Array Slot} (hW : Wd V A H0 (jb M 12 B) (eS E) H locs) (hl : lv_has ls 3 [(0, .ref (vA V 12 0))]) (hF : FX6_lateTogether B = some r) : Wq E H locs 0 ls [] := by
  unfold FX6_lateTogether at hF
  refine q_iconst (v := (0 : Int32)) Cx dX6_lateTogether_0 (by decide) ?_
  refine q_istore_n (lv' := [(1, .int (0 : Int32)), (0, .ref (vA V 12 0))]) Cx dX6_lateTogether_1 rfl hl (by decide) rfl (fun ls hl => ?_)
  refine q_iconst (v := (0 : Int32)) Cx dX6_lateTogether_2 (by decide) ?_
  refine q_istore_n (lv' := [(2, .int (0 : Int32)), (1, .int (0 : Int32)), (0, .ref (vA V 12 0))]) Cx dX6_lateTogether_3 rfl hl (by decide) rfl (fun ls hl => ?_)
  exact wX6_lateTogether_4 Cx hret fu hW (lv_sub hl [2, 1, 0] rfl) hF
set_option maxRecDepth 100000 in
theorem kX6_lateTogether {l : Launch} {V : VT} {M : Mem} {B : Blk} {r : Int32} (hF : FX6_lateTogether B = some r) : MetI l V yX6_lateTogether cX6_lateTogether 3 .int ({ frames := 1, cells := 0, slots := 0, locals := 22 } : Room) [.ref (vA V 12 0)] r (jb M 12 B) (jb M 12 B) := metI_of (by decide) (Nat.le_of_ble_eq_true rfl) (fun E H0 _ Cx hret H locs ls hW hl => wX6_lateTogether Cx hret hW hl hF)
theorem dX6_canBeHeld_0 : decode cX6_canBeHeld 0 = .ok (.aload_n 0, 1) := by decide +kernel
theorem dX6_canBeHeld_1 : decode cX6_canBeHeld 1 = .ok (.iload_n 1, 1) := by decide +kernel
theorem dX6_canBeHeld_2 : decode cX6_canBeHeld 2 = .ok (.putfield 36, 3) := by decide +kernel
theorem dX6_canBeHeld_5 : decode cX6_canBeHeld 5 = .ok (.aload_n 0, 1) := by decide +kernel
theorem dX6_canBeHeld_6 : decode cX6_canBeHeld 6 = .ok (.iload_n 2, 1) := by decide +kernel
theorem dX6_canBeHeld_7 : decode cX6_canBeHeld 7 = .ok (.putfield 63, 3) := by decide +kernel
theorem dX6_canBeHeld_10 : decode cX6_canBeHeld 10 = .ok (.aload_n 0, 1) := by decide +kernel
theorem dX6_canBeHeld_11 : decode cX6_canBeHeld 11 = .ok (.invokevirtual 77, 3) := by decide +kernel
theorem dX6_canBeHeld_14 : decode cX6_canBeHeld 14 = .ok (.pop, 1) := by decide +kernel
theorem dX6_canBeHeld_15 : decode cX6_canBeHeld 15 = .ok (.aload_n 0, 1) := by decide +kernel
theorem dX6_canBeHeld_16 : decode cX6_canBeHeld 16 = .ok (.invokevirtual 81, 3) := by decide +kernel
theorem dX6_canBeHeld_19 : decode cX6_canBeHeld 19 = .ok (.ifCond .ne 7, 3) := by decide +kernel
theorem dX6_canBeHeld_22 : decode cX6_canBeHeld 22 = .ok (.iconst 1, 1) := by decide +kernel
theorem dX6_canBeHeld_23 : decode cX6_canBeHeld 23 = .ok (.goto 4, 3) := by decide +kernel
theorem dX6_canBeHeld_26 : decode cX6_canBeHeld 26 = .ok (.iconst 0, 1) := by decide +kernel
theorem dX6_canBeHeld_27 : decode cX6_canBeHeld 27 = .ok (.istore_n 3, 1) := by decide +kernel
theorem dX6_canBeHeld_28 : decode cX6_canBeHeld 28 = .ok (.aload_n 0, 1) := by decide +kernel
theorem dX6_canBeHeld_29 : decode cX6_canBeHeld 29 = .ok (.bipush (-6), 2) := by decide +kernel
theorem dX6_canBeHeld_31 : decode cX6_canBeHeld 31 = .ok (.putfield 36, 3) := by decide +kernel
theorem dX6_canBeHeld_34 : decode cX6_canBeHeld 34 = .ok (.aload_n 0, 1) := by decide +kernel
theorem dX6_canBeHeld_35 : decode cX6_canBeHeld 35 = .ok (.iconst 0, 1) := by decide +kernel
theorem dX6_canBeHeld_36 : decode cX6_canBeHeld 36 = .ok (.putfield 63, 3) := by decide +kernel
theorem dX6_canBeHeld_39 : decode cX6_canBeHeld 39 = .ok (.iload_n 3, 1) := by decide +kernel
theorem dX6_canBeHeld_40 : decode cX6_canBeHeld 40 = .ok (.ireturn, 1) := by decide +kernel
theorem okX6_canBeHeld : CalOK yX6_canBeHeld cX6_canBeHeld 4 (some .boolean) 2 := ⟨wd_73, wd_914, by decide +kernel⟩
theorem ovX6_canBeHeld : VirOK yX6_canBeHeld := ⟨wd_913, wd_45⟩
def FX6_canBeHeld_27 (s0 : Int32) (B : Blk) : Option (Int32 × Blk) :=
  lt1 (bs B 0 11 (-6 : Int32)) fun B11 =>
  lt1 (bs B11 0 12 (0 : Int32)) fun B13 =>
  rZ s0 (some (s0, B13))
set_option maxRecDepth 100000 in
set_option maxHeartbeats 4000000 in
theorem wX6_canBeHeld_27 {E : WE} {V : VT} {A : Nat → Prop} {H0 : Heap} {M : Mem} (Cx : CX E RX6 cX6_canBeHeld 4 2 51) {r : Int32} {B' : Blk} (hret : RetI E V A H0 cX6_canBeHeld .boolean r (jb M 12 B')) {H : Heap} {locs : List Loc} {ls : Array Slot} {s0 : Int32} {B : Blk} (hW : Wd V A H0 (jb M 12 B) (eS E) H locs) (hl : lv_has ls 4 [(0, .ref (vA V 12 0))]) (hF : FX6_canBeHeld_27 s0 B = some (r, B')) : Wq E H locs 27 ls [.int s0] := by
  unfold FX6_canBeHeld_27 at hF
  refine q_istore_n (lv' := [(3, .int s0), (0, .ref (vA V 12 0))]) Cx dX6_canBeHeld_27 rfl hl (by decide) rfl (fun ls hl => ?_)
  refine q_aload_n Cx dX6_canBeHeld_28 rfl (lv_at hl 1 rfl) ?_
  refine q_bipush (v := (-6 : Int32)) Cx dX6_canBeHeld_29 (by decide) ?_
  obtain ⟨B11, e12, hF⟩ := lt1_some hF
  refine qb_put Cx hW oZ ic6 11 (by decide) (Nat.le_of_ble_eq_true rfl) e12 rfl rfl ⟨nI32 _, rfl⟩ wd_725 dX6_canBeHeld_31 (fun H locs hW => ?_)
  refine q_aload_n Cx dX6_canBeHeld_34 rfl (lv_at hl 1 rfl) ?_
  refine q_iconst (v := (0 : Int32)) Cx dX6_canBeHeld_35 (by decide) ?_
  obtain ⟨B13, e14, hF⟩ := lt1_some hF
  refine qb_put Cx hW oZ ic6 12 (by decide) (Nat.le_of_ble_eq_true rfl) e14 rfl rfl ⟨nI32 _, rfl⟩ wd_726 dX6_canBeHeld_36 (fun H locs hW => ?_)
  refine q_iload_n Cx dX6_canBeHeld_39 rfl (lv_at hl 0 rfl) ?_
  obtain ⟨h15, hF⟩ := rZ_some hF
  obtain ⟨rfl, rfl⟩ := Prod.mk.inj (Option.some.inj hF)
  exact hret _ _ _ _ dX6_canBeHeld_40 h15 hW
def FX6_canBeHeld (B : Blk) (l1 : Int32) (l2 : Int32) : Option (Int32 × Blk) :=
  lt1 (bs B 0 11 l1) fun B1 =>
  lt1 (bs B1 0 12 l2) fun B3 =>
  c2 (FX6_reckon B3) fun r5 B7 =>
  c1 (FX6_lateTogether B7) fun r8 =>
  if r8 = 0 then
    FX6_canBeHeld_27 (1 : Int32) B7
  else
    FX6_canBeHeld_27 (0 : Int32) B7
set_option maxRecDepth 100000 in
set_option maxHeartbeats 4000000 in
theorem wX6_canBeHeld {E : WE} {V : VT} {A : Nat → Prop} {H0 : Heap} {M : Mem} (Cx : CX E RX6 cX6_canBeHeld 4 2 51) {r : Int32} {B' : Blk} (hret : RetI E V A H0 cX6_canBeHeld .boolean r (jb M 12 B')) {H : Heap} {locs : List Loc} {ls : Array Slot} {l1 : Int32} {l2 : Int32} {B : Blk} (hW : Wd V A H0 (jb M 12 B) (eS E) H locs) (hl : lv_has ls 4 [(0, .ref (vA V 12 0)), (1, .int l1), (2, .int l2)]) (hF : FX6_canBeHeld B l1 l2 = some (r, B')) : Wq E H locs 0 ls [] := by
  unfold FX6_canBeHeld at hF
  refine q_aload_n Cx dX6_canBeHeld_0 rfl (lv_at hl 0 rfl) ?_
  refine q_iload_n Cx dX6_canBeHeld_1 rfl (lv_at hl 1 rfl) ?_
  obtain ⟨B1, e2, hF⟩ := lt1_some hF
  refine qb_put Cx hW oZ ic6 11 (by decide) (Nat.le_of_ble_eq_true rfl) e2 rfl rfl ⟨nI32 _, rfl⟩ wd_725 dX6_canBeHeld_2 (fun H locs hW => ?_)
  refine q_aload_n Cx dX6_canBeHeld_5 rfl (lv_at hl 0 rfl) ?_
  refine q_iload_n Cx dX6_canBeHeld_6 rfl (lv_at hl 2 rfl) ?_
  obtain ⟨B3, e4, hF⟩ := lt1_some hF
  refine qb_put Cx hW oZ ic6 12 (by decide) (Nat.le_of_ble_eq_true rfl) e4 rfl rfl ⟨nI32 _, rfl⟩ wd_726 dX6_canBeHeld_7 (fun H locs hW => ?_)
  refine q_aload_n Cx dX6_canBeHeld_10 rfl (lv_at hl 0 rfl) ?_
  obtain ⟨r5, B7, e6, hF⟩ := c2_some hF
  refine q_callI (as := []) (rest := []) Cx (kX6_reckon e6) okX6_reckon ovX6_reckon wd_820 ⟨rfl, rfl, by decide, by decide⟩ hW oZ ic6 rfl hl.1 (Nat.le_of_ble_eq_true rfl) rfl dX6_canBeHeld_11 (fun H locs hW => ?_)
  refine q_pop Cx dX6_canBeHeld_14 rfl ?_
  refine q_aload_n Cx dX6_canBeHeld_15 rfl (lv_at hl 0 rfl) ?_
  obtain ⟨r8, e9, hF⟩ := c1_some hF
  refine q_callI (as := []) (rest := []) Cx (kX6_lateTogether e9) okX6_lateTogether ovX6_lateTogether wd_915 ⟨rfl, rfl, by decide, by decide⟩ hW oZ ic6 rfl hl.1 (Nat.le_of_ble_eq_true rfl) rfl dX6_canBeHeld_16 (fun H locs hW => ?_)
  refine q_if_ne (tgt := 26) Cx dX6_canBeHeld_19 (by decide) (fun c10 => ?_) (fun c10 => ?_)
  · have hF := (if_neg c10).symm.trans hF
    refine q_iconst (v := (0 : Int32)) Cx dX6_canBeHeld_26 (by decide) ?_
    exact wX6_canBeHeld_27 Cx hret hW (lv_sub hl [0] rfl) hF
  · have hF := (if_pos c10).symm.trans hF
    refine q_iconst (v := (1 : Int32)) Cx dX6_canBeHeld_22 (by decide) ?_
    refine q_goto (tgt := 27) Cx dX6_canBeHeld_23 (by decide) ?_
    exact wX6_canBeHeld_27 Cx hret hW (lv_sub hl [0] rfl) hF
set_option maxRecDepth 100000 in
theorem kX6_canBeHeld {l : Launch} {V : VT} {M : Mem} {B : Blk} {l1 : Int32} {l2 : Int32} {r : Int32} {B' : Blk} (hF : FX6_canBeHeld B l1 l2 = some (r, B')) : MetI l V yX6_canBeHeld cX6_canBeHeld 4 .boolean ({ frames := 2, cells := 0, slots := 0, locals := 51 } : Room) [.ref (vA V 12 0), .int l1, .int l2] r (jb M 12 B) (jb M 12 B') := metI_of (by decide) (Nat.le_of_ble_eq_true rfl) (fun E H0 _ Cx hret H locs ls hW hl => wX6_canBeHeld Cx hret hW hl hF)
theorem dX6_slack_0 : decode cX6_slack 0 = .ok (.aload_n 0, 1) := by decide +kernel
theorem dX6_slack_1 : decode cX6_slack 1 = .ok (.iload_n 1, 1) := by decide +kernel
theorem dX6_slack_2 : decode cX6_slack 2 = .ok (.iconst 0, 1) := by decide +kernel
theorem dX6_slack_3 : decode cX6_slack 3 = .ok (.invokevirtual 85, 3) := by decide +kernel
theorem dX6_slack_6 : decode cX6_slack 6 = .ok (.ifCond .ne 5, 3) := by decide +kernel
theorem dX6_slack_9 : decode cX6_slack 9 = .ok (.iconst 0, 1) := by decide +kernel
theorem dX6_slack_10 : decode cX6_slack 10 = .ok (.ireturn, 1) := by decide +kernel
theorem dX6_slack_11 : decode cX6_slack 11 = .ok (.iconst 0, 1) := by decide +kernel
theorem dX6_slack_12 : decode cX6_slack 12 = .ok (.istore_n 2, 1) := by decide +kernel
theorem dX6_slack_13 : decode cX6_slack 13 = .ok (.sipush 5000, 3) := by decide +kernel
theorem dX6_slack_16 : decode cX6_slack 16 = .ok (.istore_n 3, 1) := by decide +kernel
theorem dX6_slack_17 : decode cX6_slack 17 = .ok (.iload_n 2, 1) := by decide +kernel
theorem dX6_slack_18 : decode cX6_slack 18 = .ok (.iload_n 3, 1) := by decide +kernel
theorem dX6_slack_19 : decode cX6_slack 19 = .ok (.if_icmp .ge 50, 3) := by decide +kernel
theorem dX6_slack_22 : decode cX6_slack 22 = .ok (.iload_n 2, 1) := by decide +kernel
theorem dX6_slack_23 : decode cX6_slack 23 = .ok (.iload_n 3, 1) := by decide +kernel
theorem dX6_slack_24 : decode cX6_slack 24 = .ok (.iadd, 1) := by decide +kernel
theorem dX6_slack_25 : decode cX6_slack 25 = .ok (.iconst 1, 1) := by decide +kernel
theorem dX6_slack_26 : decode cX6_slack 26 = .ok (.iadd, 1) := by decide +kernel
theorem dX6_slack_27 : decode cX6_slack 27 = .ok (.iconst 2, 1) := by decide +kernel
theorem dX6_slack_28 : decode cX6_slack 28 = .ok (.idiv, 1) := by decide +kernel
theorem dX6_slack_29 : decode cX6_slack 29 = .ok (.istore 4, 2) := by decide +kernel
theorem dX6_slack_31 : decode cX6_slack 31 = .ok (.aload_n 0, 1) := by decide +kernel
theorem dX6_slack_32 : decode cX6_slack 32 = .ok (.iload_n 1, 1) := by decide +kernel
theorem dX6_slack_33 : decode cX6_slack 33 = .ok (.iload 4, 2) := by decide +kernel
theorem dX6_slack_35 : decode cX6_slack 35 = .ok (.invokevirtual 85, 3) := by decide +kernel
theorem dX6_slack_38 : decode cX6_slack 38 = .ok (.istore 5, 2) := by decide +kernel
theorem dX6_slack_40 : decode cX6_slack 40 = .ok (.iload 5, 2) := by decide +kernel
theorem dX6_slack_42 : decode cX6_slack 42 = .ok (.ifCond .eq 8, 3) := by decide +kernel
theorem dX6_slack_45 : decode cX6_slack 45 = .ok (.iload 4, 2) := by decide +kernel
theorem dX6_slack_47 : decode cX6_slack 47 = .ok (.goto 4, 3) := by decide +kernel
theorem dX6_slack_50 : decode cX6_slack 50 = .ok (.iload_n 2, 1) := by decide +kernel
theorem dX6_slack_51 : decode cX6_slack 51 = .ok (.istore_n 2, 1) := by decide +kernel
theorem dX6_slack_52 : decode cX6_slack 52 = .ok (.iload 5, 2) := by decide +kernel
theorem dX6_slack_54 : decode cX6_slack 54 = .ok (.ifCond .eq 7, 3) := by decide +kernel
theorem dX6_slack_57 : decode cX6_slack 57 = .ok (.iload_n 3, 1) := by decide +kernel
theorem dX6_slack_58 : decode cX6_slack 58 = .ok (.goto 7, 3) := by decide +kernel
theorem dX6_slack_61 : decode cX6_slack 61 = .ok (.iload 4, 2) := by decide +kernel
theorem dX6_slack_63 : decode cX6_slack 63 = .ok (.iconst 1, 1) := by decide +kernel
theorem dX6_slack_64 : decode cX6_slack 64 = .ok (.isub, 1) := by decide +kernel
theorem dX6_slack_65 : decode cX6_slack 65 = .ok (.istore_n 3, 1) := by decide +kernel
theorem dX6_slack_66 : decode cX6_slack 66 = .ok (.goto (-49), 3) := by decide +kernel
theorem dX6_slack_69 : decode cX6_slack 69 = .ok (.iload_n 2, 1) := by decide +kernel
theorem dX6_slack_70 : decode cX6_slack 70 = .ok (.ireturn, 1) := by decide +kernel
theorem okX6_slack : CalOK yX6_slack cX6_slack 6 (some .int) 1 := ⟨wd_73, wd_910, by decide +kernel⟩
theorem ovX6_slack : VirOK yX6_slack := ⟨wd_909, wd_44⟩
def FX6_slack_51 (k17 : Int32 → Int32 → Int32 → Blk → Option (Int32 × Blk)) (l1 : Int32) (l3 : Int32) (l4 : Int32) (l5 : Int32) (s0 : Int32) (B : Blk) : Option (Int32 × Blk) :=
  if l5 = 0 then
    lt1 (l4 - (1 : Int32)) fun x13 =>
    k17 l1 s0 x13 B
  else
    k17 l1 s0 l3 B
set_option maxRecDepth 100000 in
set_option maxHeartbeats 4000000 in
theorem wX6_slack_51 {E : WE} {V : VT} {A : Nat → Prop} {H0 : Heap} {M : Mem} (Cx : CX E RX6 cX6_slack 6 3 74) {r : Int32} {B' : Blk} (hret : RetI E V A H0 cX6_slack .int r (jb M 12 B')) {k17 : Int32 → Int32 → Int32 → Blk → Option (Int32 × Blk)} (hk17 : ∀ {H : Heap} {locs : List Loc} {ls : Array Slot} {B : Blk} {l1 : Int32} {l2 : Int32} {l3 : Int32}, Wd V A H0 (jb M 12 B) (eS E) H locs → lv_has ls 6 [(0, .ref (vA V 12 0)), (1, .int l1), (2, .int l2), (3, .int l3)] → k17 l1 l2 l3 B = some (r, B') → Wq E H locs 17 ls []) {H : Heap} {locs : List Loc} {ls : Array Slot} {l1 : Int32} {l3 : Int32} {l4 : Int32} {l5 : Int32} {s0 : Int32} {B : Blk} (hW : Wd V A H0 (jb M 12 B) (eS E) H locs) (hl : lv_has ls 6 [(0, .ref (vA V 12 0)), (1, .int l1), (3, .int l3), (4, .int l4), (5, .int l5)]) (hF : FX6_slack_51 k17 l1 l3 l4 l5 s0 B = some (r, B')) : Wq E H locs 51 ls [.int s0] := by
  unfold FX6_slack_51 at hF
  refine q_istore_n (lv' := [(2, .int s0), (0, .ref (vA V 12 0)), (1, .int l1), (3, .int l3), (4, .int l4), (5, .int l5)]) Cx dX6_slack_51 rfl hl (by decide) rfl (fun ls hl => ?_)
  refine q_iload Cx dX6_slack_52 (lv_at hl 5 rfl) ?_
  refine q_if_eq (tgt := 61) Cx dX6_slack_54 (by decide) (fun c12 => ?_) (fun c12 => ?_)
  · have hF := (if_pos c12).symm.trans hF
    refine q_iload Cx dX6_slack_61 (lv_at hl 4 rfl) ?_
    refine q_iconst (v := (1 : Int32)) Cx dX6_slack_63 (by decide) ?_
    refine q_isub Cx dX6_slack_64 ?_
    obtain ⟨x13, e14, hF⟩ := lt1_some hF
    refine q_topi e14 ?_
    refine q_istore_n (lv' := [(3, .int x13), (2, .int s0), (0, .ref (vA V 12 0)), (1, .int l1), (4, .int l4), (5, .int l5)]) Cx dX6_slack_65 rfl hl (by decide) rfl (fun ls hl => ?_)
    refine q_goto (tgt := 17) Cx dX6_slack_66 (by decide) ?_
    exact hk17 hW (lv_sub hl [2, 3, 1, 0] rfl) hF
  · have hF := (if_neg c12).symm.trans hF
    refine q_iload_n Cx dX6_slack_57 rfl (lv_at hl 3 rfl) ?_
    refine q_goto (tgt := 65) Cx dX6_slack_58 (by decide) ?_
    refine q_istore_n (lv' := [(3, .int l3), (2, .int s0), (0, .ref (vA V 12 0)), (1, .int l1), (4, .int l4), (5, .int l5)]) Cx dX6_slack_65 rfl hl (by decide) rfl (fun ls hl => ?_)
    refine q_goto (tgt := 17) Cx dX6_slack_66 (by decide) ?_
    exact hk17 hW (lv_sub hl [2, 3, 1, 0] rfl) hF
def FX6_slack_17s (k17 : Int32 → Int32 → Int32 → Blk → Option (Int32 × Blk)) (l1 : Int32) (l2 : Int32) (l3 : Int32) (B : Blk) : Option (Int32 × Blk) :=
  if l3 ≤ l2 then
    some (l2, B)
  else
    lt1 (((l2 + l3) + (1 : Int32)) / (2 : Int32)) fun x6 =>
    c2 (FX6_canBeHeld B l1 x6) fun r8 B10 =>
    if r8 = 0 then
      FX6_slack_51 k17 l1 l3 x6 r8 l2 B10
    else
      FX6_slack_51 k17 l1 l3 x6 r8 x6 B10
set_option maxRecDepth 100000 in
set_option maxHeartbeats 4000000 in
theorem wX6_slack_17s {E : WE} {V : VT} {A : Nat → Prop} {H0 : Heap} {M : Mem} (Cx : CX E RX6 cX6_slack 6 3 74) {r : Int32} {B' : Blk} (hret : RetI E V A H0 cX6_slack .int r (jb M 12 B')) {k17 : Int32 → Int32 → Int32 → Blk → Option (Int32 × Blk)} (hk17 : ∀ {H : Heap} {locs : List Loc} {ls : Array Slot} {B : Blk} {l1 : Int32} {l2 : Int32} {l3 : Int32}, Wd V A H0 (jb M 12 B) (eS E) H locs → lv_has ls 6 [(0, .ref (vA V 12 0)), (1, .int l1), (2, .int l2), (3, .int l3)] → k17 l1 l2 l3 B = some (r, B') → Wq E H locs 17 ls []) {H : Heap} {locs : List Loc} {ls : Array Slot} {l1 : Int32} {l2 : Int32} {l3 : Int32} {B : Blk} (hW : Wd V A H0 (jb M 12 B) (eS E) H locs) (hl : lv_has ls 6 [(0, .ref (vA V 12 0)), (1, .int l1), (2, .int l2), (3, .int l3)]) (hF : FX6_slack_17s k17 l1 l2 l3 B = some (r, B')) : Wq E H locs 17 ls [] := by
  unfold FX6_slack_17s at hF
  refine q_iload_n Cx dX6_slack_17 rfl (lv_at hl 2 rfl) ?_
  refine q_iload_n Cx dX6_slack_18 rfl (lv_at hl 3 rfl) ?_
  refine q_icmp_ge (tgt := 69) Cx dX6_slack_19 (by decide) (fun c5 => ?_) (fun c5 => ?_)
  · have hF := (if_pos c5).symm.trans hF
    refine q_iload_n Cx dX6_slack_69 rfl (lv_at hl 2 rfl) ?_
    obtain ⟨rfl, rfl⟩ := Prod.mk.inj (Option.some.inj hF)
    exact hret _ _ _ _ dX6_slack_70 (nI32 _) hW
  · have hF := (if_neg c5).symm.trans hF
    refine q_iload_n Cx dX6_slack_22 rfl (lv_at hl 2 rfl) ?_
    refine q_iload_n Cx dX6_slack_23 rfl (lv_at hl 3 rfl) ?_
    refine q_iadd Cx dX6_slack_24 ?_
    refine q_iconst (v := (1 : Int32)) Cx dX6_slack_25 (by decide) ?_
    refine q_iadd Cx dX6_slack_26 ?_
    refine q_iconst (v := (2 : Int32)) Cx dX6_slack_27 (by decide) ?_
    refine q_idiv Cx dX6_slack_28 (by decide) ?_
    obtain ⟨x6, e7, hF⟩ := lt1_some hF
    refine q_topi e7 ?_
    refine q_istore (lv' := [(4, .int x6), (0, .ref (vA V 12 0)), (1, .int l1), (2, .int l2), (3, .int l3)]) Cx dX6_slack_29 hl (by decide) rfl (fun ls hl => ?_)
    refine q_aload_n Cx dX6_slack_31 rfl (lv_at hl 1 rfl) ?_
    refine q_iload_n Cx dX6_slack_32 rfl (lv_at hl 2 rfl) ?_
    refine q_iload Cx dX6_slack_33 (lv_at hl 0 rfl) ?_
    obtain ⟨r8, B10, e9, hF⟩ := c2_some hF
    refine q_callI (as := [.int l1, .int x6]) (rest := []) Cx (kX6_canBeHeld e9) okX6_canBeHeld ovX6_canBeHeld wd_911 ⟨rfl, rfl, by decide, by decide⟩ hW oZ ic6 rfl hl.1 (Nat.le_of_ble_eq_true rfl) rfl dX6_slack_35 (fun H locs hW => ?_)
    refine q_istore (lv' := [(5, .int r8), (4, .int x6), (0, .ref (vA V 12 0)), (1, .int l1), (2, .int l2), (3, .int l3)]) Cx dX6_slack_38 hl (by decide) rfl (fun ls hl => ?_)
    refine q_iload Cx dX6_slack_40 (lv_at hl 0 rfl) ?_
    refine q_if_eq (tgt := 50) Cx dX6_slack_42 (by decide) (fun c11 => ?_) (fun c11 => ?_)
    · have hF := (if_pos c11).symm.trans hF
      refine q_iload_n Cx dX6_slack_50 rfl (lv_at hl 4 rfl) ?_
      exact wX6_slack_51 Cx hret hk17 hW (lv_sub hl [2, 3, 5, 1, 0] rfl) hF
    · have hF := (if_neg c11).symm.trans hF
      refine q_iload Cx dX6_slack_45 (lv_at hl 1 rfl) ?_
      refine q_goto (tgt := 51) Cx dX6_slack_47 (by decide) ?_
      exact wX6_slack_51 Cx hret hk17 hW (lv_sub hl [2, 3, 5, 1, 0] rfl) hF
def FX6_slack_17 : Nat → Int32 → Int32 → Int32 → Blk → Option (Int32 × Blk)
  | 0 => fun _ _ _ _ => none
  | n + 1 => FX6_slack_17s (FX6_slack_17 n)
set_option maxRecDepth 100000 in
theorem wX6_slack_17 {E : WE} {V : VT} {A : Nat → Prop} {H0 : Heap} {M : Mem} (Cx : CX E RX6 cX6_slack 6 3 74) {r : Int32} {B' : Blk} (hret : RetI E V A H0 cX6_slack .int r (jb M 12 B')) : ∀ (n : Nat) {H : Heap} {locs : List Loc} {ls : Array Slot} {l1 : Int32} {l2 : Int32} {l3 : Int32} {B : Blk}, Wd V A H0 (jb M 12 B) (eS E) H locs → lv_has ls 6 [(0, .ref (vA V 12 0)), (1, .int l1), (2, .int l2), (3, .int l3)] → FX6_slack_17 n l1 l2 l3 B = some (r, B') → Wq E H locs 17 ls [] := by
  intro n
  induction n with
  | zero => intro _ _ _ _ _ _ _ hW hl hF; cases hF
  | succ n ih => intro _ _ _ _ _ _ _ hW hl hF; exact wX6_slack_17s Cx hret ih hW hl hF
def FX6_slack (B : Blk) (l1 : Int32) : Option (Int32 × Blk) :=
  c2 (FX6_canBeHeld B l1 (0 : Int32)) fun r1 B3 =>
  if r1 = 0 then
    some ((0 : Int32), B3)
  else
    FX6_slack_17 fu l1 (0 : Int32) (5000 : Int32) B3
set_option maxRecDepth 100000 in
set_option maxHeartbeats 4000000 in
theorem wX6_slack {E : WE} {V : VT} {A : Nat → Prop} {H0 : Heap} {M : Mem} (Cx : CX E RX6 cX6_slack 6 3 74) {r : Int32} {B' : Blk} (hret : RetI E V A H0 cX6_slack .int r (jb M 12 B')) {H : Heap} {locs : List Loc} {ls : Array Slot} {l1 : Int32} {B : Blk} (hW : Wd V A H0 (jb M 12 B) (eS E) H locs) (hl : lv_has ls 6 [(0, .ref (vA V 12 0)), (1, .int l1)]) (hF : FX6_slack B l1 = some (r, B')) : Wq E H locs 0 ls [] := by
  unfold FX6_slack at hF
  refine q_aload_n Cx dX6_slack_0 rfl (lv_at hl 0 rfl) ?_
  refine q_iload_n Cx dX6_slack_1 rfl (lv_at hl 1 rfl) ?_
  refine q_iconst (v := (0 : Int32)) Cx dX6_slack_2 (by decide) ?_
  obtain ⟨r1, B3, e2, hF⟩ := c2_some hF
  refine q_callI (as := [.int l1, .int (0 : Int32)]) (rest := []) Cx (kX6_canBeHeld e2) okX6_canBeHeld ovX6_canBeHeld wd_911 ⟨rfl, rfl, by decide, by decide⟩ hW oZ ic6 rfl hl.1 (Nat.le_of_ble_eq_true rfl) rfl dX6_slack_3 (fun H locs hW => ?_)
  refine q_if_ne (tgt := 11) Cx dX6_slack_6 (by decide) (fun c4 => ?_) (fun c4 => ?_)
  · have hF := (if_neg c4).symm.trans hF
    refine q_iconst (v := (0 : Int32)) Cx dX6_slack_11 (by decide) ?_
    refine q_istore_n (lv' := [(2, .int (0 : Int32)), (0, .ref (vA V 12 0)), (1, .int l1)]) Cx dX6_slack_12 rfl hl (by decide) rfl (fun ls hl => ?_)
    refine q_sipush (v := (5000 : Int32)) Cx dX6_slack_13 (by decide) ?_
    refine q_istore_n (lv' := [(3, .int (5000 : Int32)), (2, .int (0 : Int32)), (0, .ref (vA V 12 0)), (1, .int l1)]) Cx dX6_slack_16 rfl hl (by decide) rfl (fun ls hl => ?_)
    exact wX6_slack_17 Cx hret fu hW (lv_sub hl [2, 3, 1, 0] rfl) hF
  · have hF := (if_pos c4).symm.trans hF
    refine q_iconst (v := (0 : Int32)) Cx dX6_slack_9 (by decide) ?_
    obtain ⟨rfl, rfl⟩ := Prod.mk.inj (Option.some.inj hF)
    exact hret _ _ _ _ dX6_slack_10 (nI32 _) hW
set_option maxRecDepth 100000 in
theorem kX6_slack {l : Launch} {V : VT} {M : Mem} {B : Blk} {l1 : Int32} {r : Int32} {B' : Blk} (hF : FX6_slack B l1 = some (r, B')) : MetI l V yX6_slack cX6_slack 6 .int ({ frames := 3, cells := 0, slots := 0, locals := 74 } : Room) [.ref (vA V 12 0), .int l1] r (jb M 12 B) (jb M 12 B') := metI_of (by decide) (Nat.le_of_ble_eq_true rfl) (fun E H0 _ Cx hret H locs ls hW hl => wX6_slack Cx hret hW hl hF)
theorem dX6_set_0 : decode cX6_set 0 = .ok (.iload_n 1, 1) := by decide +kernel
theorem dX6_set_1 : decode cX6_set 1 = .ok (.ifCond .ne 13, 3) := by decide +kernel
theorem dX6_set_4 : decode cX6_set 4 = .ok (.iload_n 2, 1) := by decide +kernel
theorem dX6_set_5 : decode cX6_set 5 = .ok (.iconst 0, 1) := by decide +kernel
theorem dX6_set_6 : decode cX6_set 6 = .ok (.bipush 100, 2) := by decide +kernel
theorem dX6_set_8 : decode cX6_set 8 = .ok (.invokestatic 56, 3) := by decide +kernel
theorem dX6_set_11 : decode cX6_set 11 = .ok (.ifCond .ne 18, 3) := by decide +kernel
theorem dX6_set_14 : decode cX6_set 14 = .ok (.iload_n 1, 1) := by decide +kernel
theorem dX6_set_15 : decode cX6_set 15 = .ok (.iconst 1, 1) := by decide +kernel
theorem dX6_set_16 : decode cX6_set 16 = .ok (.if_icmp .ne 17, 3) := by decide +kernel
theorem dX6_set_19 : decode cX6_set 19 = .ok (.iload_n 2, 1) := by decide +kernel
theorem dX6_set_20 : decode cX6_set 20 = .ok (.iconst 1, 1) := by decide +kernel
theorem dX6_set_21 : decode cX6_set 21 = .ok (.bipush 9, 2) := by decide +kernel
theorem dX6_set_23 : decode cX6_set 23 = .ok (.invokestatic 56, 3) := by decide +kernel
theorem dX6_set_26 : decode cX6_set 26 = .ok (.ifCond .eq 7, 3) := by decide +kernel
theorem dX6_set_29 : decode cX6_set 29 = .ok (.iconst 1, 1) := by decide +kernel
theorem dX6_set_30 : decode cX6_set 30 = .ok (.goto 4, 3) := by decide +kernel
theorem dX6_set_33 : decode cX6_set 33 = .ok (.iconst 0, 1) := by decide +kernel
theorem dX6_set_34 : decode cX6_set 34 = .ok (.istore_n 3, 1) := by decide +kernel
theorem dX6_set_35 : decode cX6_set 35 = .ok (.iload_n 3, 1) := by decide +kernel
theorem dX6_set_36 : decode cX6_set 36 = .ok (.ifCond .ne 6, 3) := by decide +kernel
theorem dX6_set_39 : decode cX6_set 39 = .ok (.bipush (-2), 2) := by decide +kernel
theorem dX6_set_41 : decode cX6_set 41 = .ok (.ireturn, 1) := by decide +kernel
theorem dX6_set_42 : decode cX6_set 42 = .ok (.aload_n 0, 1) := by decide +kernel
theorem dX6_set_43 : decode cX6_set 43 = .ok (.invokevirtual 60, 3) := by decide +kernel
theorem dX6_set_46 : decode cX6_set 46 = .ok (.aload_n 0, 1) := by decide +kernel
theorem dX6_set_47 : decode cX6_set 47 = .ok (.getfield 7, 3) := by decide +kernel
theorem dX6_set_50 : decode cX6_set 50 = .ok (.iconst 1, 1) := by decide +kernel
theorem dX6_set_51 : decode cX6_set 51 = .ok (.iload_n 1, 1) := by decide +kernel
theorem dX6_set_52 : decode cX6_set 52 = .ok (.iadd, 1) := by decide +kernel
theorem dX6_set_53 : decode cX6_set 53 = .ok (.iaload, 1) := by decide +kernel
theorem dX6_set_54 : decode cX6_set 54 = .ok (.istore 4, 2) := by decide +kernel
theorem dX6_set_56 : decode cX6_set 56 = .ok (.aload_n 0, 1) := by decide +kernel
theorem dX6_set_57 : decode cX6_set 57 = .ok (.getfield 7, 3) := by decide +kernel
theorem dX6_set_60 : decode cX6_set 60 = .ok (.iconst 1, 1) := by decide +kernel
theorem dX6_set_61 : decode cX6_set 61 = .ok (.iload_n 1, 1) := by decide +kernel
theorem dX6_set_62 : decode cX6_set 62 = .ok (.iadd, 1) := by decide +kernel
theorem dX6_set_63 : decode cX6_set 63 = .ok (.iload_n 2, 1) := by decide +kernel
theorem dX6_set_64 : decode cX6_set 64 = .ok (.iastore, 1) := by decide +kernel
theorem dX6_set_65 : decode cX6_set 65 = .ok (.iload 4, 2) := by decide +kernel
theorem dX6_set_67 : decode cX6_set 67 = .ok (.ireturn, 1) := by decide +kernel
theorem okX6_set : CalOK yX6_set cX6_set 5 (some .int) 2 := ⟨wd_73, wd_794, by decide +kernel⟩
theorem ovX6_set : VirOK yX6_set := ⟨wd_792, wd_793⟩
def FX6_set_34 (l1 : Int32) (l2 : Int32) (s0 : Int32) (B : Blk) : Option (Int32 × Blk) :=
  if s0 = 0 then
    some ((-2 : Int32), B)
  else
    c1 (FX6_record B) fun B6 =>
    ld (B6 1) 356 ((1 : Int32) + l1) fun v7 =>
    stb B6 1 356 ((1 : Int32) + l1) l2 fun B10 =>
    some (v7, B10)
set_option maxRecDepth 100000 in
set_option maxHeartbeats 4000000 in
theorem wX6_set_34 {E : WE} {V : VT} {A : Nat → Prop} {H0 : Heap} {M : Mem} (Cx : CX E RX6 cX6_set 5 1 22) {r : Int32} {B' : Blk} (hret : RetI E V A H0 cX6_set .int r (jb M 12 B')) {H : Heap} {locs : List Loc} {ls : Array Slot} {l1 : Int32} {l2 : Int32} {s0 : Int32} {B : Blk} (hW : Wd V A H0 (jb M 12 B) (eS E) H locs) (hl : lv_has ls 5 [(0, .ref (vA V 12 0)), (1, .int l1), (2, .int l2)]) (hF : FX6_set_34 l1 l2 s0 B = some (r, B')) : Wq E H locs 34 ls [.int s0] := by
  unfold FX6_set_34 at hF
  refine q_istore_n (lv' := [(3, .int s0), (0, .ref (vA V 12 0)), (1, .int l1), (2, .int l2)]) Cx dX6_set_34 rfl hl (by decide) rfl (fun ls hl => ?_)
  refine q_iload_n Cx dX6_set_35 rfl (lv_at hl 0 rfl) ?_
  refine q_if_ne (tgt := 42) Cx dX6_set_36 (by decide) (fun c3 => ?_) (fun c3 => ?_)
  · have hF := (if_neg c3).symm.trans hF
    refine q_aload_n Cx dX6_set_42 rfl (lv_at hl 1 rfl) ?_
    obtain ⟨B6, e5, hF⟩ := c1_some hF
    refine q_callV (as := []) (rest := []) Cx (kX6_record e5) okX6_record ovX6_record wd_787 ⟨rfl, rfl, by decide, by decide⟩ hW oZ ic6 rfl hl.1 (Nat.le_of_ble_eq_true rfl) rfl dX6_set_43 (fun H locs hW => ?_)
    refine q_aload_n Cx dX6_set_46 rfl (lv_at hl 1 rfl) ?_
    refine q_get (v := .ref (vA V 12 1)) Cx hW oZ ic6 0 (by decide) rfl wd_714 dX6_set_47 ?_
    refine q_iconst (v := (1 : Int32)) Cx dX6_set_50 (by decide) ?_
    refine q_iload_n Cx dX6_set_51 rfl (lv_at hl 2 rfl) ?_
    refine q_iadd Cx dX6_set_52 ?_
    obtain ⟨h8, v7, e9, hF⟩ := ld_some hF
    refine qb_iald Cx hW az_1 h8 e9 dX6_set_53 ?_
    refine q_istore (lv' := [(4, .int v7), (3, .int s0), (0, .ref (vA V 12 0)), (1, .int l1), (2, .int l2)]) Cx dX6_set_54 hl (by decide) rfl (fun ls hl => ?_)
    refine q_aload_n Cx dX6_set_56 rfl (lv_at hl 2 rfl) ?_
    refine q_get (v := .ref (vA V 12 1)) Cx hW oZ ic6 0 (by decide) rfl wd_714 dX6_set_57 ?_
    refine q_iconst (v := (1 : Int32)) Cx dX6_set_60 (by decide) ?_
    refine q_iload_n Cx dX6_set_61 rfl (lv_at hl 3 rfl) ?_
    refine q_iadd Cx dX6_set_62 ?_
    refine q_iload_n Cx dX6_set_63 rfl (lv_at hl 4 rfl) ?_
    obtain ⟨h11, B10, e12, hF⟩ := stb_some hF
    refine qb_iast Cx hW az_1 h11 e12 dX6_set_64 (fun H locs hW => ?_)
    refine q_iload Cx dX6_set_65 (lv_at hl 0 rfl) ?_
    obtain ⟨rfl, rfl⟩ := Prod.mk.inj (Option.some.inj hF)
    exact hret _ _ _ _ dX6_set_67 (nI32 _) hW
  · have hF := (if_pos c3).symm.trans hF
    refine q_bipush (v := (-2 : Int32)) Cx dX6_set_39 (by decide) ?_
    obtain ⟨rfl, rfl⟩ := Prod.mk.inj (Option.some.inj hF)
    exact hret _ _ _ _ dX6_set_41 (nI32 _) hW
def FX6_set_33 (l1 : Int32) (l2 : Int32) (B : Blk) : Option (Int32 × Blk) :=
  FX6_set_34 l1 l2 (0 : Int32) B
set_option maxRecDepth 100000 in
set_option maxHeartbeats 4000000 in
theorem wX6_set_33 {E : WE} {V : VT} {A : Nat → Prop} {H0 : Heap} {M : Mem} (Cx : CX E RX6 cX6_set 5 1 22) {r : Int32} {B' : Blk} (hret : RetI E V A H0 cX6_set .int r (jb M 12 B')) {H : Heap} {locs : List Loc} {ls : Array Slot} {l1 : Int32} {l2 : Int32} {B : Blk} (hW : Wd V A H0 (jb M 12 B) (eS E) H locs) (hl : lv_has ls 5 [(0, .ref (vA V 12 0)), (1, .int l1), (2, .int l2)]) (hF : FX6_set_33 l1 l2 B = some (r, B')) : Wq E H locs 33 ls [] := by
  unfold FX6_set_33 at hF
  refine q_iconst (v := (0 : Int32)) Cx dX6_set_33 (by decide) ?_
  exact wX6_set_34 Cx hret hW (lv_sub hl [0, 1, 2] rfl) hF
def FX6_set_29 (l1 : Int32) (l2 : Int32) (B : Blk) : Option (Int32 × Blk) :=
  FX6_set_34 l1 l2 (1 : Int32) B
set_option maxRecDepth 100000 in
set_option maxHeartbeats 4000000 in
theorem wX6_set_29 {E : WE} {V : VT} {A : Nat → Prop} {H0 : Heap} {M : Mem} (Cx : CX E RX6 cX6_set 5 1 22) {r : Int32} {B' : Blk} (hret : RetI E V A H0 cX6_set .int r (jb M 12 B')) {H : Heap} {locs : List Loc} {ls : Array Slot} {l1 : Int32} {l2 : Int32} {B : Blk} (hW : Wd V A H0 (jb M 12 B) (eS E) H locs) (hl : lv_has ls 5 [(0, .ref (vA V 12 0)), (1, .int l1), (2, .int l2)]) (hF : FX6_set_29 l1 l2 B = some (r, B')) : Wq E H locs 29 ls [] := by
  unfold FX6_set_29 at hF
  refine q_iconst (v := (1 : Int32)) Cx dX6_set_29 (by decide) ?_
  refine q_goto (tgt := 34) Cx dX6_set_30 (by decide) ?_
  exact wX6_set_34 Cx hret hW (lv_sub hl [0, 1, 2] rfl) hF
def FX6_set_14 (l1 : Int32) (l2 : Int32) (B : Blk) : Option (Int32 × Blk) :=
  if l1 = (1 : Int32) then
    c1 (FX6_in l2 (1 : Int32) (9 : Int32)) fun r13 =>
    if r13 = 0 then
      FX6_set_33 l1 l2 B
    else
      FX6_set_29 l1 l2 B
  else
    FX6_set_33 l1 l2 B
set_option maxRecDepth 100000 in
set_option maxHeartbeats 4000000 in
theorem wX6_set_14 {E : WE} {V : VT} {A : Nat → Prop} {H0 : Heap} {M : Mem} (Cx : CX E RX6 cX6_set 5 1 22) {r : Int32} {B' : Blk} (hret : RetI E V A H0 cX6_set .int r (jb M 12 B')) {H : Heap} {locs : List Loc} {ls : Array Slot} {l1 : Int32} {l2 : Int32} {B : Blk} (hW : Wd V A H0 (jb M 12 B) (eS E) H locs) (hl : lv_has ls 5 [(0, .ref (vA V 12 0)), (1, .int l1), (2, .int l2)]) (hF : FX6_set_14 l1 l2 B = some (r, B')) : Wq E H locs 14 ls [] := by
  unfold FX6_set_14 at hF
  refine q_iload_n Cx dX6_set_14 rfl (lv_at hl 1 rfl) ?_
  refine q_iconst (v := (1 : Int32)) Cx dX6_set_15 (by decide) ?_
  refine q_icmp_ne (tgt := 33) Cx dX6_set_16 (by decide) (fun c2 => ?_) (fun c2 => ?_)
  · have hF := (if_neg c2).symm.trans hF
    exact wX6_set_33 Cx hret hW (lv_sub hl [0, 1, 2] rfl) hF
  · have hF := (if_pos c2).symm.trans hF
    refine q_iload_n Cx dX6_set_19 rfl (lv_at hl 2 rfl) ?_
    refine q_iconst (v := (1 : Int32)) Cx dX6_set_20 (by decide) ?_
    refine q_bipush (v := (9 : Int32)) Cx dX6_set_21 (by decide) ?_
    obtain ⟨r13, e14, hF⟩ := c1_some hF
    refine q_callSI (as := [.int l2, .int (1 : Int32), .int (9 : Int32)]) (rest := []) Cx (kX6_in e14) okX6_in osX6_in rfl wd_780 ⟨rfl, rfl, by decide, by decide⟩ hW rfl hl.1 (Nat.le_of_ble_eq_true rfl) rfl dX6_set_23 (fun H locs hW => ?_)
    refine q_if_eq (tgt := 33) Cx dX6_set_26 (by decide) (fun c15 => ?_) (fun c15 => ?_)
    · have hF := (if_pos c15).symm.trans hF
      exact wX6_set_33 Cx hret hW (lv_sub hl [0, 1, 2] rfl) hF
    · have hF := (if_neg c15).symm.trans hF
      exact wX6_set_29 Cx hret hW (lv_sub hl [0, 1, 2] rfl) hF
def FX6_set (B : Blk) (l1 : Int32) (l2 : Int32) : Option (Int32 × Blk) :=
  if l1 = 0 then
    c1 (FX6_in l2 (0 : Int32) (100 : Int32)) fun r16 =>
    if r16 = 0 then
      FX6_set_14 l1 l2 B
    else
      FX6_set_29 l1 l2 B
  else
    FX6_set_14 l1 l2 B
set_option maxRecDepth 100000 in
set_option maxHeartbeats 4000000 in
theorem wX6_set {E : WE} {V : VT} {A : Nat → Prop} {H0 : Heap} {M : Mem} (Cx : CX E RX6 cX6_set 5 1 22) {r : Int32} {B' : Blk} (hret : RetI E V A H0 cX6_set .int r (jb M 12 B')) {H : Heap} {locs : List Loc} {ls : Array Slot} {l1 : Int32} {l2 : Int32} {B : Blk} (hW : Wd V A H0 (jb M 12 B) (eS E) H locs) (hl : lv_has ls 5 [(0, .ref (vA V 12 0)), (1, .int l1), (2, .int l2)]) (hF : FX6_set B l1 l2 = some (r, B')) : Wq E H locs 0 ls [] := by
  unfold FX6_set at hF
  refine q_iload_n Cx dX6_set_0 rfl (lv_at hl 1 rfl) ?_
  refine q_if_ne (tgt := 14) Cx dX6_set_1 (by decide) (fun c1 => ?_) (fun c1 => ?_)
  · have hF := (if_neg c1).symm.trans hF
    exact wX6_set_14 Cx hret hW (lv_sub hl [0, 1, 2] rfl) hF
  · have hF := (if_pos c1).symm.trans hF
    refine q_iload_n Cx dX6_set_4 rfl (lv_at hl 2 rfl) ?_
    refine q_iconst (v := (0 : Int32)) Cx dX6_set_5 (by decide) ?_
    refine q_bipush (v := (100 : Int32)) Cx dX6_set_6 (by decide) ?_
    obtain ⟨r16, e17, hF⟩ := c1_some hF
    refine q_callSI (as := [.int l2, .int (0 : Int32), .int (100 : Int32)]) (rest := []) Cx (kX6_in e17) okX6_in osX6_in rfl wd_780 ⟨rfl, rfl, by decide, by decide⟩ hW rfl hl.1 (Nat.le_of_ble_eq_true rfl) rfl dX6_set_8 (fun H locs hW => ?_)
    refine q_if_ne (tgt := 29) Cx dX6_set_11 (by decide) (fun c18 => ?_) (fun c18 => ?_)
    · have hF := (if_neg c18).symm.trans hF
      exact wX6_set_29 Cx hret hW (lv_sub hl [0, 1, 2] rfl) hF
    · have hF := (if_pos c18).symm.trans hF
      exact wX6_set_14 Cx hret hW (lv_sub hl [0, 1, 2] rfl) hF
set_option maxRecDepth 100000 in
theorem kX6_set {l : Launch} {V : VT} {M : Mem} {B : Blk} {l1 : Int32} {l2 : Int32} {r : Int32} {B' : Blk} (hF : FX6_set B l1 l2 = some (r, B')) : MetI l V yX6_set cX6_set 5 .int ({ frames := 1, cells := 0, slots := 0, locals := 22 } : Room) [.ref (vA V 12 0), .int l1, .int l2] r (jb M 12 B) (jb M 12 B') := metI_of (by decide) (Nat.le_of_ble_eq_true rfl) (fun E H0 _ Cx hret H locs ls hW hl => wX6_set Cx hret hW hl hF)
theorem dX6_task_0 : decode cX6_task 0 = .ok (.iload_n 1, 1) := by decide +kernel
theorem dX6_task_1 : decode cX6_task 1 = .ok (.iconst 0, 1) := by decide +kernel
theorem dX6_task_2 : decode cX6_task 2 = .ok (.iconst 3, 1) := by decide +kernel
theorem dX6_task_3 : decode cX6_task 3 = .ok (.invokestatic 56, 3) := by decide +kernel
theorem dX6_task_6 : decode cX6_task 6 = .ok (.ifCond .eq 19, 3) := by decide +kernel
theorem dX6_task_9 : decode cX6_task 9 = .ok (.iload 5, 2) := by decide +kernel
theorem dX6_task_11 : decode cX6_task 11 = .ok (.bipush (-6), 2) := by decide +kernel
theorem dX6_task_13 : decode cX6_task 13 = .ok (.if_icmp .eq 14, 3) := by decide +kernel
theorem dX6_task_16 : decode cX6_task 16 = .ok (.aload_n 0, 1) := by decide +kernel
theorem dX6_task_17 : decode cX6_task 17 = .ok (.iload 5, 2) := by decide +kernel
theorem dX6_task_19 : decode cX6_task 19 = .ok (.invokevirtual 89, 3) := by decide +kernel
theorem dX6_task_22 : decode cX6_task 22 = .ok (.ifCond .ne 5, 3) := by decide +kernel
theorem dX6_task_25 : decode cX6_task 25 = .ok (.iconst (-1), 1) := by decide +kernel
theorem dX6_task_26 : decode cX6_task 26 = .ok (.ireturn, 1) := by decide +kernel
theorem dX6_task_27 : decode cX6_task 27 = .ok (.iload_n 2, 1) := by decide +kernel
theorem dX6_task_28 : decode cX6_task 28 = .ok (.iconst 1, 1) := by decide +kernel
theorem dX6_task_29 : decode cX6_task 29 = .ok (.bipush 100, 2) := by decide +kernel
theorem dX6_task_31 : decode cX6_task 31 = .ok (.invokestatic 56, 3) := by decide +kernel
theorem dX6_task_34 : decode cX6_task 34 = .ok (.ifCond .eq 25, 3) := by decide +kernel
theorem dX6_task_37 : decode cX6_task 37 = .ok (.iload_n 3, 1) := by decide +kernel
theorem dX6_task_38 : decode cX6_task 38 = .ok (.iconst 0, 1) := by decide +kernel
theorem dX6_task_39 : decode cX6_task 39 = .ok (.sipush 3000, 3) := by decide +kernel
theorem dX6_task_42 : decode cX6_task 42 = .ok (.invokestatic 56, 3) := by decide +kernel
theorem dX6_task_45 : decode cX6_task 45 = .ok (.ifCond .eq 14, 3) := by decide +kernel
theorem dX6_task_48 : decode cX6_task 48 = .ok (.iload 4, 2) := by decide +kernel
theorem dX6_task_50 : decode cX6_task 50 = .ok (.iconst 0, 1) := by decide +kernel
theorem dX6_task_51 : decode cX6_task 51 = .ok (.ldc 93, 2) := by decide +kernel
theorem dX6_task_53 : decode cX6_task 53 = .ok (.invokestatic 56, 3) := by decide +kernel
theorem dX6_task_56 : decode cX6_task 56 = .ok (.ifCond .ne 6, 3) := by decide +kernel
theorem dX6_task_59 : decode cX6_task 59 = .ok (.bipush (-2), 2) := by decide +kernel
theorem dX6_task_61 : decode cX6_task 61 = .ok (.ireturn, 1) := by decide +kernel
theorem dX6_task_62 : decode cX6_task 62 = .ok (.aload_n 0, 1) := by decide +kernel
theorem dX6_task_63 : decode cX6_task 63 = .ok (.getfield 7, 3) := by decide +kernel
theorem dX6_task_66 : decode cX6_task 66 = .ok (.iconst 0, 1) := by decide +kernel
theorem dX6_task_67 : decode cX6_task 67 = .ok (.iaload, 1) := by decide +kernel
theorem dX6_task_68 : decode cX6_task 68 = .ok (.bipush 24, 2) := by decide +kernel
theorem dX6_task_70 : decode cX6_task 70 = .ok (.if_icmp .ne 6, 3) := by decide +kernel
theorem dX6_task_73 : decode cX6_task 73 = .ok (.bipush (-4), 2) := by decide +kernel
theorem dX6_task_75 : decode cX6_task 75 = .ok (.ireturn, 1) := by decide +kernel
theorem dX6_task_76 : decode cX6_task 76 = .ok (.aload_n 0, 1) := by decide +kernel
theorem dX6_task_77 : decode cX6_task 77 = .ok (.invokevirtual 60, 3) := by decide +kernel
theorem dX6_task_80 : decode cX6_task 80 = .ok (.aload_n 0, 1) := by decide +kernel
theorem dX6_task_81 : decode cX6_task 81 = .ok (.getfield 7, 3) := by decide +kernel
theorem dX6_task_84 : decode cX6_task 84 = .ok (.iconst 0, 1) := by decide +kernel
theorem dX6_task_85 : decode cX6_task 85 = .ok (.iaload, 1) := by decide +kernel
theorem dX6_task_86 : decode cX6_task 86 = .ok (.istore 6, 2) := by decide +kernel
theorem dX6_task_88 : decode cX6_task 88 = .ok (.aload_n 0, 1) := by decide +kernel
theorem dX6_task_89 : decode cX6_task 89 = .ok (.iload_n 1, 1) := by decide +kernel
theorem dX6_task_90 : decode cX6_task 90 = .ok (.invokevirtual 94, 3) := by decide +kernel
theorem dX6_task_93 : decode cX6_task 93 = .ok (.istore 7, 2) := by decide +kernel
theorem dX6_task_95 : decode cX6_task 95 = .ok (.aload_n 0, 1) := by decide +kernel
theorem dX6_task_96 : decode cX6_task 96 = .ok (.getfield 7, 3) := by decide +kernel
theorem dX6_task_99 : decode cX6_task 99 = .ok (.iconst 0, 1) := by decide +kernel
theorem dX6_task_100 : decode cX6_task 100 = .ok (.dup2, 1) := by decide +kernel
theorem dX6_task_101 : decode cX6_task 101 = .ok (.iaload, 1) := by decide +kernel
theorem dX6_task_102 : decode cX6_task 102 = .ok (.iconst 1, 1) := by decide +kernel
theorem dX6_task_103 : decode cX6_task 103 = .ok (.iadd, 1) := by decide +kernel
theorem dX6_task_104 : decode cX6_task 104 = .ok (.iastore, 1) := by decide +kernel
theorem dX6_task_105 : decode cX6_task 105 = .ok (.aload_n 0, 1) := by decide +kernel
theorem dX6_task_106 : decode cX6_task 106 = .ok (.getfield 7, 3) := by decide +kernel
theorem dX6_task_109 : decode cX6_task 109 = .ok (.iconst 4, 1) := by decide +kernel
theorem dX6_task_110 : decode cX6_task 110 = .ok (.iload 6, 2) := by decide +kernel
theorem dX6_task_112 : decode cX6_task 112 = .ok (.iadd, 1) := by decide +kernel
theorem dX6_task_113 : decode cX6_task 113 = .ok (.iload_n 1, 1) := by decide +kernel
theorem dX6_task_114 : decode cX6_task 114 = .ok (.iastore, 1) := by decide +kernel
theorem dX6_task_115 : decode cX6_task 115 = .ok (.aload_n 0, 1) := by decide +kernel
theorem dX6_task_116 : decode cX6_task 116 = .ok (.getfield 7, 3) := by decide +kernel
theorem dX6_task_119 : decode cX6_task 119 = .ok (.bipush 28, 2) := by decide +kernel
theorem dX6_task_121 : decode cX6_task 121 = .ok (.iload 6, 2) := by decide +kernel
theorem dX6_task_123 : decode cX6_task 123 = .ok (.iadd, 1) := by decide +kernel
theorem dX6_task_124 : decode cX6_task 124 = .ok (.iload_n 2, 1) := by decide +kernel
theorem dX6_task_125 : decode cX6_task 125 = .ok (.iastore, 1) := by decide +kernel
theorem dX6_task_126 : decode cX6_task 126 = .ok (.aload_n 0, 1) := by decide +kernel
theorem dX6_task_127 : decode cX6_task 127 = .ok (.getfield 7, 3) := by decide +kernel
theorem dX6_task_130 : decode cX6_task 130 = .ok (.bipush 52, 2) := by decide +kernel
theorem dX6_task_132 : decode cX6_task 132 = .ok (.iload 6, 2) := by decide +kernel
theorem dX6_task_134 : decode cX6_task 134 = .ok (.iadd, 1) := by decide +kernel
theorem dX6_task_135 : decode cX6_task 135 = .ok (.iload_n 3, 1) := by decide +kernel
theorem dX6_task_136 : decode cX6_task 136 = .ok (.iastore, 1) := by decide +kernel
theorem dX6_task_137 : decode cX6_task 137 = .ok (.aload_n 0, 1) := by decide +kernel
theorem dX6_task_138 : decode cX6_task 138 = .ok (.getfield 7, 3) := by decide +kernel
theorem dX6_task_141 : decode cX6_task 141 = .ok (.bipush 76, 2) := by decide +kernel
theorem dX6_task_143 : decode cX6_task 143 = .ok (.iload 6, 2) := by decide +kernel
theorem dX6_task_145 : decode cX6_task 145 = .ok (.iadd, 1) := by decide +kernel
theorem dX6_task_146 : decode cX6_task 146 = .ok (.iload 4, 2) := by decide +kernel
theorem dX6_task_148 : decode cX6_task 148 = .ok (.iastore, 1) := by decide +kernel
theorem dX6_task_149 : decode cX6_task 149 = .ok (.aload_n 0, 1) := by decide +kernel
theorem dX6_task_150 : decode cX6_task 150 = .ok (.getfield 7, 3) := by decide +kernel
theorem dX6_task_153 : decode cX6_task 153 = .ok (.bipush 100, 2) := by decide +kernel
theorem dX6_task_155 : decode cX6_task 155 = .ok (.iload 6, 2) := by decide +kernel
theorem dX6_task_157 : decode cX6_task 157 = .ok (.iadd, 1) := by decide +kernel
theorem dX6_task_158 : decode cX6_task 158 = .ok (.iload 5, 2) := by decide +kernel
theorem dX6_task_160 : decode cX6_task 160 = .ok (.iastore, 1) := by decide +kernel
theorem dX6_task_161 : decode cX6_task 161 = .ok (.aload_n 0, 1) := by decide +kernel
theorem dX6_task_162 : decode cX6_task 162 = .ok (.getfield 7, 3) := by decide +kernel
theorem dX6_task_165 : decode cX6_task 165 = .ok (.bipush 124, 2) := by decide +kernel
theorem dX6_task_167 : decode cX6_task 167 = .ok (.iload 6, 2) := by decide +kernel
theorem dX6_task_169 : decode cX6_task 169 = .ok (.iadd, 1) := by decide +kernel
theorem dX6_task_170 : decode cX6_task 170 = .ok (.iconst 0, 1) := by decide +kernel
theorem dX6_task_171 : decode cX6_task 171 = .ok (.iastore, 1) := by decide +kernel
theorem dX6_task_172 : decode cX6_task 172 = .ok (.aload_n 0, 1) := by decide +kernel
theorem dX6_task_173 : decode cX6_task 173 = .ok (.getfield 7, 3) := by decide +kernel
theorem dX6_task_176 : decode cX6_task 176 = .ok (.sipush 148, 3) := by decide +kernel
theorem dX6_task_179 : decode cX6_task 179 = .ok (.iload 6, 2) := by decide +kernel
theorem dX6_task_181 : decode cX6_task 181 = .ok (.iadd, 1) := by decide +kernel
theorem dX6_task_182 : decode cX6_task 182 = .ok (.iconst 0, 1) := by decide +kernel
theorem dX6_task_183 : decode cX6_task 183 = .ok (.iastore, 1) := by decide +kernel
theorem dX6_task_184 : decode cX6_task 184 = .ok (.aload_n 0, 1) := by decide +kernel
theorem dX6_task_185 : decode cX6_task 185 = .ok (.getfield 7, 3) := by decide +kernel
theorem dX6_task_188 : decode cX6_task 188 = .ok (.sipush 172, 3) := by decide +kernel
theorem dX6_task_191 : decode cX6_task 191 = .ok (.iload 6, 2) := by decide +kernel
theorem dX6_task_193 : decode cX6_task 193 = .ok (.iadd, 1) := by decide +kernel
theorem dX6_task_194 : decode cX6_task 194 = .ok (.iload 7, 2) := by decide +kernel
theorem dX6_task_196 : decode cX6_task 196 = .ok (.iastore, 1) := by decide +kernel
theorem dX6_task_197 : decode cX6_task 197 = .ok (.iload 6, 2) := by decide +kernel
theorem dX6_task_199 : decode cX6_task 199 = .ok (.ireturn, 1) := by decide +kernel
theorem okX6_task : CalOK yX6_task cX6_task 8 (some .int) 5 := ⟨wd_73, wd_798, by decide +kernel⟩
theorem ovX6_task : VirOK yX6_task := ⟨wd_796, wd_797⟩
def FX6_task_27 (l1 : Int32) (l2 : Int32) (l3 : Int32) (l4 : Int32) (l5 : Int32) (B : Blk) : Option (Int32 × Blk) :=
  c1 (FX6_in l2 (1 : Int32) (100 : Int32)) fun r5 =>
  if r5 = 0 then
    some ((-2 : Int32), B)
  else
    c1 (FX6_in l3 (0 : Int32) (3000 : Int32)) fun r8 =>
    if r8 = 0 then
      some ((-2 : Int32), B)
    else
      c1 (FX6_in l4 (0 : Int32) (100000 : Int32)) fun r11 =>
      if r11 = 0 then
        some ((-2 : Int32), B)
      else
        ld (B 1) 356 (0 : Int32) fun v14 =>
        if v14 = (24 : Int32) then
          some ((-4 : Int32), B)
        else
          c1 (FX6_record B) fun B20 =>
          ld (B20 1) 356 (0 : Int32) fun v21 =>
          c1 (FX6_manyOn B20 l1) fun r24 =>
          ld (B20 1) 356 (0 : Int32) fun v26 =>
          stb B20 1 356 (0 : Int32) (v26 + (1 : Int32)) fun B29 =>
          stb B29 1 356 ((4 : Int32) + v21) l1 fun B32 =>
          stb B32 1 356 ((28 : Int32) + v21) l2 fun B35 =>
          stb B35 1 356 ((52 : Int32) + v21) l3 fun B38 =>
          stb B38 1 356 ((76 : Int32) + v21) l4 fun B41 =>
          stb B41 1 356 ((100 : Int32) + v21) l5 fun B44 =>
          stb B44 1 356 ((124 : Int32) + v21) (0 : Int32) fun B47 =>
          stb B47 1 356 ((148 : Int32) + v21) (0 : Int32) fun B50 =>
          stb B50 1 356 ((172 : Int32) + v21) r24 fun B53 =>
          some (v21, B53)
set_option maxRecDepth 100000 in
set_option maxHeartbeats 4000000 in
theorem wX6_task_27 {E : WE} {V : VT} {A : Nat → Prop} {H0 : Heap} {M : Mem} (Cx : CX E RX6 cX6_task 8 1 23) {r : Int32} {B' : Blk} (hret : RetI E V A H0 cX6_task .int r (jb M 12 B')) {H : Heap} {locs : List Loc} {ls : Array Slot} {l1 : Int32} {l2 : Int32} {l3 : Int32} {l4 : Int32} {l5 : Int32} {B : Blk} (hW : Wd V A H0 (jb M 12 B) (eS E) H locs) (hl : lv_has ls 8 [(0, .ref (vA V 12 0)), (1, .int l1), (2, .int l2), (3, .int l3), (4, .int l4), (5, .int l5)]) (hF : FX6_task_27 l1 l2 l3 l4 l5 B = some (r, B')) : Wq E H locs 27 ls [] := by
  unfold FX6_task_27 at hF
  refine q_iload_n Cx dX6_task_27 rfl (lv_at hl 2 rfl) ?_
  refine q_iconst (v := (1 : Int32)) Cx dX6_task_28 (by decide) ?_
  refine q_bipush (v := (100 : Int32)) Cx dX6_task_29 (by decide) ?_
  obtain ⟨r5, e6, hF⟩ := c1_some hF
  refine q_callSI (as := [.int l2, .int (1 : Int32), .int (100 : Int32)]) (rest := []) Cx (kX6_in e6) okX6_in osX6_in rfl wd_780 ⟨rfl, rfl, by decide, by decide⟩ hW rfl hl.1 (Nat.le_of_ble_eq_true rfl) rfl dX6_task_31 (fun H locs hW => ?_)
  refine q_if_eq (tgt := 59) Cx dX6_task_34 (by decide) (fun c7 => ?_) (fun c7 => ?_)
  · have hF := (if_pos c7).symm.trans hF
    refine q_bipush (v := (-2 : Int32)) Cx dX6_task_59 (by decide) ?_
    obtain ⟨rfl, rfl⟩ := Prod.mk.inj (Option.some.inj hF)
    exact hret _ _ _ _ dX6_task_61 (nI32 _) hW
  · have hF := (if_neg c7).symm.trans hF
    refine q_iload_n Cx dX6_task_37 rfl (lv_at hl 3 rfl) ?_
    refine q_iconst (v := (0 : Int32)) Cx dX6_task_38 (by decide) ?_
    refine q_sipush (v := (3000 : Int32)) Cx dX6_task_39 (by decide) ?_
    obtain ⟨r8, e9, hF⟩ := c1_some hF
    refine q_callSI (as := [.int l3, .int (0 : Int32), .int (3000 : Int32)]) (rest := []) Cx (kX6_in e9) okX6_in osX6_in rfl wd_780 ⟨rfl, rfl, by decide, by decide⟩ hW rfl hl.1 (Nat.le_of_ble_eq_true rfl) rfl dX6_task_42 (fun H locs hW => ?_)
    refine q_if_eq (tgt := 59) Cx dX6_task_45 (by decide) (fun c10 => ?_) (fun c10 => ?_)
    · have hF := (if_pos c10).symm.trans hF
      refine q_bipush (v := (-2 : Int32)) Cx dX6_task_59 (by decide) ?_
      obtain ⟨rfl, rfl⟩ := Prod.mk.inj (Option.some.inj hF)
      exact hret _ _ _ _ dX6_task_61 (nI32 _) hW
    · have hF := (if_neg c10).symm.trans hF
      refine q_iload Cx dX6_task_48 (lv_at hl 4 rfl) ?_
      refine q_iconst (v := (0 : Int32)) Cx dX6_task_50 (by decide) ?_
      refine q_ldc (v := (100000 : Int32)) Cx dX6_task_51 wd_803 ?_
      obtain ⟨r11, e12, hF⟩ := c1_some hF
      refine q_callSI (as := [.int l4, .int (0 : Int32), .int (100000 : Int32)]) (rest := []) Cx (kX6_in e12) okX6_in osX6_in rfl wd_780 ⟨rfl, rfl, by decide, by decide⟩ hW rfl hl.1 (Nat.le_of_ble_eq_true rfl) rfl dX6_task_53 (fun H locs hW => ?_)
      refine q_if_ne (tgt := 62) Cx dX6_task_56 (by decide) (fun c13 => ?_) (fun c13 => ?_)
      · have hF := (if_neg c13).symm.trans hF
        refine q_aload_n Cx dX6_task_62 rfl (lv_at hl 0 rfl) ?_
        refine q_get (v := .ref (vA V 12 1)) Cx hW oZ ic6 0 (by decide) rfl wd_714 dX6_task_63 ?_
        refine q_iconst (v := (0 : Int32)) Cx dX6_task_66 (by decide) ?_
        obtain ⟨h15, v14, e16, hF⟩ := ld_some hF
        refine qb_iald Cx hW az_1 h15 e16 dX6_task_67 ?_
        refine q_bipush (v := (24 : Int32)) Cx dX6_task_68 (by decide) ?_
        refine q_icmp_ne (tgt := 76) Cx dX6_task_70 (by decide) (fun c17 => ?_) (fun c17 => ?_)
        · have hF := (if_neg c17).symm.trans hF
          refine q_aload_n Cx dX6_task_76 rfl (lv_at hl 0 rfl) ?_
          obtain ⟨B20, e19, hF⟩ := c1_some hF
          refine q_callV (as := []) (rest := []) Cx (kX6_record e19) okX6_record ovX6_record wd_787 ⟨rfl, rfl, by decide, by decide⟩ hW oZ ic6 rfl hl.1 (Nat.le_of_ble_eq_true rfl) rfl dX6_task_77 (fun H locs hW => ?_)
          refine q_aload_n Cx dX6_task_80 rfl (lv_at hl 0 rfl) ?_
          refine q_get (v := .ref (vA V 12 1)) Cx hW oZ ic6 0 (by decide) rfl wd_714 dX6_task_81 ?_
          refine q_iconst (v := (0 : Int32)) Cx dX6_task_84 (by decide) ?_
          obtain ⟨h22, v21, e23, hF⟩ := ld_some hF
          refine qb_iald Cx hW az_1 h22 e23 dX6_task_85 ?_
          refine q_istore (lv' := [(6, .int v21), (0, .ref (vA V 12 0)), (1, .int l1), (2, .int l2), (3, .int l3), (4, .int l4), (5, .int l5)]) Cx dX6_task_86 hl (by decide) rfl (fun ls hl => ?_)
          refine q_aload_n Cx dX6_task_88 rfl (lv_at hl 1 rfl) ?_
          refine q_iload_n Cx dX6_task_89 rfl (lv_at hl 2 rfl) ?_
          obtain ⟨r24, e25, hF⟩ := c1_some hF
          refine q_callI (as := [.int l1]) (rest := []) Cx (kX6_manyOn e25) okX6_manyOn ovX6_manyOn wd_804 ⟨rfl, rfl, by decide, by decide⟩ hW oZ ic6 rfl hl.1 (Nat.le_of_ble_eq_true rfl) rfl dX6_task_90 (fun H locs hW => ?_)
          refine q_istore (lv' := [(7, .int r24), (6, .int v21), (0, .ref (vA V 12 0)), (1, .int l1), (2, .int l2), (3, .int l3), (4, .int l4), (5, .int l5)]) Cx dX6_task_93 hl (by decide) rfl (fun ls hl => ?_)
          refine q_aload_n Cx dX6_task_95 rfl (lv_at hl 2 rfl) ?_
          refine q_get (v := .ref (vA V 12 1)) Cx hW oZ ic6 0 (by decide) rfl wd_714 dX6_task_96 ?_
          refine q_iconst (v := (0 : Int32)) Cx dX6_task_99 (by decide) ?_
          refine q_dup2 Cx dX6_task_100 rfl rfl ?_
          obtain ⟨h27, v26, e28, hF⟩ := ld_some hF
          refine qb_iald Cx hW az_1 h27 e28 dX6_task_101 ?_
          refine q_iconst (v := (1 : Int32)) Cx dX6_task_102 (by decide) ?_
          refine q_iadd Cx dX6_task_103 ?_
          obtain ⟨h30, B29, e31, hF⟩ := stb_some hF
          refine qb_iast Cx hW az_1 h30 e31 dX6_task_104 (fun H locs hW => ?_)
          refine q_aload_n Cx dX6_task_105 rfl (lv_at hl 2 rfl) ?_
          refine q_get (v := .ref (vA V 12 1)) Cx hW oZ ic6 0 (by decide) rfl wd_714 dX6_task_106 ?_
          refine q_iconst (v := (4 : Int32)) Cx dX6_task_109 (by decide) ?_
          refine q_iload Cx dX6_task_110 (lv_at hl 1 rfl) ?_
          refine q_iadd Cx dX6_task_112 ?_
          refine q_iload_n Cx dX6_task_113 rfl (lv_at hl 3 rfl) ?_
          obtain ⟨h33, B32, e34, hF⟩ := stb_some hF
          refine qb_iast Cx hW az_1 h33 e34 dX6_task_114 (fun H locs hW => ?_)
          refine q_aload_n Cx dX6_task_115 rfl (lv_at hl 2 rfl) ?_
          refine q_get (v := .ref (vA V 12 1)) Cx hW oZ ic6 0 (by decide) rfl wd_714 dX6_task_116 ?_
          refine q_bipush (v := (28 : Int32)) Cx dX6_task_119 (by decide) ?_
          refine q_iload Cx dX6_task_121 (lv_at hl 1 rfl) ?_
          refine q_iadd Cx dX6_task_123 ?_
          refine q_iload_n Cx dX6_task_124 rfl (lv_at hl 4 rfl) ?_
          obtain ⟨h36, B35, e37, hF⟩ := stb_some hF
          refine qb_iast Cx hW az_1 h36 e37 dX6_task_125 (fun H locs hW => ?_)
          refine q_aload_n Cx dX6_task_126 rfl (lv_at hl 2 rfl) ?_
          refine q_get (v := .ref (vA V 12 1)) Cx hW oZ ic6 0 (by decide) rfl wd_714 dX6_task_127 ?_
          refine q_bipush (v := (52 : Int32)) Cx dX6_task_130 (by decide) ?_
          refine q_iload Cx dX6_task_132 (lv_at hl 1 rfl) ?_
          refine q_iadd Cx dX6_task_134 ?_
          refine q_iload_n Cx dX6_task_135 rfl (lv_at hl 5 rfl) ?_
          obtain ⟨h39, B38, e40, hF⟩ := stb_some hF
          refine qb_iast Cx hW az_1 h39 e40 dX6_task_136 (fun H locs hW => ?_)
          refine q_aload_n Cx dX6_task_137 rfl (lv_at hl 2 rfl) ?_
          refine q_get (v := .ref (vA V 12 1)) Cx hW oZ ic6 0 (by decide) rfl wd_714 dX6_task_138 ?_
          refine q_bipush (v := (76 : Int32)) Cx dX6_task_141 (by decide) ?_
          refine q_iload Cx dX6_task_143 (lv_at hl 1 rfl) ?_
          refine q_iadd Cx dX6_task_145 ?_
          refine q_iload Cx dX6_task_146 (lv_at hl 6 rfl) ?_
          obtain ⟨h42, B41, e43, hF⟩ := stb_some hF
          refine qb_iast Cx hW az_1 h42 e43 dX6_task_148 (fun H locs hW => ?_)
          refine q_aload_n Cx dX6_task_149 rfl (lv_at hl 2 rfl) ?_
          refine q_get (v := .ref (vA V 12 1)) Cx hW oZ ic6 0 (by decide) rfl wd_714 dX6_task_150 ?_
          refine q_bipush (v := (100 : Int32)) Cx dX6_task_153 (by decide) ?_
          refine q_iload Cx dX6_task_155 (lv_at hl 1 rfl) ?_
          refine q_iadd Cx dX6_task_157 ?_
          refine q_iload Cx dX6_task_158 (lv_at hl 7 rfl) ?_
          obtain ⟨h45, B44, e46, hF⟩ := stb_some hF
          refine qb_iast Cx hW az_1 h45 e46 dX6_task_160 (fun H locs hW => ?_)
          refine q_aload_n Cx dX6_task_161 rfl (lv_at hl 2 rfl) ?_
          refine q_get (v := .ref (vA V 12 1)) Cx hW oZ ic6 0 (by decide) rfl wd_714 dX6_task_162 ?_
          refine q_bipush (v := (124 : Int32)) Cx dX6_task_165 (by decide) ?_
          refine q_iload Cx dX6_task_167 (lv_at hl 1 rfl) ?_
          refine q_iadd Cx dX6_task_169 ?_
          refine q_iconst (v := (0 : Int32)) Cx dX6_task_170 (by decide) ?_
          obtain ⟨h48, B47, e49, hF⟩ := stb_some hF
          refine qb_iast Cx hW az_1 h48 e49 dX6_task_171 (fun H locs hW => ?_)
          refine q_aload_n Cx dX6_task_172 rfl (lv_at hl 2 rfl) ?_
          refine q_get (v := .ref (vA V 12 1)) Cx hW oZ ic6 0 (by decide) rfl wd_714 dX6_task_173 ?_
          refine q_sipush (v := (148 : Int32)) Cx dX6_task_176 (by decide) ?_
          refine q_iload Cx dX6_task_179 (lv_at hl 1 rfl) ?_
          refine q_iadd Cx dX6_task_181 ?_
          refine q_iconst (v := (0 : Int32)) Cx dX6_task_182 (by decide) ?_
          obtain ⟨h51, B50, e52, hF⟩ := stb_some hF
          refine qb_iast Cx hW az_1 h51 e52 dX6_task_183 (fun H locs hW => ?_)
          refine q_aload_n Cx dX6_task_184 rfl (lv_at hl 2 rfl) ?_
          refine q_get (v := .ref (vA V 12 1)) Cx hW oZ ic6 0 (by decide) rfl wd_714 dX6_task_185 ?_
          refine q_sipush (v := (172 : Int32)) Cx dX6_task_188 (by decide) ?_
          refine q_iload Cx dX6_task_191 (lv_at hl 1 rfl) ?_
          refine q_iadd Cx dX6_task_193 ?_
          refine q_iload Cx dX6_task_194 (lv_at hl 0 rfl) ?_
          obtain ⟨h54, B53, e55, hF⟩ := stb_some hF
          refine qb_iast Cx hW az_1 h54 e55 dX6_task_196 (fun H locs hW => ?_)
          refine q_iload Cx dX6_task_197 (lv_at hl 1 rfl) ?_
          obtain ⟨rfl, rfl⟩ := Prod.mk.inj (Option.some.inj hF)
          exact hret _ _ _ _ dX6_task_199 (nI32 _) hW
        · have hF := (if_pos c17).symm.trans hF
          refine q_bipush (v := (-4 : Int32)) Cx dX6_task_73 (by decide) ?_
          obtain ⟨rfl, rfl⟩ := Prod.mk.inj (Option.some.inj hF)
          exact hret _ _ _ _ dX6_task_75 (nI32 _) hW
      · have hF := (if_pos c13).symm.trans hF
        refine q_bipush (v := (-2 : Int32)) Cx dX6_task_59 (by decide) ?_
        obtain ⟨rfl, rfl⟩ := Prod.mk.inj (Option.some.inj hF)
        exact hret _ _ _ _ dX6_task_61 (nI32 _) hW
def FX6_task (B : Blk) (l1 : Int32) (l2 : Int32) (l3 : Int32) (l4 : Int32) (l5 : Int32) : Option (Int32 × Blk) :=
  c1 (FX6_in l1 (0 : Int32) (3 : Int32)) fun r1 =>
  if r1 = 0 then
    some ((-1 : Int32), B)
  else
    if l5 = (-6 : Int32) then
      FX6_task_27 l1 l2 l3 l4 l5 B
    else
      c1 (FX6_isTask B l5) fun r56 =>
      if r56 = 0 then
        some ((-1 : Int32), B)
      else
        FX6_task_27 l1 l2 l3 l4 l5 B
set_option maxRecDepth 100000 in
set_option maxHeartbeats 4000000 in
theorem wX6_task {E : WE} {V : VT} {A : Nat → Prop} {H0 : Heap} {M : Mem} (Cx : CX E RX6 cX6_task 8 1 23) {r : Int32} {B' : Blk} (hret : RetI E V A H0 cX6_task .int r (jb M 12 B')) {H : Heap} {locs : List Loc} {ls : Array Slot} {l1 : Int32} {l2 : Int32} {l3 : Int32} {l4 : Int32} {l5 : Int32} {B : Blk} (hW : Wd V A H0 (jb M 12 B) (eS E) H locs) (hl : lv_has ls 8 [(0, .ref (vA V 12 0)), (1, .int l1), (2, .int l2), (3, .int l3), (4, .int l4), (5, .int l5)]) (hF : FX6_task B l1 l2 l3 l4 l5 = some (r, B')) : Wq E H locs 0 ls [] := by
  unfold FX6_task at hF
  refine q_iload_n Cx dX6_task_0 rfl (lv_at hl 1 rfl) ?_
  refine q_iconst (v := (0 : Int32)) Cx dX6_task_1 (by decide) ?_
  refine q_iconst (v := (3 : Int32)) Cx dX6_task_2 (by decide) ?_
  obtain ⟨r1, e2, hF⟩ := c1_some hF
  refine q_callSI (as := [.int l1, .int (0 : Int32), .int (3 : Int32)]) (rest := []) Cx (kX6_in e2) okX6_in osX6_in rfl wd_780 ⟨rfl, rfl, by decide, by decide⟩ hW rfl hl.1 (Nat.le_of_ble_eq_true rfl) rfl dX6_task_3 (fun H locs hW => ?_)
  refine q_if_eq (tgt := 25) Cx dX6_task_6 (by decide) (fun c3 => ?_) (fun c3 => ?_)
  · have hF := (if_pos c3).symm.trans hF
    refine q_iconst (v := (-1 : Int32)) Cx dX6_task_25 (by decide) ?_
    obtain ⟨rfl, rfl⟩ := Prod.mk.inj (Option.some.inj hF)
    exact hret _ _ _ _ dX6_task_26 (nI32 _) hW
  · have hF := (if_neg c3).symm.trans hF
    refine q_iload Cx dX6_task_9 (lv_at hl 5 rfl) ?_
    refine q_bipush (v := (-6 : Int32)) Cx dX6_task_11 (by decide) ?_
    refine q_icmp_eq (tgt := 27) Cx dX6_task_13 (by decide) (fun c4 => ?_) (fun c4 => ?_)
    · have hF := (if_pos c4).symm.trans hF
      exact wX6_task_27 Cx hret hW (lv_sub hl [0, 1, 2, 3, 4, 5] rfl) hF
    · have hF := (if_neg c4).symm.trans hF
      refine q_aload_n Cx dX6_task_16 rfl (lv_at hl 0 rfl) ?_
      refine q_iload Cx dX6_task_17 (lv_at hl 5 rfl) ?_
      obtain ⟨r56, e57, hF⟩ := c1_some hF
      refine q_callI (as := [.int l5]) (rest := []) Cx (kX6_isTask e57) okX6_isTask ovX6_isTask wd_799 ⟨rfl, rfl, by decide, by decide⟩ hW oZ ic6 rfl hl.1 (Nat.le_of_ble_eq_true rfl) rfl dX6_task_19 (fun H locs hW => ?_)
      refine q_if_ne (tgt := 27) Cx dX6_task_22 (by decide) (fun c58 => ?_) (fun c58 => ?_)
      · have hF := (if_neg c58).symm.trans hF
        exact wX6_task_27 Cx hret hW (lv_sub hl [0, 1, 2, 3, 4, 5] rfl) hF
      · have hF := (if_pos c58).symm.trans hF
        refine q_iconst (v := (-1 : Int32)) Cx dX6_task_25 (by decide) ?_
        obtain ⟨rfl, rfl⟩ := Prod.mk.inj (Option.some.inj hF)
        exact hret _ _ _ _ dX6_task_26 (nI32 _) hW
set_option maxRecDepth 100000 in
theorem kX6_task {l : Launch} {V : VT} {M : Mem} {B : Blk} {l1 : Int32} {l2 : Int32} {l3 : Int32} {l4 : Int32} {l5 : Int32} {r : Int32} {B' : Blk} (hF : FX6_task B l1 l2 l3 l4 l5 = some (r, B')) : MetI l V yX6_task cX6_task 8 .int ({ frames := 1, cells := 0, slots := 0, locals := 23 } : Room) [.ref (vA V 12 0), .int l1, .int l2, .int l3, .int l4, .int l5] r (jb M 12 B) (jb M 12 B') := metI_of (by decide) (Nat.le_of_ble_eq_true rfl) (fun E H0 _ Cx hret H locs ls hW hl => wX6_task Cx hret hW hl hF)
theorem dX6_duration_0 : decode cX6_duration 0 = .ok (.aload_n 0, 1) := by decide +kernel
theorem dX6_duration_1 : decode cX6_duration 1 = .ok (.iload_n 1, 1) := by decide +kernel
theorem dX6_duration_2 : decode cX6_duration 2 = .ok (.invokevirtual 89, 3) := by decide +kernel
theorem dX6_duration_5 : decode cX6_duration 5 = .ok (.ifCond .ne 5, 3) := by decide +kernel
theorem dX6_duration_8 : decode cX6_duration 8 = .ok (.iconst (-1), 1) := by decide +kernel
theorem dX6_duration_9 : decode cX6_duration 9 = .ok (.ireturn, 1) := by decide +kernel
theorem dX6_duration_10 : decode cX6_duration 10 = .ok (.iload_n 2, 1) := by decide +kernel
theorem dX6_duration_11 : decode cX6_duration 11 = .ok (.iconst 1, 1) := by decide +kernel
theorem dX6_duration_12 : decode cX6_duration 12 = .ok (.bipush 100, 2) := by decide +kernel
theorem dX6_duration_14 : decode cX6_duration 14 = .ok (.invokestatic 56, 3) := by decide +kernel
theorem dX6_duration_17 : decode cX6_duration 17 = .ok (.ifCond .ne 6, 3) := by decide +kernel
theorem dX6_duration_20 : decode cX6_duration 20 = .ok (.bipush (-2), 2) := by decide +kernel
theorem dX6_duration_22 : decode cX6_duration 22 = .ok (.ireturn, 1) := by decide +kernel
theorem dX6_duration_23 : decode cX6_duration 23 = .ok (.aload_n 0, 1) := by decide +kernel
theorem dX6_duration_24 : decode cX6_duration 24 = .ok (.invokevirtual 60, 3) := by decide +kernel
theorem dX6_duration_27 : decode cX6_duration 27 = .ok (.aload_n 0, 1) := by decide +kernel
theorem dX6_duration_28 : decode cX6_duration 28 = .ok (.getfield 7, 3) := by decide +kernel
theorem dX6_duration_31 : decode cX6_duration 31 = .ok (.bipush 28, 2) := by decide +kernel
theorem dX6_duration_33 : decode cX6_duration 33 = .ok (.iload_n 1, 1) := by decide +kernel
theorem dX6_duration_34 : decode cX6_duration 34 = .ok (.iadd, 1) := by decide +kernel
theorem dX6_duration_35 : decode cX6_duration 35 = .ok (.iaload, 1) := by decide +kernel
theorem dX6_duration_36 : decode cX6_duration 36 = .ok (.istore_n 3, 1) := by decide +kernel
theorem dX6_duration_37 : decode cX6_duration 37 = .ok (.aload_n 0, 1) := by decide +kernel
theorem dX6_duration_38 : decode cX6_duration 38 = .ok (.getfield 7, 3) := by decide +kernel
theorem dX6_duration_41 : decode cX6_duration 41 = .ok (.bipush 28, 2) := by decide +kernel
theorem dX6_duration_43 : decode cX6_duration 43 = .ok (.iload_n 1, 1) := by decide +kernel
theorem dX6_duration_44 : decode cX6_duration 44 = .ok (.iadd, 1) := by decide +kernel
theorem dX6_duration_45 : decode cX6_duration 45 = .ok (.iload_n 2, 1) := by decide +kernel
theorem dX6_duration_46 : decode cX6_duration 46 = .ok (.iastore, 1) := by decide +kernel
theorem dX6_duration_47 : decode cX6_duration 47 = .ok (.iload_n 3, 1) := by decide +kernel
theorem dX6_duration_48 : decode cX6_duration 48 = .ok (.ireturn, 1) := by decide +kernel
theorem okX6_duration : CalOK yX6_duration cX6_duration 4 (some .int) 2 := ⟨wd_73, wd_811, by decide +kernel⟩
theorem ovX6_duration : VirOK yX6_duration := ⟨wd_809, wd_810⟩
def FX6_duration (B : Blk) (l1 : Int32) (l2 : Int32) : Option (Int32 × Blk) :=
  c1 (FX6_isTask B l1) fun r1 =>
  if r1 = 0 then
    some ((-1 : Int32), B)
  else
    c1 (FX6_in l2 (1 : Int32) (100 : Int32)) fun r4 =>
    if r4 = 0 then
      some ((-2 : Int32), B)
    else
      c1 (FX6_record B) fun B9 =>
      ld (B9 1) 356 ((28 : Int32) + l1) fun v10 =>
      stb B9 1 356 ((28 : Int32) + l1) l2 fun B13 =>
      some (v10, B13)
set_option maxRecDepth 100000 in
set_option maxHeartbeats 4000000 in
theorem wX6_duration {E : WE} {V : VT} {A : Nat → Prop} {H0 : Heap} {M : Mem} (Cx : CX E RX6 cX6_duration 4 1 22) {r : Int32} {B' : Blk} (hret : RetI E V A H0 cX6_duration .int r (jb M 12 B')) {H : Heap} {locs : List Loc} {ls : Array Slot} {l1 : Int32} {l2 : Int32} {B : Blk} (hW : Wd V A H0 (jb M 12 B) (eS E) H locs) (hl : lv_has ls 4 [(0, .ref (vA V 12 0)), (1, .int l1), (2, .int l2)]) (hF : FX6_duration B l1 l2 = some (r, B')) : Wq E H locs 0 ls [] := by
  unfold FX6_duration at hF
  refine q_aload_n Cx dX6_duration_0 rfl (lv_at hl 0 rfl) ?_
  refine q_iload_n Cx dX6_duration_1 rfl (lv_at hl 1 rfl) ?_
  obtain ⟨r1, e2, hF⟩ := c1_some hF
  refine q_callI (as := [.int l1]) (rest := []) Cx (kX6_isTask e2) okX6_isTask ovX6_isTask wd_799 ⟨rfl, rfl, by decide, by decide⟩ hW oZ ic6 rfl hl.1 (Nat.le_of_ble_eq_true rfl) rfl dX6_duration_2 (fun H locs hW => ?_)
  refine q_if_ne (tgt := 10) Cx dX6_duration_5 (by decide) (fun c3 => ?_) (fun c3 => ?_)
  · have hF := (if_neg c3).symm.trans hF
    refine q_iload_n Cx dX6_duration_10 rfl (lv_at hl 2 rfl) ?_
    refine q_iconst (v := (1 : Int32)) Cx dX6_duration_11 (by decide) ?_
    refine q_bipush (v := (100 : Int32)) Cx dX6_duration_12 (by decide) ?_
    obtain ⟨r4, e5, hF⟩ := c1_some hF
    refine q_callSI (as := [.int l2, .int (1 : Int32), .int (100 : Int32)]) (rest := []) Cx (kX6_in e5) okX6_in osX6_in rfl wd_780 ⟨rfl, rfl, by decide, by decide⟩ hW rfl hl.1 (Nat.le_of_ble_eq_true rfl) rfl dX6_duration_14 (fun H locs hW => ?_)
    refine q_if_ne (tgt := 23) Cx dX6_duration_17 (by decide) (fun c6 => ?_) (fun c6 => ?_)
    · have hF := (if_neg c6).symm.trans hF
      refine q_aload_n Cx dX6_duration_23 rfl (lv_at hl 0 rfl) ?_
      obtain ⟨B9, e8, hF⟩ := c1_some hF
      refine q_callV (as := []) (rest := []) Cx (kX6_record e8) okX6_record ovX6_record wd_787 ⟨rfl, rfl, by decide, by decide⟩ hW oZ ic6 rfl hl.1 (Nat.le_of_ble_eq_true rfl) rfl dX6_duration_24 (fun H locs hW => ?_)
      refine q_aload_n Cx dX6_duration_27 rfl (lv_at hl 0 rfl) ?_
      refine q_get (v := .ref (vA V 12 1)) Cx hW oZ ic6 0 (by decide) rfl wd_714 dX6_duration_28 ?_
      refine q_bipush (v := (28 : Int32)) Cx dX6_duration_31 (by decide) ?_
      refine q_iload_n Cx dX6_duration_33 rfl (lv_at hl 1 rfl) ?_
      refine q_iadd Cx dX6_duration_34 ?_
      obtain ⟨h11, v10, e12, hF⟩ := ld_some hF
      refine qb_iald Cx hW az_1 h11 e12 dX6_duration_35 ?_
      refine q_istore_n (lv' := [(3, .int v10), (0, .ref (vA V 12 0)), (1, .int l1), (2, .int l2)]) Cx dX6_duration_36 rfl hl (by decide) rfl (fun ls hl => ?_)
      refine q_aload_n Cx dX6_duration_37 rfl (lv_at hl 1 rfl) ?_
      refine q_get (v := .ref (vA V 12 1)) Cx hW oZ ic6 0 (by decide) rfl wd_714 dX6_duration_38 ?_
      refine q_bipush (v := (28 : Int32)) Cx dX6_duration_41 (by decide) ?_
      refine q_iload_n Cx dX6_duration_43 rfl (lv_at hl 2 rfl) ?_
      refine q_iadd Cx dX6_duration_44 ?_
      refine q_iload_n Cx dX6_duration_45 rfl (lv_at hl 3 rfl) ?_
      obtain ⟨h14, B13, e15, hF⟩ := stb_some hF
      refine qb_iast Cx hW az_1 h14 e15 dX6_duration_46 (fun H locs hW => ?_)
      refine q_iload_n Cx dX6_duration_47 rfl (lv_at hl 0 rfl) ?_
      obtain ⟨rfl, rfl⟩ := Prod.mk.inj (Option.some.inj hF)
      exact hret _ _ _ _ dX6_duration_48 (nI32 _) hW
    · have hF := (if_pos c6).symm.trans hF
      refine q_bipush (v := (-2 : Int32)) Cx dX6_duration_20 (by decide) ?_
      obtain ⟨rfl, rfl⟩ := Prod.mk.inj (Option.some.inj hF)
      exact hret _ _ _ _ dX6_duration_22 (nI32 _) hW
  · have hF := (if_pos c3).symm.trans hF
    refine q_iconst (v := (-1 : Int32)) Cx dX6_duration_8 (by decide) ?_
    obtain ⟨rfl, rfl⟩ := Prod.mk.inj (Option.some.inj hF)
    exact hret _ _ _ _ dX6_duration_9 (nI32 _) hW
set_option maxRecDepth 100000 in
theorem kX6_duration {l : Launch} {V : VT} {M : Mem} {B : Blk} {l1 : Int32} {l2 : Int32} {r : Int32} {B' : Blk} (hF : FX6_duration B l1 l2 = some (r, B')) : MetI l V yX6_duration cX6_duration 4 .int ({ frames := 1, cells := 0, slots := 0, locals := 22 } : Room) [.ref (vA V 12 0), .int l1, .int l2] r (jb M 12 B) (jb M 12 B') := metI_of (by decide) (Nat.le_of_ble_eq_true rfl) (fun E H0 _ Cx hret H locs ls hW hl => wX6_duration Cx hret hW hl hF)
theorem dX6_putAt_0 : decode cX6_putAt 0 = .ok (.aload_n 0, 1) := by decide +kernel
theorem dX6_putAt_1 : decode cX6_putAt 1 = .ok (.getfield 7, 3) := by decide +kernel
theorem dX6_putAt_4 : decode cX6_putAt 4 = .ok (.sipush 172, 3) := by decide +kernel
theorem dX6_putAt_7 : decode cX6_putAt 7 = .ok (.iload_n 1, 1) := by decide +kernel
theorem dX6_putAt_8 : decode cX6_putAt 8 = .ok (.iadd, 1) := by decide +kernel
theorem dX6_putAt_9 : decode cX6_putAt 9 = .ok (.iaload, 1) := by decide +kernel
theorem dX6_putAt_10 : decode cX6_putAt 10 = .ok (.istore_n 3, 1) := by decide +kernel
theorem dX6_putAt_11 : decode cX6_putAt 11 = .ok (.iconst 0, 1) := by decide +kernel
theorem dX6_putAt_12 : decode cX6_putAt 12 = .ok (.istore 4, 2) := by decide +kernel
theorem dX6_putAt_14 : decode cX6_putAt 14 = .ok (.iload 4, 2) := by decide +kernel
theorem dX6_putAt_16 : decode cX6_putAt 16 = .ok (.aload_n 0, 1) := by decide +kernel
theorem dX6_putAt_17 : decode cX6_putAt 17 = .ok (.getfield 7, 3) := by decide +kernel
theorem dX6_putAt_20 : decode cX6_putAt 20 = .ok (.iconst 0, 1) := by decide +kernel
theorem dX6_putAt_21 : decode cX6_putAt 21 = .ok (.iaload, 1) := by decide +kernel
theorem dX6_putAt_22 : decode cX6_putAt 22 = .ok (.if_icmp .ge 105, 3) := by decide +kernel
theorem dX6_putAt_25 : decode cX6_putAt 25 = .ok (.iload 4, 2) := by decide +kernel
theorem dX6_putAt_27 : decode cX6_putAt 27 = .ok (.iload_n 1, 1) := by decide +kernel
theorem dX6_putAt_28 : decode cX6_putAt 28 = .ok (.if_icmp .eq 93, 3) := by decide +kernel
theorem dX6_putAt_31 : decode cX6_putAt 31 = .ok (.aload_n 0, 1) := by decide +kernel
theorem dX6_putAt_32 : decode cX6_putAt 32 = .ok (.getfield 7, 3) := by decide +kernel
theorem dX6_putAt_35 : decode cX6_putAt 35 = .ok (.iconst 4, 1) := by decide +kernel
theorem dX6_putAt_36 : decode cX6_putAt 36 = .ok (.iload 4, 2) := by decide +kernel
theorem dX6_putAt_38 : decode cX6_putAt 38 = .ok (.iadd, 1) := by decide +kernel
theorem dX6_putAt_39 : decode cX6_putAt 39 = .ok (.iaload, 1) := by decide +kernel
theorem dX6_putAt_40 : decode cX6_putAt 40 = .ok (.aload_n 0, 1) := by decide +kernel
theorem dX6_putAt_41 : decode cX6_putAt 41 = .ok (.getfield 7, 3) := by decide +kernel
theorem dX6_putAt_44 : decode cX6_putAt 44 = .ok (.iconst 4, 1) := by decide +kernel
theorem dX6_putAt_45 : decode cX6_putAt 45 = .ok (.iload_n 1, 1) := by decide +kernel
theorem dX6_putAt_46 : decode cX6_putAt 46 = .ok (.iadd, 1) := by decide +kernel
theorem dX6_putAt_47 : decode cX6_putAt 47 = .ok (.iaload, 1) := by decide +kernel
theorem dX6_putAt_48 : decode cX6_putAt 48 = .ok (.if_icmp .ne 73, 3) := by decide +kernel
theorem dX6_putAt_51 : decode cX6_putAt 51 = .ok (.aload_n 0, 1) := by decide +kernel
theorem dX6_putAt_52 : decode cX6_putAt 52 = .ok (.getfield 7, 3) := by decide +kernel
theorem dX6_putAt_55 : decode cX6_putAt 55 = .ok (.sipush 172, 3) := by decide +kernel
theorem dX6_putAt_58 : decode cX6_putAt 58 = .ok (.iload 4, 2) := by decide +kernel
theorem dX6_putAt_60 : decode cX6_putAt 60 = .ok (.iadd, 1) := by decide +kernel
theorem dX6_putAt_61 : decode cX6_putAt 61 = .ok (.iaload, 1) := by decide +kernel
theorem dX6_putAt_62 : decode cX6_putAt 62 = .ok (.iload_n 3, 1) := by decide +kernel
theorem dX6_putAt_63 : decode cX6_putAt 63 = .ok (.if_icmp .le 19, 3) := by decide +kernel
theorem dX6_putAt_66 : decode cX6_putAt 66 = .ok (.aload_n 0, 1) := by decide +kernel
theorem dX6_putAt_67 : decode cX6_putAt 67 = .ok (.getfield 7, 3) := by decide +kernel
theorem dX6_putAt_70 : decode cX6_putAt 70 = .ok (.sipush 172, 3) := by decide +kernel
theorem dX6_putAt_73 : decode cX6_putAt 73 = .ok (.iload 4, 2) := by decide +kernel
theorem dX6_putAt_75 : decode cX6_putAt 75 = .ok (.iadd, 1) := by decide +kernel
theorem dX6_putAt_76 : decode cX6_putAt 76 = .ok (.iaload, 1) := by decide +kernel
theorem dX6_putAt_77 : decode cX6_putAt 77 = .ok (.iconst 1, 1) := by decide +kernel
theorem dX6_putAt_78 : decode cX6_putAt 78 = .ok (.isub, 1) := by decide +kernel
theorem dX6_putAt_79 : decode cX6_putAt 79 = .ok (.goto 14, 3) := by decide +kernel
theorem dX6_putAt_82 : decode cX6_putAt 82 = .ok (.aload_n 0, 1) := by decide +kernel
theorem dX6_putAt_83 : decode cX6_putAt 83 = .ok (.getfield 7, 3) := by decide +kernel
theorem dX6_putAt_86 : decode cX6_putAt 86 = .ok (.sipush 172, 3) := by decide +kernel
theorem dX6_putAt_89 : decode cX6_putAt 89 = .ok (.iload 4, 2) := by decide +kernel
theorem dX6_putAt_91 : decode cX6_putAt 91 = .ok (.iadd, 1) := by decide +kernel
theorem dX6_putAt_92 : decode cX6_putAt 92 = .ok (.iaload, 1) := by decide +kernel
theorem dX6_putAt_93 : decode cX6_putAt 93 = .ok (.istore 5, 2) := by decide +kernel
theorem dX6_putAt_95 : decode cX6_putAt 95 = .ok (.aload_n 0, 1) := by decide +kernel
theorem dX6_putAt_96 : decode cX6_putAt 96 = .ok (.getfield 7, 3) := by decide +kernel
theorem dX6_putAt_99 : decode cX6_putAt 99 = .ok (.sipush 172, 3) := by decide +kernel
theorem dX6_putAt_102 : decode cX6_putAt 102 = .ok (.iload 4, 2) := by decide +kernel
theorem dX6_putAt_104 : decode cX6_putAt 104 = .ok (.iadd, 1) := by decide +kernel
theorem dX6_putAt_105 : decode cX6_putAt 105 = .ok (.iload 5, 2) := by decide +kernel
theorem dX6_putAt_107 : decode cX6_putAt 107 = .ok (.iload_n 2, 1) := by decide +kernel
theorem dX6_putAt_108 : decode cX6_putAt 108 = .ok (.if_icmp .lt 10, 3) := by decide +kernel
theorem dX6_putAt_111 : decode cX6_putAt 111 = .ok (.iload 5, 2) := by decide +kernel
theorem dX6_putAt_113 : decode cX6_putAt 113 = .ok (.iconst 1, 1) := by decide +kernel
theorem dX6_putAt_114 : decode cX6_putAt 114 = .ok (.iadd, 1) := by decide +kernel
theorem dX6_putAt_115 : decode cX6_putAt 115 = .ok (.goto 5, 3) := by decide +kernel
theorem dX6_putAt_118 : decode cX6_putAt 118 = .ok (.iload 5, 2) := by decide +kernel
theorem dX6_putAt_120 : decode cX6_putAt 120 = .ok (.iastore, 1) := by decide +kernel
theorem dX6_putAt_121 : decode cX6_putAt 121 = .ok (.iinc 4 1, 3) := by decide +kernel
theorem dX6_putAt_124 : decode cX6_putAt 124 = .ok (.goto (-110), 3) := by decide +kernel
theorem dX6_putAt_127 : decode cX6_putAt 127 = .ok (.aload_n 0, 1) := by decide +kernel
theorem dX6_putAt_128 : decode cX6_putAt 128 = .ok (.getfield 7, 3) := by decide +kernel
theorem dX6_putAt_131 : decode cX6_putAt 131 = .ok (.sipush 172, 3) := by decide +kernel
theorem dX6_putAt_134 : decode cX6_putAt 134 = .ok (.iload_n 1, 1) := by decide +kernel
theorem dX6_putAt_135 : decode cX6_putAt 135 = .ok (.iadd, 1) := by decide +kernel
theorem dX6_putAt_136 : decode cX6_putAt 136 = .ok (.iload_n 2, 1) := by decide +kernel
theorem dX6_putAt_137 : decode cX6_putAt 137 = .ok (.iastore, 1) := by decide +kernel
theorem dX6_putAt_138 : decode cX6_putAt 138 = .ok (.return_, 1) := by decide +kernel
theorem okX6_putAt : CalOK yX6_putAt cX6_putAt 6 (none) 2 := ⟨wd_73, wd_819, by decide +kernel⟩
theorem ovX6_putAt : VirOK yX6_putAt := ⟨wd_818, wd_28⟩
def FX6_putAt_120 (k14 : Int32 → Int32 → Int32 → Int32 → Blk → Option Blk) (l1 : Int32) (l2 : Int32) (l3 : Int32) (l4 : Int32) (s0 : Int32) (s1 : Int32) (B : Blk) : Option Blk :=
  stb B 1 356 s1 s0 fun B31 =>
  lt1 (l4 + (1 : Int32)) fun x34 =>
  k14 l1 l2 l3 x34 B31
set_option maxRecDepth 100000 in
set_option maxHeartbeats 4000000 in
theorem wX6_putAt_120 {E : WE} {V : VT} {A : Nat → Prop} {H0 : Heap} {M : Mem} (Cx : CX E RX6 cX6_putAt 6 0 0) {B' : Blk} (hret : RetV E V A H0 cX6_putAt (jb M 12 B')) {k14 : Int32 → Int32 → Int32 → Int32 → Blk → Option Blk} (hk14 : ∀ {H : Heap} {locs : List Loc} {ls : Array Slot} {B : Blk} {l1 : Int32} {l2 : Int32} {l3 : Int32} {l4 : Int32}, Wd V A H0 (jb M 12 B) (eS E) H locs → lv_has ls 6 [(0, .ref (vA V 12 0)), (1, .int l1), (2, .int l2), (3, .int l3), (4, .int l4)] → k14 l1 l2 l3 l4 B = some B' → Wq E H locs 14 ls []) {H : Heap} {locs : List Loc} {ls : Array Slot} {l1 : Int32} {l2 : Int32} {l3 : Int32} {l4 : Int32} {s0 : Int32} {s1 : Int32} {B : Blk} (hW : Wd V A H0 (jb M 12 B) (eS E) H locs) (hl : lv_has ls 6 [(0, .ref (vA V 12 0)), (1, .int l1), (2, .int l2), (3, .int l3), (4, .int l4)]) (hF : FX6_putAt_120 k14 l1 l2 l3 l4 s0 s1 B = some B') : Wq E H locs 120 ls [.int s0, .int s1, .ref (vA V 12 1)] := by
  unfold FX6_putAt_120 at hF
  obtain ⟨h32, B31, e33, hF⟩ := stb_some hF
  refine qb_iast Cx hW az_1 h32 e33 dX6_putAt_120 (fun H locs hW => ?_)
  obtain ⟨x34, e35, hF⟩ := lt1_some hF
  refine q_iinc (k := 4) (v := x34) (lv' := [(4, .int x34), (0, .ref (vA V 12 0)), (1, .int l1), (2, .int l2), (3, .int l3)]) Cx dX6_putAt_121 hl rfl e35.symm (by decide) rfl (fun ls hl => ?_)
  refine q_goto (tgt := 14) Cx dX6_putAt_124 (by decide) ?_
  exact hk14 hW (lv_sub hl [1, 2, 3, 4, 0] rfl) hF
def FX6_putAt_93 (k14 : Int32 → Int32 → Int32 → Int32 → Blk → Option Blk) (l1 : Int32) (l2 : Int32) (l3 : Int32) (l4 : Int32) (s0 : Int32) (B : Blk) : Option Blk :=
  if s0 < l2 then
    FX6_putAt_120 k14 l1 l2 l3 l4 s0 ((172 : Int32) + l4) B
  else
    FX6_putAt_120 k14 l1 l2 l3 l4 (s0 + (1 : Int32)) ((172 : Int32) + l4) B
set_option maxRecDepth 100000 in
set_option maxHeartbeats 4000000 in
theorem wX6_putAt_93 {E : WE} {V : VT} {A : Nat → Prop} {H0 : Heap} {M : Mem} (Cx : CX E RX6 cX6_putAt 6 0 0) {B' : Blk} (hret : RetV E V A H0 cX6_putAt (jb M 12 B')) {k14 : Int32 → Int32 → Int32 → Int32 → Blk → Option Blk} (hk14 : ∀ {H : Heap} {locs : List Loc} {ls : Array Slot} {B : Blk} {l1 : Int32} {l2 : Int32} {l3 : Int32} {l4 : Int32}, Wd V A H0 (jb M 12 B) (eS E) H locs → lv_has ls 6 [(0, .ref (vA V 12 0)), (1, .int l1), (2, .int l2), (3, .int l3), (4, .int l4)] → k14 l1 l2 l3 l4 B = some B' → Wq E H locs 14 ls []) {H : Heap} {locs : List Loc} {ls : Array Slot} {l1 : Int32} {l2 : Int32} {l3 : Int32} {l4 : Int32} {s0 : Int32} {B : Blk} (hW : Wd V A H0 (jb M 12 B) (eS E) H locs) (hl : lv_has ls 6 [(0, .ref (vA V 12 0)), (1, .int l1), (2, .int l2), (3, .int l3), (4, .int l4)]) (hF : FX6_putAt_93 k14 l1 l2 l3 l4 s0 B = some B') : Wq E H locs 93 ls [.int s0] := by
  unfold FX6_putAt_93 at hF
  refine q_istore (lv' := [(5, .int s0), (0, .ref (vA V 12 0)), (1, .int l1), (2, .int l2), (3, .int l3), (4, .int l4)]) Cx dX6_putAt_93 hl (by decide) rfl (fun ls hl => ?_)
  refine q_aload_n Cx dX6_putAt_95 rfl (lv_at hl 1 rfl) ?_
  refine q_get (v := .ref (vA V 12 1)) Cx hW oZ ic6 0 (by decide) rfl wd_714 dX6_putAt_96 ?_
  refine q_sipush (v := (172 : Int32)) Cx dX6_putAt_99 (by decide) ?_
  refine q_iload Cx dX6_putAt_102 (lv_at hl 5 rfl) ?_
  refine q_iadd Cx dX6_putAt_104 ?_
  refine q_iload Cx dX6_putAt_105 (lv_at hl 0 rfl) ?_
  refine q_iload_n Cx dX6_putAt_107 rfl (lv_at hl 3 rfl) ?_
  refine q_icmp_lt (tgt := 118) Cx dX6_putAt_108 (by decide) (fun c30 => ?_) (fun c30 => ?_)
  · have hF := (if_pos c30).symm.trans hF
    refine q_iload Cx dX6_putAt_118 (lv_at hl 0 rfl) ?_
    exact wX6_putAt_120 Cx hret hk14 hW (lv_sub hl [1, 2, 3, 4, 5] rfl) hF
  · have hF := (if_neg c30).symm.trans hF
    refine q_iload Cx dX6_putAt_111 (lv_at hl 0 rfl) ?_
    refine q_iconst (v := (1 : Int32)) Cx dX6_putAt_113 (by decide) ?_
    refine q_iadd Cx dX6_putAt_114 ?_
    refine q_goto (tgt := 120) Cx dX6_putAt_115 (by decide) ?_
    exact wX6_putAt_120 Cx hret hk14 hW (lv_sub hl [1, 2, 3, 4, 5] rfl) hF
def FX6_putAt_14s (k14 : Int32 → Int32 → Int32 → Int32 → Blk → Option Blk) (l1 : Int32) (l2 : Int32) (l3 : Int32) (l4 : Int32) (B : Blk) : Option Blk :=
  ld (B 1) 356 (0 : Int32) fun v4 =>
  if v4 ≤ l4 then
    stb B 1 356 ((172 : Int32) + l1) l2 fun B8 =>
    some B8
  else
    if l4 = l1 then
      lt1 (l4 + (1 : Int32)) fun x12 =>
      k14 l1 l2 l3 x12 B
    else
      ld (B 1) 356 ((4 : Int32) + l4) fun v14 =>
      ld (B 1) 356 ((4 : Int32) + l1) fun v17 =>
      if v14 = v17 then
        ld (B 1) 356 ((172 : Int32) + l4) fun v23 =>
        if v23 ≤ l3 then
          ld (B 1) 356 ((172 : Int32) + l4) fun v27 =>
          FX6_putAt_93 k14 l1 l2 l3 l4 v27 B
        else
          ld (B 1) 356 ((172 : Int32) + l4) fun v36 =>
          FX6_putAt_93 k14 l1 l2 l3 l4 (v36 - (1 : Int32)) B
      else
        lt1 (l4 + (1 : Int32)) fun x21 =>
        k14 l1 l2 l3 x21 B
set_option maxRecDepth 100000 in
set_option maxHeartbeats 4000000 in
theorem wX6_putAt_14s {E : WE} {V : VT} {A : Nat → Prop} {H0 : Heap} {M : Mem} (Cx : CX E RX6 cX6_putAt 6 0 0) {B' : Blk} (hret : RetV E V A H0 cX6_putAt (jb M 12 B')) {k14 : Int32 → Int32 → Int32 → Int32 → Blk → Option Blk} (hk14 : ∀ {H : Heap} {locs : List Loc} {ls : Array Slot} {B : Blk} {l1 : Int32} {l2 : Int32} {l3 : Int32} {l4 : Int32}, Wd V A H0 (jb M 12 B) (eS E) H locs → lv_has ls 6 [(0, .ref (vA V 12 0)), (1, .int l1), (2, .int l2), (3, .int l3), (4, .int l4)] → k14 l1 l2 l3 l4 B = some B' → Wq E H locs 14 ls []) {H : Heap} {locs : List Loc} {ls : Array Slot} {l1 : Int32} {l2 : Int32} {l3 : Int32} {l4 : Int32} {B : Blk} (hW : Wd V A H0 (jb M 12 B) (eS E) H locs) (hl : lv_has ls 6 [(0, .ref (vA V 12 0)), (1, .int l1), (2, .int l2), (3, .int l3), (4, .int l4)]) (hF : FX6_putAt_14s k14 l1 l2 l3 l4 B = some B') : Wq E H locs 14 ls [] := by
  unfold FX6_putAt_14s at hF
  refine q_iload Cx dX6_putAt_14 (lv_at hl 4 rfl) ?_
  refine q_aload_n Cx dX6_putAt_16 rfl (lv_at hl 0 rfl) ?_
  refine q_get (v := .ref (vA V 12 1)) Cx hW oZ ic6 0 (by decide) rfl wd_714 dX6_putAt_17 ?_
  refine q_iconst (v := (0 : Int32)) Cx dX6_putAt_20 (by decide) ?_
  obtain ⟨h5, v4, e6, hF⟩ := ld_some hF
  refine qb_iald Cx hW az_1 h5 e6 dX6_putAt_21 ?_
  refine q_icmp_ge (tgt := 127) Cx dX6_putAt_22 (by decide) (fun c7 => ?_) (fun c7 => ?_)
  · have hF := (if_pos c7).symm.trans hF
    refine q_aload_n Cx dX6_putAt_127 rfl (lv_at hl 0 rfl) ?_
    refine q_get (v := .ref (vA V 12 1)) Cx hW oZ ic6 0 (by decide) rfl wd_714 dX6_putAt_128 ?_
    refine q_sipush (v := (172 : Int32)) Cx dX6_putAt_131 (by decide) ?_
    refine q_iload_n Cx dX6_putAt_134 rfl (lv_at hl 1 rfl) ?_
    refine q_iadd Cx dX6_putAt_135 ?_
    refine q_iload_n Cx dX6_putAt_136 rfl (lv_at hl 2 rfl) ?_
    obtain ⟨h9, B8, e10, hF⟩ := stb_some hF
    refine qb_iast Cx hW az_1 h9 e10 dX6_putAt_137 (fun H locs hW => ?_)
    obtain rfl := Option.some.inj hF
    exact hret _ _ _ _ dX6_putAt_138 hW
  · have hF := (if_neg c7).symm.trans hF
    refine q_iload Cx dX6_putAt_25 (lv_at hl 4 rfl) ?_
    refine q_iload_n Cx dX6_putAt_27 rfl (lv_at hl 1 rfl) ?_
    refine q_icmp_eq (tgt := 121) Cx dX6_putAt_28 (by decide) (fun c11 => ?_) (fun c11 => ?_)
    · have hF := (if_pos c11).symm.trans hF
      obtain ⟨x12, e13, hF⟩ := lt1_some hF
      refine q_iinc (k := 4) (v := x12) (lv' := [(4, .int x12), (0, .ref (vA V 12 0)), (1, .int l1), (2, .int l2), (3, .int l3)]) Cx dX6_putAt_121 hl rfl e13.symm (by decide) rfl (fun ls hl => ?_)
      refine q_goto (tgt := 14) Cx dX6_putAt_124 (by decide) ?_
      exact hk14 hW (lv_sub hl [1, 2, 3, 4, 0] rfl) hF
    · have hF := (if_neg c11).symm.trans hF
      refine q_aload_n Cx dX6_putAt_31 rfl (lv_at hl 0 rfl) ?_
      refine q_get (v := .ref (vA V 12 1)) Cx hW oZ ic6 0 (by decide) rfl wd_714 dX6_putAt_32 ?_
      refine q_iconst (v := (4 : Int32)) Cx dX6_putAt_35 (by decide) ?_
      refine q_iload Cx dX6_putAt_36 (lv_at hl 4 rfl) ?_
      refine q_iadd Cx dX6_putAt_38 ?_
      obtain ⟨h15, v14, e16, hF⟩ := ld_some hF
      refine qb_iald Cx hW az_1 h15 e16 dX6_putAt_39 ?_
      refine q_aload_n Cx dX6_putAt_40 rfl (lv_at hl 0 rfl) ?_
      refine q_get (v := .ref (vA V 12 1)) Cx hW oZ ic6 0 (by decide) rfl wd_714 dX6_putAt_41 ?_
      refine q_iconst (v := (4 : Int32)) Cx dX6_putAt_44 (by decide) ?_
      refine q_iload_n Cx dX6_putAt_45 rfl (lv_at hl 1 rfl) ?_
      refine q_iadd Cx dX6_putAt_46 ?_
      obtain ⟨h18, v17, e19, hF⟩ := ld_some hF
      refine qb_iald Cx hW az_1 h18 e19 dX6_putAt_47 ?_
      refine q_icmp_ne (tgt := 121) Cx dX6_putAt_48 (by decide) (fun c20 => ?_) (fun c20 => ?_)
      · have hF := (if_neg c20).symm.trans hF
        obtain ⟨x21, e22, hF⟩ := lt1_some hF
        refine q_iinc (k := 4) (v := x21) (lv' := [(4, .int x21), (0, .ref (vA V 12 0)), (1, .int l1), (2, .int l2), (3, .int l3)]) Cx dX6_putAt_121 hl rfl e22.symm (by decide) rfl (fun ls hl => ?_)
        refine q_goto (tgt := 14) Cx dX6_putAt_124 (by decide) ?_
        exact hk14 hW (lv_sub hl [1, 2, 3, 4, 0] rfl) hF
      · have hF := (if_pos c20).symm.trans hF
        refine q_aload_n Cx dX6_putAt_51 rfl (lv_at hl 0 rfl) ?_
        refine q_get (v := .ref (vA V 12 1)) Cx hW oZ ic6 0 (by decide) rfl wd_714 dX6_putAt_52 ?_
        refine q_sipush (v := (172 : Int32)) Cx dX6_putAt_55 (by decide) ?_
        refine q_iload Cx dX6_putAt_58 (lv_at hl 4 rfl) ?_
        refine q_iadd Cx dX6_putAt_60 ?_
        obtain ⟨h24, v23, e25, hF⟩ := ld_some hF
        refine qb_iald Cx hW az_1 h24 e25 dX6_putAt_61 ?_
        refine q_iload_n Cx dX6_putAt_62 rfl (lv_at hl 3 rfl) ?_
        refine q_icmp_le (tgt := 82) Cx dX6_putAt_63 (by decide) (fun c26 => ?_) (fun c26 => ?_)
        · have hF := (if_pos c26).symm.trans hF
          refine q_aload_n Cx dX6_putAt_82 rfl (lv_at hl 0 rfl) ?_
          refine q_get (v := .ref (vA V 12 1)) Cx hW oZ ic6 0 (by decide) rfl wd_714 dX6_putAt_83 ?_
          refine q_sipush (v := (172 : Int32)) Cx dX6_putAt_86 (by decide) ?_
          refine q_iload Cx dX6_putAt_89 (lv_at hl 4 rfl) ?_
          refine q_iadd Cx dX6_putAt_91 ?_
          obtain ⟨h28, v27, e29, hF⟩ := ld_some hF
          refine qb_iald Cx hW az_1 h28 e29 dX6_putAt_92 ?_
          exact wX6_putAt_93 Cx hret hk14 hW (lv_sub hl [0, 1, 2, 3, 4] rfl) hF
        · have hF := (if_neg c26).symm.trans hF
          refine q_aload_n Cx dX6_putAt_66 rfl (lv_at hl 0 rfl) ?_
          refine q_get (v := .ref (vA V 12 1)) Cx hW oZ ic6 0 (by decide) rfl wd_714 dX6_putAt_67 ?_
          refine q_sipush (v := (172 : Int32)) Cx dX6_putAt_70 (by decide) ?_
          refine q_iload Cx dX6_putAt_73 (lv_at hl 4 rfl) ?_
          refine q_iadd Cx dX6_putAt_75 ?_
          obtain ⟨h37, v36, e38, hF⟩ := ld_some hF
          refine qb_iald Cx hW az_1 h37 e38 dX6_putAt_76 ?_
          refine q_iconst (v := (1 : Int32)) Cx dX6_putAt_77 (by decide) ?_
          refine q_isub Cx dX6_putAt_78 ?_
          refine q_goto (tgt := 93) Cx dX6_putAt_79 (by decide) ?_
          exact wX6_putAt_93 Cx hret hk14 hW (lv_sub hl [0, 1, 2, 3, 4] rfl) hF
def FX6_putAt_14 : Nat → Int32 → Int32 → Int32 → Int32 → Blk → Option Blk
  | 0 => fun _ _ _ _ _ => none
  | n + 1 => FX6_putAt_14s (FX6_putAt_14 n)
set_option maxRecDepth 100000 in
theorem wX6_putAt_14 {E : WE} {V : VT} {A : Nat → Prop} {H0 : Heap} {M : Mem} (Cx : CX E RX6 cX6_putAt 6 0 0) {B' : Blk} (hret : RetV E V A H0 cX6_putAt (jb M 12 B')) : ∀ (n : Nat) {H : Heap} {locs : List Loc} {ls : Array Slot} {l1 : Int32} {l2 : Int32} {l3 : Int32} {l4 : Int32} {B : Blk}, Wd V A H0 (jb M 12 B) (eS E) H locs → lv_has ls 6 [(0, .ref (vA V 12 0)), (1, .int l1), (2, .int l2), (3, .int l3), (4, .int l4)] → FX6_putAt_14 n l1 l2 l3 l4 B = some B' → Wq E H locs 14 ls [] := by
  intro n
  induction n with
  | zero => intro _ _ _ _ _ _ _ _ hW hl hF; cases hF
  | succ n ih => intro _ _ _ _ _ _ _ _ hW hl hF; exact wX6_putAt_14s Cx hret ih hW hl hF
def FX6_putAt (B : Blk) (l1 : Int32) (l2 : Int32) : Option Blk :=
  ld (B 1) 356 ((172 : Int32) + l1) fun v1 =>
  FX6_putAt_14 fu l1 l2 v1 (0 : Int32) B
set_option maxRecDepth 100000 in
set_option maxHeartbeats 4000000 in
theorem wX6_putAt {E : WE} {V : VT} {A : Nat → Prop} {H0 : Heap} {M : Mem} (Cx : CX E RX6 cX6_putAt 6 0 0) {B' : Blk} (hret : RetV E V A H0 cX6_putAt (jb M 12 B')) {H : Heap} {locs : List Loc} {ls : Array Slot} {l1 : Int32} {l2 : Int32} {B : Blk} (hW : Wd V A H0 (jb M 12 B) (eS E) H locs) (hl : lv_has ls 6 [(0, .ref (vA V 12 0)), (1, .int l1), (2, .int l2)]) (hF : FX6_putAt B l1 l2 = some B') : Wq E H locs 0 ls [] := by
  unfold FX6_putAt at hF
  refine q_aload_n Cx dX6_putAt_0 rfl (lv_at hl 0 rfl) ?_
  refine q_get (v := .ref (vA V 12 1)) Cx hW oZ ic6 0 (by decide) rfl wd_714 dX6_putAt_1 ?_
  refine q_sipush (v := (172 : Int32)) Cx dX6_putAt_4 (by decide) ?_
  refine q_iload_n Cx dX6_putAt_7 rfl (lv_at hl 1 rfl) ?_
  refine q_iadd Cx dX6_putAt_8 ?_
  obtain ⟨h2, v1, e3, hF⟩ := ld_some hF
  refine qb_iald Cx hW az_1 h2 e3 dX6_putAt_9 ?_
  refine q_istore_n (lv' := [(3, .int v1), (0, .ref (vA V 12 0)), (1, .int l1), (2, .int l2)]) Cx dX6_putAt_10 rfl hl (by decide) rfl (fun ls hl => ?_)
  refine q_iconst (v := (0 : Int32)) Cx dX6_putAt_11 (by decide) ?_
  refine q_istore (lv' := [(4, .int (0 : Int32)), (3, .int v1), (0, .ref (vA V 12 0)), (1, .int l1), (2, .int l2)]) Cx dX6_putAt_12 hl (by decide) rfl (fun ls hl => ?_)
  exact wX6_putAt_14 Cx hret fu hW (lv_sub hl [2, 3, 4, 1, 0] rfl) hF
set_option maxRecDepth 100000 in
theorem kX6_putAt {l : Launch} {V : VT} {M : Mem} {B : Blk} {l1 : Int32} {l2 : Int32} {B' : Blk} (hF : FX6_putAt B l1 l2 = some B') : MetV l V yX6_putAt cX6_putAt 6 ({ frames := 0, cells := 0, slots := 0, locals := 0 } : Room) [.ref (vA V 12 0), .int l1, .int l2] (jb M 12 B) (jb M 12 B') := metV_of (by decide) (Nat.le_of_ble_eq_true rfl) (fun E H0 _ Cx hret H locs ls hW hl => wX6_putAt Cx hret hW hl hF)
theorem dX6_move_0 : decode cX6_move 0 = .ok (.aload_n 0, 1) := by decide +kernel
theorem dX6_move_1 : decode cX6_move 1 = .ok (.iload_n 1, 1) := by decide +kernel
theorem dX6_move_2 : decode cX6_move 2 = .ok (.invokevirtual 89, 3) := by decide +kernel
theorem dX6_move_5 : decode cX6_move 5 = .ok (.ifCond .eq 25, 3) := by decide +kernel
theorem dX6_move_8 : decode cX6_move 8 = .ok (.iload_n 2, 1) := by decide +kernel
theorem dX6_move_9 : decode cX6_move 9 = .ok (.iconst 0, 1) := by decide +kernel
theorem dX6_move_10 : decode cX6_move 10 = .ok (.aload_n 0, 1) := by decide +kernel
theorem dX6_move_11 : decode cX6_move 11 = .ok (.aload_n 0, 1) := by decide +kernel
theorem dX6_move_12 : decode cX6_move 12 = .ok (.getfield 7, 3) := by decide +kernel
theorem dX6_move_15 : decode cX6_move 15 = .ok (.iconst 4, 1) := by decide +kernel
theorem dX6_move_16 : decode cX6_move 16 = .ok (.iload_n 1, 1) := by decide +kernel
theorem dX6_move_17 : decode cX6_move 17 = .ok (.iadd, 1) := by decide +kernel
theorem dX6_move_18 : decode cX6_move 18 = .ok (.iaload, 1) := by decide +kernel
theorem dX6_move_19 : decode cX6_move 19 = .ok (.invokevirtual 94, 3) := by decide +kernel
theorem dX6_move_22 : decode cX6_move 22 = .ok (.iconst 1, 1) := by decide +kernel
theorem dX6_move_23 : decode cX6_move 23 = .ok (.isub, 1) := by decide +kernel
theorem dX6_move_24 : decode cX6_move 24 = .ok (.invokestatic 56, 3) := by decide +kernel
theorem dX6_move_27 : decode cX6_move 27 = .ok (.ifCond .ne 5, 3) := by decide +kernel
theorem dX6_move_30 : decode cX6_move 30 = .ok (.iconst (-1), 1) := by decide +kernel
theorem dX6_move_31 : decode cX6_move 31 = .ok (.ireturn, 1) := by decide +kernel
theorem dX6_move_32 : decode cX6_move 32 = .ok (.aload_n 0, 1) := by decide +kernel
theorem dX6_move_33 : decode cX6_move 33 = .ok (.getfield 7, 3) := by decide +kernel
theorem dX6_move_36 : decode cX6_move 36 = .ok (.sipush 172, 3) := by decide +kernel
theorem dX6_move_39 : decode cX6_move 39 = .ok (.iload_n 1, 1) := by decide +kernel
theorem dX6_move_40 : decode cX6_move 40 = .ok (.iadd, 1) := by decide +kernel
theorem dX6_move_41 : decode cX6_move 41 = .ok (.iaload, 1) := by decide +kernel
theorem dX6_move_42 : decode cX6_move 42 = .ok (.istore_n 3, 1) := by decide +kernel
theorem dX6_move_43 : decode cX6_move 43 = .ok (.aload_n 0, 1) := by decide +kernel
theorem dX6_move_44 : decode cX6_move 44 = .ok (.iload_n 1, 1) := by decide +kernel
theorem dX6_move_45 : decode cX6_move 45 = .ok (.iload_n 2, 1) := by decide +kernel
theorem dX6_move_46 : decode cX6_move 46 = .ok (.invokevirtual 97, 3) := by decide +kernel
theorem dX6_move_49 : decode cX6_move 49 = .ok (.aload_n 0, 1) := by decide +kernel
theorem dX6_move_50 : decode cX6_move 50 = .ok (.invokevirtual 77, 3) := by decide +kernel
theorem dX6_move_53 : decode cX6_move 53 = .ok (.istore 4, 2) := by decide +kernel
theorem dX6_move_55 : decode cX6_move 55 = .ok (.aload_n 0, 1) := by decide +kernel
theorem dX6_move_56 : decode cX6_move 56 = .ok (.iload_n 1, 1) := by decide +kernel
theorem dX6_move_57 : decode cX6_move 57 = .ok (.iload_n 3, 1) := by decide +kernel
theorem dX6_move_58 : decode cX6_move 58 = .ok (.invokevirtual 97, 3) := by decide +kernel
theorem dX6_move_61 : decode cX6_move 61 = .ok (.iload 4, 2) := by decide +kernel
theorem dX6_move_63 : decode cX6_move 63 = .ok (.ifCond .ne 6, 3) := by decide +kernel
theorem dX6_move_66 : decode cX6_move 66 = .ok (.bipush (-5), 2) := by decide +kernel
theorem dX6_move_68 : decode cX6_move 68 = .ok (.ireturn, 1) := by decide +kernel
theorem dX6_move_69 : decode cX6_move 69 = .ok (.aload_n 0, 1) := by decide +kernel
theorem dX6_move_70 : decode cX6_move 70 = .ok (.invokevirtual 60, 3) := by decide +kernel
theorem dX6_move_73 : decode cX6_move 73 = .ok (.aload_n 0, 1) := by decide +kernel
theorem dX6_move_74 : decode cX6_move 74 = .ok (.iload_n 1, 1) := by decide +kernel
theorem dX6_move_75 : decode cX6_move 75 = .ok (.iload_n 2, 1) := by decide +kernel
theorem dX6_move_76 : decode cX6_move 76 = .ok (.invokevirtual 97, 3) := by decide +kernel
theorem dX6_move_79 : decode cX6_move 79 = .ok (.iload_n 3, 1) := by decide +kernel
theorem dX6_move_80 : decode cX6_move 80 = .ok (.ireturn, 1) := by decide +kernel
theorem okX6_move : CalOK yX6_move cX6_move 5 (some .int) 2 := ⟨wd_73, wd_815, by decide +kernel⟩
theorem ovX6_move : VirOK yX6_move := ⟨wd_813, wd_814⟩
def FX6_move (B : Blk) (l1 : Int32) (l2 : Int32) : Option (Int32 × Blk) :=
  c1 (FX6_isTask B l1) fun r1 =>
  if r1 = 0 then
    some ((-1 : Int32), B)
  else
    ld (B 1) 356 ((4 : Int32) + l1) fun v4 =>
    c1 (FX6_manyOn B v4) fun r7 =>
    c1 (FX6_in l2 (0 : Int32) (r7 - (1 : Int32))) fun r9 =>
    if r9 = 0 then
      some ((-1 : Int32), B)
    else
      ld (B 1) 356 ((172 : Int32) + l1) fun v12 =>
      c1 (FX6_putAt B l1 l2) fun B17 =>
      c2 (FX6_reckon B17) fun r18 B20 =>
      c1 (FX6_putAt B20 l1 v12) fun B23 =>
      if r18 = 0 then
        some ((-5 : Int32), B23)
      else
        c1 (FX6_record B23) fun B27 =>
        c1 (FX6_putAt B27 l1 l2) fun B30 =>
        some (v12, B30)
set_option maxRecDepth 100000 in
set_option maxHeartbeats 4000000 in
theorem wX6_move {E : WE} {V : VT} {A : Nat → Prop} {H0 : Heap} {M : Mem} (Cx : CX E RX6 cX6_move 5 2 51) {r : Int32} {B' : Blk} (hret : RetI E V A H0 cX6_move .int r (jb M 12 B')) {H : Heap} {locs : List Loc} {ls : Array Slot} {l1 : Int32} {l2 : Int32} {B : Blk} (hW : Wd V A H0 (jb M 12 B) (eS E) H locs) (hl : lv_has ls 5 [(0, .ref (vA V 12 0)), (1, .int l1), (2, .int l2)]) (hF : FX6_move B l1 l2 = some (r, B')) : Wq E H locs 0 ls [] := by
  unfold FX6_move at hF
  refine q_aload_n Cx dX6_move_0 rfl (lv_at hl 0 rfl) ?_
  refine q_iload_n Cx dX6_move_1 rfl (lv_at hl 1 rfl) ?_
  obtain ⟨r1, e2, hF⟩ := c1_some hF
  refine q_callI (as := [.int l1]) (rest := []) Cx (kX6_isTask e2) okX6_isTask ovX6_isTask wd_799 ⟨rfl, rfl, by decide, by decide⟩ hW oZ ic6 rfl hl.1 (Nat.le_of_ble_eq_true rfl) rfl dX6_move_2 (fun H locs hW => ?_)
  refine q_if_eq (tgt := 30) Cx dX6_move_5 (by decide) (fun c3 => ?_) (fun c3 => ?_)
  · have hF := (if_pos c3).symm.trans hF
    refine q_iconst (v := (-1 : Int32)) Cx dX6_move_30 (by decide) ?_
    obtain ⟨rfl, rfl⟩ := Prod.mk.inj (Option.some.inj hF)
    exact hret _ _ _ _ dX6_move_31 (nI32 _) hW
  · have hF := (if_neg c3).symm.trans hF
    refine q_iload_n Cx dX6_move_8 rfl (lv_at hl 2 rfl) ?_
    refine q_iconst (v := (0 : Int32)) Cx dX6_move_9 (by decide) ?_
    refine q_aload_n Cx dX6_move_10 rfl (lv_at hl 0 rfl) ?_
    refine q_aload_n Cx dX6_move_11 rfl (lv_at hl 0 rfl) ?_
    refine q_get (v := .ref (vA V 12 1)) Cx hW oZ ic6 0 (by decide) rfl wd_714 dX6_move_12 ?_
    refine q_iconst (v := (4 : Int32)) Cx dX6_move_15 (by decide) ?_
    refine q_iload_n Cx dX6_move_16 rfl (lv_at hl 1 rfl) ?_
    refine q_iadd Cx dX6_move_17 ?_
    obtain ⟨h5, v4, e6, hF⟩ := ld_some hF
    refine qb_iald Cx hW az_1 h5 e6 dX6_move_18 ?_
    obtain ⟨r7, e8, hF⟩ := c1_some hF
    refine q_callI (as := [.int v4]) (rest := [.int (0 : Int32), .int l2]) Cx (kX6_manyOn e8) okX6_manyOn ovX6_manyOn wd_804 ⟨rfl, rfl, by decide, by decide⟩ hW oZ ic6 rfl hl.1 (Nat.le_of_ble_eq_true rfl) rfl dX6_move_19 (fun H locs hW => ?_)
    refine q_iconst (v := (1 : Int32)) Cx dX6_move_22 (by decide) ?_
    refine q_isub Cx dX6_move_23 ?_
    obtain ⟨r9, e10, hF⟩ := c1_some hF
    refine q_callSI (as := [.int l2, .int (0 : Int32), .int (r7 - (1 : Int32))]) (rest := []) Cx (kX6_in e10) okX6_in osX6_in rfl wd_780 ⟨rfl, rfl, by decide, by decide⟩ hW rfl hl.1 (Nat.le_of_ble_eq_true rfl) rfl dX6_move_24 (fun H locs hW => ?_)
    refine q_if_ne (tgt := 32) Cx dX6_move_27 (by decide) (fun c11 => ?_) (fun c11 => ?_)
    · have hF := (if_neg c11).symm.trans hF
      refine q_aload_n Cx dX6_move_32 rfl (lv_at hl 0 rfl) ?_
      refine q_get (v := .ref (vA V 12 1)) Cx hW oZ ic6 0 (by decide) rfl wd_714 dX6_move_33 ?_
      refine q_sipush (v := (172 : Int32)) Cx dX6_move_36 (by decide) ?_
      refine q_iload_n Cx dX6_move_39 rfl (lv_at hl 1 rfl) ?_
      refine q_iadd Cx dX6_move_40 ?_
      obtain ⟨h13, v12, e14, hF⟩ := ld_some hF
      refine qb_iald Cx hW az_1 h13 e14 dX6_move_41 ?_
      refine q_istore_n (lv' := [(3, .int v12), (0, .ref (vA V 12 0)), (1, .int l1), (2, .int l2)]) Cx dX6_move_42 rfl hl (by decide) rfl (fun ls hl => ?_)
      refine q_aload_n Cx dX6_move_43 rfl (lv_at hl 1 rfl) ?_
      refine q_iload_n Cx dX6_move_44 rfl (lv_at hl 2 rfl) ?_
      refine q_iload_n Cx dX6_move_45 rfl (lv_at hl 3 rfl) ?_
      obtain ⟨B17, e16, hF⟩ := c1_some hF
      refine q_callV (as := [.int l1, .int l2]) (rest := []) Cx (kX6_putAt e16) okX6_putAt ovX6_putAt wd_816 ⟨rfl, rfl, by decide, by decide⟩ hW oZ ic6 rfl hl.1 (Nat.le_of_ble_eq_true rfl) rfl dX6_move_46 (fun H locs hW => ?_)
      refine q_aload_n Cx dX6_move_49 rfl (lv_at hl 1 rfl) ?_
      obtain ⟨r18, B20, e19, hF⟩ := c2_some hF
      refine q_callI (as := []) (rest := []) Cx (kX6_reckon e19) okX6_reckon ovX6_reckon wd_820 ⟨rfl, rfl, by decide, by decide⟩ hW oZ ic6 rfl hl.1 (Nat.le_of_ble_eq_true rfl) rfl dX6_move_50 (fun H locs hW => ?_)
      refine q_istore (lv' := [(4, .int r18), (3, .int v12), (0, .ref (vA V 12 0)), (1, .int l1), (2, .int l2)]) Cx dX6_move_53 hl (by decide) rfl (fun ls hl => ?_)
      refine q_aload_n Cx dX6_move_55 rfl (lv_at hl 2 rfl) ?_
      refine q_iload_n Cx dX6_move_56 rfl (lv_at hl 3 rfl) ?_
      refine q_iload_n Cx dX6_move_57 rfl (lv_at hl 1 rfl) ?_
      obtain ⟨B23, e22, hF⟩ := c1_some hF
      refine q_callV (as := [.int l1, .int v12]) (rest := []) Cx (kX6_putAt e22) okX6_putAt ovX6_putAt wd_816 ⟨rfl, rfl, by decide, by decide⟩ hW oZ ic6 rfl hl.1 (Nat.le_of_ble_eq_true rfl) rfl dX6_move_58 (fun H locs hW => ?_)
      refine q_iload Cx dX6_move_61 (lv_at hl 0 rfl) ?_
      refine q_if_ne (tgt := 69) Cx dX6_move_63 (by decide) (fun c24 => ?_) (fun c24 => ?_)
      · have hF := (if_neg c24).symm.trans hF
        refine q_aload_n Cx dX6_move_69 rfl (lv_at hl 2 rfl) ?_
        obtain ⟨B27, e26, hF⟩ := c1_some hF
        refine q_callV (as := []) (rest := []) Cx (kX6_record e26) okX6_record ovX6_record wd_787 ⟨rfl, rfl, by decide, by decide⟩ hW oZ ic6 rfl hl.1 (Nat.le_of_ble_eq_true rfl) rfl dX6_move_70 (fun H locs hW => ?_)
        refine q_aload_n Cx dX6_move_73 rfl (lv_at hl 2 rfl) ?_
        refine q_iload_n Cx dX6_move_74 rfl (lv_at hl 3 rfl) ?_
        refine q_iload_n Cx dX6_move_75 rfl (lv_at hl 4 rfl) ?_
        obtain ⟨B30, e29, hF⟩ := c1_some hF
        refine q_callV (as := [.int l1, .int l2]) (rest := []) Cx (kX6_putAt e29) okX6_putAt ovX6_putAt wd_816 ⟨rfl, rfl, by decide, by decide⟩ hW oZ ic6 rfl hl.1 (Nat.le_of_ble_eq_true rfl) rfl dX6_move_76 (fun H locs hW => ?_)
        refine q_iload_n Cx dX6_move_79 rfl (lv_at hl 1 rfl) ?_
        obtain ⟨rfl, rfl⟩ := Prod.mk.inj (Option.some.inj hF)
        exact hret _ _ _ _ dX6_move_80 (nI32 _) hW
      · have hF := (if_pos c24).symm.trans hF
        refine q_bipush (v := (-5 : Int32)) Cx dX6_move_66 (by decide) ?_
        obtain ⟨rfl, rfl⟩ := Prod.mk.inj (Option.some.inj hF)
        exact hret _ _ _ _ dX6_move_68 (nI32 _) hW
    · have hF := (if_pos c11).symm.trans hF
      refine q_iconst (v := (-1 : Int32)) Cx dX6_move_30 (by decide) ?_
      obtain ⟨rfl, rfl⟩ := Prod.mk.inj (Option.some.inj hF)
      exact hret _ _ _ _ dX6_move_31 (nI32 _) hW
set_option maxRecDepth 100000 in
theorem kX6_move {l : Launch} {V : VT} {M : Mem} {B : Blk} {l1 : Int32} {l2 : Int32} {r : Int32} {B' : Blk} (hF : FX6_move B l1 l2 = some (r, B')) : MetI l V yX6_move cX6_move 5 .int ({ frames := 2, cells := 0, slots := 0, locals := 51 } : Room) [.ref (vA V 12 0), .int l1, .int l2] r (jb M 12 B) (jb M 12 B') := metI_of (by decide) (Nat.le_of_ble_eq_true rfl) (fun E H0 _ Cx hret H locs ls hW hl => wX6_move Cx hret hW hl hF)
theorem dX6_areLinked_0 : decode cX6_areLinked 0 = .ok (.aload_n 0, 1) := by decide +kernel
theorem dX6_areLinked_1 : decode cX6_areLinked 1 = .ok (.getfield 7, 3) := by decide +kernel
theorem dX6_areLinked_4 : decode cX6_areLinked 4 = .ok (.iconst 4, 1) := by decide +kernel
theorem dX6_areLinked_5 : decode cX6_areLinked 5 = .ok (.iload_n 1, 1) := by decide +kernel
theorem dX6_areLinked_6 : decode cX6_areLinked 6 = .ok (.iadd, 1) := by decide +kernel
theorem dX6_areLinked_7 : decode cX6_areLinked 7 = .ok (.iaload, 1) := by decide +kernel
theorem dX6_areLinked_8 : decode cX6_areLinked 8 = .ok (.aload_n 0, 1) := by decide +kernel
theorem dX6_areLinked_9 : decode cX6_areLinked 9 = .ok (.getfield 7, 3) := by decide +kernel
theorem dX6_areLinked_12 : decode cX6_areLinked 12 = .ok (.iconst 4, 1) := by decide +kernel
theorem dX6_areLinked_13 : decode cX6_areLinked 13 = .ok (.iload_n 2, 1) := by decide +kernel
theorem dX6_areLinked_14 : decode cX6_areLinked 14 = .ok (.iadd, 1) := by decide +kernel
theorem dX6_areLinked_15 : decode cX6_areLinked 15 = .ok (.iaload, 1) := by decide +kernel
theorem dX6_areLinked_16 : decode cX6_areLinked 16 = .ok (.if_icmp .eq 29, 3) := by decide +kernel
theorem dX6_areLinked_19 : decode cX6_areLinked 19 = .ok (.aload_n 0, 1) := by decide +kernel
theorem dX6_areLinked_20 : decode cX6_areLinked 20 = .ok (.getfield 7, 3) := by decide +kernel
theorem dX6_areLinked_23 : decode cX6_areLinked 23 = .ok (.bipush 100, 2) := by decide +kernel
theorem dX6_areLinked_25 : decode cX6_areLinked 25 = .ok (.iload_n 1, 1) := by decide +kernel
theorem dX6_areLinked_26 : decode cX6_areLinked 26 = .ok (.iadd, 1) := by decide +kernel
theorem dX6_areLinked_27 : decode cX6_areLinked 27 = .ok (.iaload, 1) := by decide +kernel
theorem dX6_areLinked_28 : decode cX6_areLinked 28 = .ok (.iload_n 2, 1) := by decide +kernel
theorem dX6_areLinked_29 : decode cX6_areLinked 29 = .ok (.if_icmp .eq 16, 3) := by decide +kernel
theorem dX6_areLinked_32 : decode cX6_areLinked 32 = .ok (.aload_n 0, 1) := by decide +kernel
theorem dX6_areLinked_33 : decode cX6_areLinked 33 = .ok (.getfield 7, 3) := by decide +kernel
theorem dX6_areLinked_36 : decode cX6_areLinked 36 = .ok (.bipush 100, 2) := by decide +kernel
theorem dX6_areLinked_38 : decode cX6_areLinked 38 = .ok (.iload_n 2, 1) := by decide +kernel
theorem dX6_areLinked_39 : decode cX6_areLinked 39 = .ok (.iadd, 1) := by decide +kernel
theorem dX6_areLinked_40 : decode cX6_areLinked 40 = .ok (.iaload, 1) := by decide +kernel
theorem dX6_areLinked_41 : decode cX6_areLinked 41 = .ok (.iload_n 1, 1) := by decide +kernel
theorem dX6_areLinked_42 : decode cX6_areLinked 42 = .ok (.if_icmp .ne 7, 3) := by decide +kernel
theorem dX6_areLinked_45 : decode cX6_areLinked 45 = .ok (.iconst 1, 1) := by decide +kernel
theorem dX6_areLinked_46 : decode cX6_areLinked 46 = .ok (.goto 4, 3) := by decide +kernel
theorem dX6_areLinked_49 : decode cX6_areLinked 49 = .ok (.iconst 0, 1) := by decide +kernel
theorem dX6_areLinked_50 : decode cX6_areLinked 50 = .ok (.ireturn, 1) := by decide +kernel
theorem okX6_areLinked : CalOK yX6_areLinked cX6_areLinked 3 (some .boolean) 2 := ⟨wd_73, wd_843, by decide +kernel⟩
theorem ovX6_areLinked : VirOK yX6_areLinked := ⟨wd_842, wd_33⟩
def FX6_areLinked (B : Blk) (l1 : Int32) (l2 : Int32) : Option Int32 :=
  ld (B 1) 356 ((4 : Int32) + l1) fun v1 =>
  ld (B 1) 356 ((4 : Int32) + l2) fun v4 =>
  if v1 = v4 then
    some (1 : Int32)
  else
    ld (B 1) 356 ((100 : Int32) + l1) fun v8 =>
    if v8 = l2 then
      some (1 : Int32)
    else
      ld (B 1) 356 ((100 : Int32) + l2) fun v12 =>
      if v12 = l1 then
        some (1 : Int32)
      else
        some (0 : Int32)
set_option maxRecDepth 100000 in
set_option maxHeartbeats 4000000 in
theorem wX6_areLinked {E : WE} {V : VT} {A : Nat → Prop} {H0 : Heap} {M : Mem} (Cx : CX E RX6 cX6_areLinked 3 0 0) {r : Int32} {B : Blk} (hret : RetI E V A H0 cX6_areLinked .boolean r (jb M 12 B)) {H : Heap} {locs : List Loc} {ls : Array Slot} {l1 : Int32} {l2 : Int32} (hW : Wd V A H0 (jb M 12 B) (eS E) H locs) (hl : lv_has ls 3 [(0, .ref (vA V 12 0)), (1, .int l1), (2, .int l2)]) (hF : FX6_areLinked B l1 l2 = some r) : Wq E H locs 0 ls [] := by
  unfold FX6_areLinked at hF
  refine q_aload_n Cx dX6_areLinked_0 rfl (lv_at hl 0 rfl) ?_
  refine q_get (v := .ref (vA V 12 1)) Cx hW oZ ic6 0 (by decide) rfl wd_714 dX6_areLinked_1 ?_
  refine q_iconst (v := (4 : Int32)) Cx dX6_areLinked_4 (by decide) ?_
  refine q_iload_n Cx dX6_areLinked_5 rfl (lv_at hl 1 rfl) ?_
  refine q_iadd Cx dX6_areLinked_6 ?_
  obtain ⟨h2, v1, e3, hF⟩ := ld_some hF
  refine qb_iald Cx hW az_1 h2 e3 dX6_areLinked_7 ?_
  refine q_aload_n Cx dX6_areLinked_8 rfl (lv_at hl 0 rfl) ?_
  refine q_get (v := .ref (vA V 12 1)) Cx hW oZ ic6 0 (by decide) rfl wd_714 dX6_areLinked_9 ?_
  refine q_iconst (v := (4 : Int32)) Cx dX6_areLinked_12 (by decide) ?_
  refine q_iload_n Cx dX6_areLinked_13 rfl (lv_at hl 2 rfl) ?_
  refine q_iadd Cx dX6_areLinked_14 ?_
  obtain ⟨h5, v4, e6, hF⟩ := ld_some hF
  refine qb_iald Cx hW az_1 h5 e6 dX6_areLinked_15 ?_
  refine q_icmp_eq (tgt := 45) Cx dX6_areLinked_16 (by decide) (fun c7 => ?_) (fun c7 => ?_)
  · have hF := (if_pos c7).symm.trans hF
    refine q_iconst (v := (1 : Int32)) Cx dX6_areLinked_45 (by decide) ?_
    refine q_goto (tgt := 50) Cx dX6_areLinked_46 (by decide) ?_
    obtain rfl := Option.some.inj hF
    exact hret _ _ _ _ dX6_areLinked_50 (by rfl) hW
  · have hF := (if_neg c7).symm.trans hF
    refine q_aload_n Cx dX6_areLinked_19 rfl (lv_at hl 0 rfl) ?_
    refine q_get (v := .ref (vA V 12 1)) Cx hW oZ ic6 0 (by decide) rfl wd_714 dX6_areLinked_20 ?_
    refine q_bipush (v := (100 : Int32)) Cx dX6_areLinked_23 (by decide) ?_
    refine q_iload_n Cx dX6_areLinked_25 rfl (lv_at hl 1 rfl) ?_
    refine q_iadd Cx dX6_areLinked_26 ?_
    obtain ⟨h9, v8, e10, hF⟩ := ld_some hF
    refine qb_iald Cx hW az_1 h9 e10 dX6_areLinked_27 ?_
    refine q_iload_n Cx dX6_areLinked_28 rfl (lv_at hl 2 rfl) ?_
    refine q_icmp_eq (tgt := 45) Cx dX6_areLinked_29 (by decide) (fun c11 => ?_) (fun c11 => ?_)
    · have hF := (if_pos c11).symm.trans hF
      refine q_iconst (v := (1 : Int32)) Cx dX6_areLinked_45 (by decide) ?_
      refine q_goto (tgt := 50) Cx dX6_areLinked_46 (by decide) ?_
      obtain rfl := Option.some.inj hF
      exact hret _ _ _ _ dX6_areLinked_50 (by rfl) hW
    · have hF := (if_neg c11).symm.trans hF
      refine q_aload_n Cx dX6_areLinked_32 rfl (lv_at hl 0 rfl) ?_
      refine q_get (v := .ref (vA V 12 1)) Cx hW oZ ic6 0 (by decide) rfl wd_714 dX6_areLinked_33 ?_
      refine q_bipush (v := (100 : Int32)) Cx dX6_areLinked_36 (by decide) ?_
      refine q_iload_n Cx dX6_areLinked_38 rfl (lv_at hl 2 rfl) ?_
      refine q_iadd Cx dX6_areLinked_39 ?_
      obtain ⟨h13, v12, e14, hF⟩ := ld_some hF
      refine qb_iald Cx hW az_1 h13 e14 dX6_areLinked_40 ?_
      refine q_iload_n Cx dX6_areLinked_41 rfl (lv_at hl 1 rfl) ?_
      refine q_icmp_ne (tgt := 49) Cx dX6_areLinked_42 (by decide) (fun c15 => ?_) (fun c15 => ?_)
      · have hF := (if_neg c15).symm.trans hF
        refine q_iconst (v := (0 : Int32)) Cx dX6_areLinked_49 (by decide) ?_
        obtain rfl := Option.some.inj hF
        exact hret _ _ _ _ dX6_areLinked_50 (by rfl) hW
      · have hF := (if_pos c15).symm.trans hF
        refine q_iconst (v := (1 : Int32)) Cx dX6_areLinked_45 (by decide) ?_
        refine q_goto (tgt := 50) Cx dX6_areLinked_46 (by decide) ?_
        obtain rfl := Option.some.inj hF
        exact hret _ _ _ _ dX6_areLinked_50 (by rfl) hW
set_option maxRecDepth 100000 in
theorem kX6_areLinked {l : Launch} {V : VT} {M : Mem} {B : Blk} {l1 : Int32} {l2 : Int32} {r : Int32} (hF : FX6_areLinked B l1 l2 = some r) : MetI l V yX6_areLinked cX6_areLinked 3 .boolean ({ frames := 0, cells := 0, slots := 0, locals := 0 } : Room) [.ref (vA V 12 0), .int l1, .int l2] r (jb M 12 B) (jb M 12 B) := metI_of (by decide) (Nat.le_of_ble_eq_true rfl) (fun E H0 _ Cx hret H locs ls hW hl => wX6_areLinked Cx hret hW hl hF)
theorem dX6_measure_0 : decode cX6_measure 0 = .ok (.iconst 0, 1) := by decide +kernel
theorem dX6_measure_1 : decode cX6_measure 1 = .ok (.istore_n 2, 1) := by decide +kernel
theorem dX6_measure_2 : decode cX6_measure 2 = .ok (.iload_n 2, 1) := by decide +kernel
theorem dX6_measure_3 : decode cX6_measure 3 = .ok (.aload_n 0, 1) := by decide +kernel
theorem dX6_measure_4 : decode cX6_measure 4 = .ok (.getfield 7, 3) := by decide +kernel
theorem dX6_measure_7 : decode cX6_measure 7 = .ok (.iconst 0, 1) := by decide +kernel
theorem dX6_measure_8 : decode cX6_measure 8 = .ok (.iaload, 1) := by decide +kernel
theorem dX6_measure_9 : decode cX6_measure 9 = .ok (.if_icmp .ge 26, 3) := by decide +kernel
theorem dX6_measure_12 : decode cX6_measure 12 = .ok (.aload_n 0, 1) := by decide +kernel
theorem dX6_measure_13 : decode cX6_measure 13 = .ok (.getfield 40, 3) := by decide +kernel
theorem dX6_measure_16 : decode cX6_measure 16 = .ok (.iload_n 2, 1) := by decide +kernel
theorem dX6_measure_17 : decode cX6_measure 17 = .ok (.iload_n 2, 1) := by decide +kernel
theorem dX6_measure_18 : decode cX6_measure 18 = .ok (.iload_n 1, 1) := by decide +kernel
theorem dX6_measure_19 : decode cX6_measure 19 = .ok (.if_icmp .ne 7, 3) := by decide +kernel
theorem dX6_measure_22 : decode cX6_measure 22 = .ok (.iconst 0, 1) := by decide +kernel
theorem dX6_measure_23 : decode cX6_measure 23 = .ok (.goto 5, 3) := by decide +kernel
theorem dX6_measure_26 : decode cX6_measure 26 = .ok (.bipush (-6), 2) := by decide +kernel
theorem dX6_measure_28 : decode cX6_measure 28 = .ok (.iastore, 1) := by decide +kernel
theorem dX6_measure_29 : decode cX6_measure 29 = .ok (.iinc 2 1, 3) := by decide +kernel
theorem dX6_measure_32 : decode cX6_measure 32 = .ok (.goto (-30), 3) := by decide +kernel
theorem dX6_measure_35 : decode cX6_measure 35 = .ok (.iconst 0, 1) := by decide +kernel
theorem dX6_measure_36 : decode cX6_measure 36 = .ok (.istore_n 2, 1) := by decide +kernel
theorem dX6_measure_37 : decode cX6_measure 37 = .ok (.iload_n 2, 1) := by decide +kernel
theorem dX6_measure_38 : decode cX6_measure 38 = .ok (.aload_n 0, 1) := by decide +kernel
theorem dX6_measure_39 : decode cX6_measure 39 = .ok (.getfield 7, 3) := by decide +kernel
theorem dX6_measure_42 : decode cX6_measure 42 = .ok (.iconst 0, 1) := by decide +kernel
theorem dX6_measure_43 : decode cX6_measure 43 = .ok (.iaload, 1) := by decide +kernel
theorem dX6_measure_44 : decode cX6_measure 44 = .ok (.if_icmp .ge 99, 3) := by decide +kernel
theorem dX6_measure_47 : decode cX6_measure 47 = .ok (.iconst 0, 1) := by decide +kernel
theorem dX6_measure_48 : decode cX6_measure 48 = .ok (.istore_n 3, 1) := by decide +kernel
theorem dX6_measure_49 : decode cX6_measure 49 = .ok (.iload_n 3, 1) := by decide +kernel
theorem dX6_measure_50 : decode cX6_measure 50 = .ok (.aload_n 0, 1) := by decide +kernel
theorem dX6_measure_51 : decode cX6_measure 51 = .ok (.getfield 7, 3) := by decide +kernel
theorem dX6_measure_54 : decode cX6_measure 54 = .ok (.iconst 0, 1) := by decide +kernel
theorem dX6_measure_55 : decode cX6_measure 55 = .ok (.iaload, 1) := by decide +kernel
theorem dX6_measure_56 : decode cX6_measure 56 = .ok (.if_icmp .ge 81, 3) := by decide +kernel
theorem dX6_measure_59 : decode cX6_measure 59 = .ok (.iconst 0, 1) := by decide +kernel
theorem dX6_measure_60 : decode cX6_measure 60 = .ok (.istore 4, 2) := by decide +kernel
theorem dX6_measure_62 : decode cX6_measure 62 = .ok (.iload 4, 2) := by decide +kernel
theorem dX6_measure_64 : decode cX6_measure 64 = .ok (.aload_n 0, 1) := by decide +kernel
theorem dX6_measure_65 : decode cX6_measure 65 = .ok (.getfield 7, 3) := by decide +kernel
theorem dX6_measure_68 : decode cX6_measure 68 = .ok (.iconst 0, 1) := by decide +kernel
theorem dX6_measure_69 : decode cX6_measure 69 = .ok (.iaload, 1) := by decide +kernel
theorem dX6_measure_70 : decode cX6_measure 70 = .ok (.if_icmp .ge 61, 3) := by decide +kernel
theorem dX6_measure_73 : decode cX6_measure 73 = .ok (.aload_n 0, 1) := by decide +kernel
theorem dX6_measure_74 : decode cX6_measure 74 = .ok (.getfield 40, 3) := by decide +kernel
theorem dX6_measure_77 : decode cX6_measure 77 = .ok (.iload_n 3, 1) := by decide +kernel
theorem dX6_measure_78 : decode cX6_measure 78 = .ok (.iaload, 1) := by decide +kernel
theorem dX6_measure_79 : decode cX6_measure 79 = .ok (.iload_n 2, 1) := by decide +kernel
theorem dX6_measure_80 : decode cX6_measure 80 = .ok (.if_icmp .ne 51, 3) := by decide +kernel
theorem dX6_measure_83 : decode cX6_measure 83 = .ok (.aload_n 0, 1) := by decide +kernel
theorem dX6_measure_84 : decode cX6_measure 84 = .ok (.getfield 40, 3) := by decide +kernel
theorem dX6_measure_87 : decode cX6_measure 87 = .ok (.iload 4, 2) := by decide +kernel
theorem dX6_measure_89 : decode cX6_measure 89 = .ok (.aload_n 0, 1) := by decide +kernel
theorem dX6_measure_90 : decode cX6_measure 90 = .ok (.getfield 40, 3) := by decide +kernel
theorem dX6_measure_93 : decode cX6_measure 93 = .ok (.iload 4, 2) := by decide +kernel
theorem dX6_measure_95 : decode cX6_measure 95 = .ok (.iaload, 1) := by decide +kernel
theorem dX6_measure_96 : decode cX6_measure 96 = .ok (.bipush (-6), 2) := by decide +kernel
theorem dX6_measure_98 : decode cX6_measure 98 = .ok (.if_icmp .ne 19, 3) := by decide +kernel
theorem dX6_measure_101 : decode cX6_measure 101 = .ok (.aload_n 0, 1) := by decide +kernel
theorem dX6_measure_102 : decode cX6_measure 102 = .ok (.iload_n 3, 1) := by decide +kernel
theorem dX6_measure_103 : decode cX6_measure 103 = .ok (.iload 4, 2) := by decide +kernel
theorem dX6_measure_105 : decode cX6_measure 105 = .ok (.invokevirtual 101, 3) := by decide +kernel
theorem dX6_measure_108 : decode cX6_measure 108 = .ok (.ifCond .eq 9, 3) := by decide +kernel
theorem dX6_measure_111 : decode cX6_measure 111 = .ok (.iload_n 2, 1) := by decide +kernel
theorem dX6_measure_112 : decode cX6_measure 112 = .ok (.iconst 1, 1) := by decide +kernel
theorem dX6_measure_113 : decode cX6_measure 113 = .ok (.iadd, 1) := by decide +kernel
theorem dX6_measure_114 : decode cX6_measure 114 = .ok (.goto 10, 3) := by decide +kernel
theorem dX6_measure_117 : decode cX6_measure 117 = .ok (.aload_n 0, 1) := by decide +kernel
theorem dX6_measure_118 : decode cX6_measure 118 = .ok (.getfield 40, 3) := by decide +kernel
theorem dX6_measure_121 : decode cX6_measure 121 = .ok (.iload 4, 2) := by decide +kernel
theorem dX6_measure_123 : decode cX6_measure 123 = .ok (.iaload, 1) := by decide +kernel
theorem dX6_measure_124 : decode cX6_measure 124 = .ok (.iastore, 1) := by decide +kernel
theorem dX6_measure_125 : decode cX6_measure 125 = .ok (.iinc 4 1, 3) := by decide +kernel
theorem dX6_measure_128 : decode cX6_measure 128 = .ok (.goto (-66), 3) := by decide +kernel
theorem dX6_measure_131 : decode cX6_measure 131 = .ok (.iinc 3 1, 3) := by decide +kernel
theorem dX6_measure_134 : decode cX6_measure 134 = .ok (.goto (-85), 3) := by decide +kernel
theorem dX6_measure_137 : decode cX6_measure 137 = .ok (.iinc 2 1, 3) := by decide +kernel
theorem dX6_measure_140 : decode cX6_measure 140 = .ok (.goto (-103), 3) := by decide +kernel
theorem dX6_measure_143 : decode cX6_measure 143 = .ok (.return_, 1) := by decide +kernel
theorem okX6_measure : CalOK yX6_measure cX6_measure 5 (none) 1 := ⟨wd_73, wd_839, by decide +kernel⟩
theorem ovX6_measure : VirOK yX6_measure := ⟨wd_838, wd_32⟩
def FX6_measure_124 (k37 : Int32 → Blk → Option Blk) (k49 : Int32 → Int32 → Blk → Option Blk) (k62 : Int32 → Int32 → Int32 → Blk → Option Blk) (l2 : Int32) (l3 : Int32) (l4 : Int32) (s0 : Int32) (s1 : Int32) (B : Blk) : Option Blk :=
  stb B 9 24 s1 s0 fun B34 =>
  lt1 (l4 + (1 : Int32)) fun x37 =>
  k62 l2 l3 x37 B34
set_option maxRecDepth 100000 in
set_option maxHeartbeats 4000000 in
theorem wX6_measure_124 {E : WE} {V : VT} {A : Nat → Prop} {H0 : Heap} {M : Mem} (Cx : CX E RX6 cX6_measure 5 1 22) {B' : Blk} (hret : RetV E V A H0 cX6_measure (jb M 12 B')) {k37 : Int32 → Blk → Option Blk} (hk37 : ∀ {H : Heap} {locs : List Loc} {ls : Array Slot} {B : Blk} {l2 : Int32}, Wd V A H0 (jb M 12 B) (eS E) H locs → lv_has ls 5 [(0, .ref (vA V 12 0)), (2, .int l2)] → k37 l2 B = some B' → Wq E H locs 37 ls []) {k49 : Int32 → Int32 → Blk → Option Blk} (hk49 : ∀ {H : Heap} {locs : List Loc} {ls : Array Slot} {B : Blk} {l2 : Int32} {l3 : Int32}, Wd V A H0 (jb M 12 B) (eS E) H locs → lv_has ls 5 [(0, .ref (vA V 12 0)), (2, .int l2), (3, .int l3)] → k49 l2 l3 B = some B' → Wq E H locs 49 ls []) {k62 : Int32 → Int32 → Int32 → Blk → Option Blk} (hk62 : ∀ {H : Heap} {locs : List Loc} {ls : Array Slot} {B : Blk} {l2 : Int32} {l3 : Int32} {l4 : Int32}, Wd V A H0 (jb M 12 B) (eS E) H locs → lv_has ls 5 [(0, .ref (vA V 12 0)), (2, .int l2), (3, .int l3), (4, .int l4)] → k62 l2 l3 l4 B = some B' → Wq E H locs 62 ls []) {H : Heap} {locs : List Loc} {ls : Array Slot} {l2 : Int32} {l3 : Int32} {l4 : Int32} {s0 : Int32} {s1 : Int32} {B : Blk} (hW : Wd V A H0 (jb M 12 B) (eS E) H locs) (hl : lv_has ls 5 [(0, .ref (vA V 12 0)), (2, .int l2), (3, .int l3), (4, .int l4)]) (hF : FX6_measure_124 k37 k49 k62 l2 l3 l4 s0 s1 B = some B') : Wq E H locs 124 ls [.int s0, .int s1, .ref (vA V 12 9)] := by
  unfold FX6_measure_124 at hF
  obtain ⟨h35, B34, e36, hF⟩ := stb_some hF
  refine qb_iast Cx hW az_9 h35 e36 dX6_measure_124 (fun H locs hW => ?_)
  obtain ⟨x37, e38, hF⟩ := lt1_some hF
  refine q_iinc (k := 3) (v := x37) (lv' := [(4, .int x37), (0, .ref (vA V 12 0)), (2, .int l2), (3, .int l3)]) Cx dX6_measure_125 hl rfl e38.symm (by decide) rfl (fun ls hl => ?_)
  refine q_goto (tgt := 62) Cx dX6_measure_128 (by decide) ?_
  exact hk62 hW (lv_sub hl [1, 2, 3, 0] rfl) hF
def FX6_measure_117 (k37 : Int32 → Blk → Option Blk) (k49 : Int32 → Int32 → Blk → Option Blk) (k62 : Int32 → Int32 → Int32 → Blk → Option Blk) (l2 : Int32) (l3 : Int32) (l4 : Int32) (s0 : Int32) (B : Blk) : Option Blk :=
  ld (B 9) 24 l4 fun v31 =>
  FX6_measure_124 k37 k49 k62 l2 l3 l4 v31 s0 B
set_option maxRecDepth 100000 in
set_option maxHeartbeats 4000000 in
theorem wX6_measure_117 {E : WE} {V : VT} {A : Nat → Prop} {H0 : Heap} {M : Mem} (Cx : CX E RX6 cX6_measure 5 1 22) {B' : Blk} (hret : RetV E V A H0 cX6_measure (jb M 12 B')) {k37 : Int32 → Blk → Option Blk} (hk37 : ∀ {H : Heap} {locs : List Loc} {ls : Array Slot} {B : Blk} {l2 : Int32}, Wd V A H0 (jb M 12 B) (eS E) H locs → lv_has ls 5 [(0, .ref (vA V 12 0)), (2, .int l2)] → k37 l2 B = some B' → Wq E H locs 37 ls []) {k49 : Int32 → Int32 → Blk → Option Blk} (hk49 : ∀ {H : Heap} {locs : List Loc} {ls : Array Slot} {B : Blk} {l2 : Int32} {l3 : Int32}, Wd V A H0 (jb M 12 B) (eS E) H locs → lv_has ls 5 [(0, .ref (vA V 12 0)), (2, .int l2), (3, .int l3)] → k49 l2 l3 B = some B' → Wq E H locs 49 ls []) {k62 : Int32 → Int32 → Int32 → Blk → Option Blk} (hk62 : ∀ {H : Heap} {locs : List Loc} {ls : Array Slot} {B : Blk} {l2 : Int32} {l3 : Int32} {l4 : Int32}, Wd V A H0 (jb M 12 B) (eS E) H locs → lv_has ls 5 [(0, .ref (vA V 12 0)), (2, .int l2), (3, .int l3), (4, .int l4)] → k62 l2 l3 l4 B = some B' → Wq E H locs 62 ls []) {H : Heap} {locs : List Loc} {ls : Array Slot} {l2 : Int32} {l3 : Int32} {l4 : Int32} {s0 : Int32} {B : Blk} (hW : Wd V A H0 (jb M 12 B) (eS E) H locs) (hl : lv_has ls 5 [(0, .ref (vA V 12 0)), (2, .int l2), (3, .int l3), (4, .int l4)]) (hF : FX6_measure_117 k37 k49 k62 l2 l3 l4 s0 B = some B') : Wq E H locs 117 ls [.int s0, .ref (vA V 12 9)] := by
  unfold FX6_measure_117 at hF
  refine q_aload_n Cx dX6_measure_117 rfl (lv_at hl 0 rfl) ?_
  refine q_get (v := .ref (vA V 12 9)) Cx hW oZ ic6 13 (by decide) rfl wd_727 dX6_measure_118 ?_
  refine q_iload Cx dX6_measure_121 (lv_at hl 3 rfl) ?_
  obtain ⟨h32, v31, e33, hF⟩ := ld_some hF
  refine qb_iald Cx hW az_9 h32 e33 dX6_measure_123 ?_
  exact wX6_measure_124 Cx hret hk37 hk49 hk62 hW (lv_sub hl [0, 1, 2, 3] rfl) hF
def FX6_measure_62s (k37 : Int32 → Blk → Option Blk) (k49 : Int32 → Int32 → Blk → Option Blk) (k62 : Int32 → Int32 → Int32 → Blk → Option Blk) (l2 : Int32) (l3 : Int32) (l4 : Int32) (B : Blk) : Option Blk :=
  ld (B 1) 356 (0 : Int32) fun v15 =>
  if v15 ≤ l4 then
    lt1 (l3 + (1 : Int32)) fun x19 =>
    k49 l2 x19 B
  else
    ld (B 9) 24 l3 fun v21 =>
    if v21 = l2 then
      ld (B 9) 24 l4 fun v27 =>
      if v27 = (-6 : Int32) then
        c1 (FX6_areLinked B l3 l4) fun r39 =>
        if r39 = 0 then
          FX6_measure_117 k37 k49 k62 l2 l3 l4 l4 B
        else
          FX6_measure_124 k37 k49 k62 l2 l3 l4 (l2 + (1 : Int32)) l4 B
      else
        FX6_measure_117 k37 k49 k62 l2 l3 l4 l4 B
    else
      lt1 (l3 + (1 : Int32)) fun x25 =>
      k49 l2 x25 B
set_option maxRecDepth 100000 in
set_option maxHeartbeats 4000000 in
theorem wX6_measure_62s {E : WE} {V : VT} {A : Nat → Prop} {H0 : Heap} {M : Mem} (Cx : CX E RX6 cX6_measure 5 1 22) {B' : Blk} (hret : RetV E V A H0 cX6_measure (jb M 12 B')) {k37 : Int32 → Blk → Option Blk} (hk37 : ∀ {H : Heap} {locs : List Loc} {ls : Array Slot} {B : Blk} {l2 : Int32}, Wd V A H0 (jb M 12 B) (eS E) H locs → lv_has ls 5 [(0, .ref (vA V 12 0)), (2, .int l2)] → k37 l2 B = some B' → Wq E H locs 37 ls []) {k49 : Int32 → Int32 → Blk → Option Blk} (hk49 : ∀ {H : Heap} {locs : List Loc} {ls : Array Slot} {B : Blk} {l2 : Int32} {l3 : Int32}, Wd V A H0 (jb M 12 B) (eS E) H locs → lv_has ls 5 [(0, .ref (vA V 12 0)), (2, .int l2), (3, .int l3)] → k49 l2 l3 B = some B' → Wq E H locs 49 ls []) {k62 : Int32 → Int32 → Int32 → Blk → Option Blk} (hk62 : ∀ {H : Heap} {locs : List Loc} {ls : Array Slot} {B : Blk} {l2 : Int32} {l3 : Int32} {l4 : Int32}, Wd V A H0 (jb M 12 B) (eS E) H locs → lv_has ls 5 [(0, .ref (vA V 12 0)), (2, .int l2), (3, .int l3), (4, .int l4)] → k62 l2 l3 l4 B = some B' → Wq E H locs 62 ls []) {H : Heap} {locs : List Loc} {ls : Array Slot} {l2 : Int32} {l3 : Int32} {l4 : Int32} {B : Blk} (hW : Wd V A H0 (jb M 12 B) (eS E) H locs) (hl : lv_has ls 5 [(0, .ref (vA V 12 0)), (2, .int l2), (3, .int l3), (4, .int l4)]) (hF : FX6_measure_62s k37 k49 k62 l2 l3 l4 B = some B') : Wq E H locs 62 ls [] := by
  unfold FX6_measure_62s at hF
  refine q_iload Cx dX6_measure_62 (lv_at hl 3 rfl) ?_
  refine q_aload_n Cx dX6_measure_64 rfl (lv_at hl 0 rfl) ?_
  refine q_get (v := .ref (vA V 12 1)) Cx hW oZ ic6 0 (by decide) rfl wd_714 dX6_measure_65 ?_
  refine q_iconst (v := (0 : Int32)) Cx dX6_measure_68 (by decide) ?_
  obtain ⟨h16, v15, e17, hF⟩ := ld_some hF
  refine qb_iald Cx hW az_1 h16 e17 dX6_measure_69 ?_
  refine q_icmp_ge (tgt := 131) Cx dX6_measure_70 (by decide) (fun c18 => ?_) (fun c18 => ?_)
  · have hF := (if_pos c18).symm.trans hF
    obtain ⟨x19, e20, hF⟩ := lt1_some hF
    refine q_iinc (k := 2) (v := x19) (lv' := [(3, .int x19), (0, .ref (vA V 12 0)), (2, .int l2), (4, .int l4)]) Cx dX6_measure_131 hl rfl e20.symm (by decide) rfl (fun ls hl => ?_)
    refine q_goto (tgt := 49) Cx dX6_measure_134 (by decide) ?_
    exact hk49 hW (lv_sub hl [1, 2, 0] rfl) hF
  · have hF := (if_neg c18).symm.trans hF
    refine q_aload_n Cx dX6_measure_73 rfl (lv_at hl 0 rfl) ?_
    refine q_get (v := .ref (vA V 12 9)) Cx hW oZ ic6 13 (by decide) rfl wd_727 dX6_measure_74 ?_
    refine q_iload_n Cx dX6_measure_77 rfl (lv_at hl 2 rfl) ?_
    obtain ⟨h22, v21, e23, hF⟩ := ld_some hF
    refine qb_iald Cx hW az_9 h22 e23 dX6_measure_78 ?_
    refine q_iload_n Cx dX6_measure_79 rfl (lv_at hl 1 rfl) ?_
    refine q_icmp_ne (tgt := 131) Cx dX6_measure_80 (by decide) (fun c24 => ?_) (fun c24 => ?_)
    · have hF := (if_neg c24).symm.trans hF
      obtain ⟨x25, e26, hF⟩ := lt1_some hF
      refine q_iinc (k := 2) (v := x25) (lv' := [(3, .int x25), (0, .ref (vA V 12 0)), (2, .int l2), (4, .int l4)]) Cx dX6_measure_131 hl rfl e26.symm (by decide) rfl (fun ls hl => ?_)
      refine q_goto (tgt := 49) Cx dX6_measure_134 (by decide) ?_
      exact hk49 hW (lv_sub hl [1, 2, 0] rfl) hF
    · have hF := (if_pos c24).symm.trans hF
      refine q_aload_n Cx dX6_measure_83 rfl (lv_at hl 0 rfl) ?_
      refine q_get (v := .ref (vA V 12 9)) Cx hW oZ ic6 13 (by decide) rfl wd_727 dX6_measure_84 ?_
      refine q_iload Cx dX6_measure_87 (lv_at hl 3 rfl) ?_
      refine q_aload_n Cx dX6_measure_89 rfl (lv_at hl 0 rfl) ?_
      refine q_get (v := .ref (vA V 12 9)) Cx hW oZ ic6 13 (by decide) rfl wd_727 dX6_measure_90 ?_
      refine q_iload Cx dX6_measure_93 (lv_at hl 3 rfl) ?_
      obtain ⟨h28, v27, e29, hF⟩ := ld_some hF
      refine qb_iald Cx hW az_9 h28 e29 dX6_measure_95 ?_
      refine q_bipush (v := (-6 : Int32)) Cx dX6_measure_96 (by decide) ?_
      refine q_icmp_ne (tgt := 117) Cx dX6_measure_98 (by decide) (fun c30 => ?_) (fun c30 => ?_)
      · have hF := (if_neg c30).symm.trans hF
        exact wX6_measure_117 Cx hret hk37 hk49 hk62 hW (lv_sub hl [0, 1, 2, 3] rfl) hF
      · have hF := (if_pos c30).symm.trans hF
        refine q_aload_n Cx dX6_measure_101 rfl (lv_at hl 0 rfl) ?_
        refine q_iload_n Cx dX6_measure_102 rfl (lv_at hl 2 rfl) ?_
        refine q_iload Cx dX6_measure_103 (lv_at hl 3 rfl) ?_
        obtain ⟨r39, e40, hF⟩ := c1_some hF
        refine q_callI (as := [.int l3, .int l4]) (rest := [.int l4, .ref (vA V 12 9)]) Cx (kX6_areLinked e40) okX6_areLinked ovX6_areLinked wd_840 ⟨rfl, rfl, by decide, by decide⟩ hW oZ ic6 rfl hl.1 (Nat.le_of_ble_eq_true rfl) rfl dX6_measure_105 (fun H locs hW => ?_)
        refine q_if_eq (tgt := 117) Cx dX6_measure_108 (by decide) (fun c41 => ?_) (fun c41 => ?_)
        · have hF := (if_pos c41).symm.trans hF
          exact wX6_measure_117 Cx hret hk37 hk49 hk62 hW (lv_sub hl [0, 1, 2, 3] rfl) hF
        · have hF := (if_neg c41).symm.trans hF
          refine q_iload_n Cx dX6_measure_111 rfl (lv_at hl 1 rfl) ?_
          refine q_iconst (v := (1 : Int32)) Cx dX6_measure_112 (by decide) ?_
          refine q_iadd Cx dX6_measure_113 ?_
          refine q_goto (tgt := 124) Cx dX6_measure_114 (by decide) ?_
          exact wX6_measure_124 Cx hret hk37 hk49 hk62 hW (lv_sub hl [0, 1, 2, 3] rfl) hF
def FX6_measure_62 (k37 : Int32 → Blk → Option Blk) (k49 : Int32 → Int32 → Blk → Option Blk) : Nat → Int32 → Int32 → Int32 → Blk → Option Blk
  | 0 => fun _ _ _ _ => none
  | n + 1 => FX6_measure_62s k37 k49 (FX6_measure_62 k37 k49 n)
set_option maxRecDepth 100000 in
theorem wX6_measure_62 {E : WE} {V : VT} {A : Nat → Prop} {H0 : Heap} {M : Mem} (Cx : CX E RX6 cX6_measure 5 1 22) {B' : Blk} (hret : RetV E V A H0 cX6_measure (jb M 12 B')) {k37 : Int32 → Blk → Option Blk} (hk37 : ∀ {H : Heap} {locs : List Loc} {ls : Array Slot} {B : Blk} {l2 : Int32}, Wd V A H0 (jb M 12 B) (eS E) H locs → lv_has ls 5 [(0, .ref (vA V 12 0)), (2, .int l2)] → k37 l2 B = some B' → Wq E H locs 37 ls []) {k49 : Int32 → Int32 → Blk → Option Blk} (hk49 : ∀ {H : Heap} {locs : List Loc} {ls : Array Slot} {B : Blk} {l2 : Int32} {l3 : Int32}, Wd V A H0 (jb M 12 B) (eS E) H locs → lv_has ls 5 [(0, .ref (vA V 12 0)), (2, .int l2), (3, .int l3)] → k49 l2 l3 B = some B' → Wq E H locs 49 ls []) : ∀ (n : Nat) {H : Heap} {locs : List Loc} {ls : Array Slot} {l2 : Int32} {l3 : Int32} {l4 : Int32} {B : Blk}, Wd V A H0 (jb M 12 B) (eS E) H locs → lv_has ls 5 [(0, .ref (vA V 12 0)), (2, .int l2), (3, .int l3), (4, .int l4)] → FX6_measure_62 k37 k49 n l2 l3 l4 B = some B' → Wq E H locs 62 ls [] := by
  intro n
  induction n with
  | zero => intro _ _ _ _ _ _ _ hW hl hF; cases hF
  | succ n ih => intro _ _ _ _ _ _ _ hW hl hF; exact wX6_measure_62s Cx hret hk37 hk49 ih hW hl hF
def FX6_measure_49s (k37 : Int32 → Blk → Option Blk) (k49 : Int32 → Int32 → Blk → Option Blk) (l2 : Int32) (l3 : Int32) (B : Blk) : Option Blk :=
  ld (B 1) 356 (0 : Int32) fun v9 =>
  if v9 ≤ l3 then
    lt1 (l2 + (1 : Int32)) fun x13 =>
    k37 x13 B
  else
    FX6_measure_62 k37 k49 fu l2 l3 (0 : Int32) B
set_option maxRecDepth 100000 in
set_option maxHeartbeats 4000000 in
theorem wX6_measure_49s {E : WE} {V : VT} {A : Nat → Prop} {H0 : Heap} {M : Mem} (Cx : CX E RX6 cX6_measure 5 1 22) {B' : Blk} (hret : RetV E V A H0 cX6_measure (jb M 12 B')) {k37 : Int32 → Blk → Option Blk} (hk37 : ∀ {H : Heap} {locs : List Loc} {ls : Array Slot} {B : Blk} {l2 : Int32}, Wd V A H0 (jb M 12 B) (eS E) H locs → lv_has ls 5 [(0, .ref (vA V 12 0)), (2, .int l2)] → k37 l2 B = some B' → Wq E H locs 37 ls []) {k49 : Int32 → Int32 → Blk → Option Blk} (hk49 : ∀ {H : Heap} {locs : List Loc} {ls : Array Slot} {B : Blk} {l2 : Int32} {l3 : Int32}, Wd V A H0 (jb M 12 B) (eS E) H locs → lv_has ls 5 [(0, .ref (vA V 12 0)), (2, .int l2), (3, .int l3)] → k49 l2 l3 B = some B' → Wq E H locs 49 ls []) {H : Heap} {locs : List Loc} {ls : Array Slot} {l2 : Int32} {l3 : Int32} {B : Blk} (hW : Wd V A H0 (jb M 12 B) (eS E) H locs) (hl : lv_has ls 5 [(0, .ref (vA V 12 0)), (2, .int l2), (3, .int l3)]) (hF : FX6_measure_49s k37 k49 l2 l3 B = some B') : Wq E H locs 49 ls [] := by
  unfold FX6_measure_49s at hF
  refine q_iload_n Cx dX6_measure_49 rfl (lv_at hl 2 rfl) ?_
  refine q_aload_n Cx dX6_measure_50 rfl (lv_at hl 0 rfl) ?_
  refine q_get (v := .ref (vA V 12 1)) Cx hW oZ ic6 0 (by decide) rfl wd_714 dX6_measure_51 ?_
  refine q_iconst (v := (0 : Int32)) Cx dX6_measure_54 (by decide) ?_
  obtain ⟨h10, v9, e11, hF⟩ := ld_some hF
  refine qb_iald Cx hW az_1 h10 e11 dX6_measure_55 ?_
  refine q_icmp_ge (tgt := 137) Cx dX6_measure_56 (by decide) (fun c12 => ?_) (fun c12 => ?_)
  · have hF := (if_pos c12).symm.trans hF
    obtain ⟨x13, e14, hF⟩ := lt1_some hF
    refine q_iinc (k := 1) (v := x13) (lv' := [(2, .int x13), (0, .ref (vA V 12 0)), (3, .int l3)]) Cx dX6_measure_137 hl rfl e14.symm (by decide) rfl (fun ls hl => ?_)
    refine q_goto (tgt := 37) Cx dX6_measure_140 (by decide) ?_
    exact hk37 hW (lv_sub hl [1, 0] rfl) hF
  · have hF := (if_neg c12).symm.trans hF
    refine q_iconst (v := (0 : Int32)) Cx dX6_measure_59 (by decide) ?_
    refine q_istore (lv' := [(4, .int (0 : Int32)), (0, .ref (vA V 12 0)), (2, .int l2), (3, .int l3)]) Cx dX6_measure_60 hl (by decide) rfl (fun ls hl => ?_)
    exact wX6_measure_62 Cx hret hk37 hk49 fu hW (lv_sub hl [1, 2, 3, 0] rfl) hF
def FX6_measure_49 (k37 : Int32 → Blk → Option Blk) : Nat → Int32 → Int32 → Blk → Option Blk
  | 0 => fun _ _ _ => none
  | n + 1 => FX6_measure_49s k37 (FX6_measure_49 k37 n)
set_option maxRecDepth 100000 in
theorem wX6_measure_49 {E : WE} {V : VT} {A : Nat → Prop} {H0 : Heap} {M : Mem} (Cx : CX E RX6 cX6_measure 5 1 22) {B' : Blk} (hret : RetV E V A H0 cX6_measure (jb M 12 B')) {k37 : Int32 → Blk → Option Blk} (hk37 : ∀ {H : Heap} {locs : List Loc} {ls : Array Slot} {B : Blk} {l2 : Int32}, Wd V A H0 (jb M 12 B) (eS E) H locs → lv_has ls 5 [(0, .ref (vA V 12 0)), (2, .int l2)] → k37 l2 B = some B' → Wq E H locs 37 ls []) : ∀ (n : Nat) {H : Heap} {locs : List Loc} {ls : Array Slot} {l2 : Int32} {l3 : Int32} {B : Blk}, Wd V A H0 (jb M 12 B) (eS E) H locs → lv_has ls 5 [(0, .ref (vA V 12 0)), (2, .int l2), (3, .int l3)] → FX6_measure_49 k37 n l2 l3 B = some B' → Wq E H locs 49 ls [] := by
  intro n
  induction n with
  | zero => intro _ _ _ _ _ _ hW hl hF; cases hF
  | succ n ih => intro _ _ _ _ _ _ hW hl hF; exact wX6_measure_49s Cx hret hk37 ih hW hl hF
def FX6_measure_37s (k37 : Int32 → Blk → Option Blk) (l2 : Int32) (B : Blk) : Option Blk :=
  ld (B 1) 356 (0 : Int32) fun v5 =>
  if v5 ≤ l2 then
    some B
  else
    FX6_measure_49 k37 fu l2 (0 : Int32) B
set_option maxRecDepth 100000 in
set_option maxHeartbeats 4000000 in
theorem wX6_measure_37s {E : WE} {V : VT} {A : Nat → Prop} {H0 : Heap} {M : Mem} (Cx : CX E RX6 cX6_measure 5 1 22) {B' : Blk} (hret : RetV E V A H0 cX6_measure (jb M 12 B')) {k37 : Int32 → Blk → Option Blk} (hk37 : ∀ {H : Heap} {locs : List Loc} {ls : Array Slot} {B : Blk} {l2 : Int32}, Wd V A H0 (jb M 12 B) (eS E) H locs → lv_has ls 5 [(0, .ref (vA V 12 0)), (2, .int l2)] → k37 l2 B = some B' → Wq E H locs 37 ls []) {H : Heap} {locs : List Loc} {ls : Array Slot} {l2 : Int32} {B : Blk} (hW : Wd V A H0 (jb M 12 B) (eS E) H locs) (hl : lv_has ls 5 [(0, .ref (vA V 12 0)), (2, .int l2)]) (hF : FX6_measure_37s k37 l2 B = some B') : Wq E H locs 37 ls [] := by
  unfold FX6_measure_37s at hF
  refine q_iload_n Cx dX6_measure_37 rfl (lv_at hl 1 rfl) ?_
  refine q_aload_n Cx dX6_measure_38 rfl (lv_at hl 0 rfl) ?_
  refine q_get (v := .ref (vA V 12 1)) Cx hW oZ ic6 0 (by decide) rfl wd_714 dX6_measure_39 ?_
  refine q_iconst (v := (0 : Int32)) Cx dX6_measure_42 (by decide) ?_
  obtain ⟨h6, v5, e7, hF⟩ := ld_some hF
  refine qb_iald Cx hW az_1 h6 e7 dX6_measure_43 ?_
  refine q_icmp_ge (tgt := 143) Cx dX6_measure_44 (by decide) (fun c8 => ?_) (fun c8 => ?_)
  · have hF := (if_pos c8).symm.trans hF
    obtain rfl := Option.some.inj hF
    exact hret _ _ _ _ dX6_measure_143 hW
  · have hF := (if_neg c8).symm.trans hF
    refine q_iconst (v := (0 : Int32)) Cx dX6_measure_47 (by decide) ?_
    refine q_istore_n (lv' := [(3, .int (0 : Int32)), (0, .ref (vA V 12 0)), (2, .int l2)]) Cx dX6_measure_48 rfl hl (by decide) rfl (fun ls hl => ?_)
    exact wX6_measure_49 Cx hret hk37 fu hW (lv_sub hl [1, 2, 0] rfl) hF
def FX6_measure_37 : Nat → Int32 → Blk → Option Blk
  | 0 => fun _ _ => none
  | n + 1 => FX6_measure_37s (FX6_measure_37 n)
set_option maxRecDepth 100000 in
theorem wX6_measure_37 {E : WE} {V : VT} {A : Nat → Prop} {H0 : Heap} {M : Mem} (Cx : CX E RX6 cX6_measure 5 1 22) {B' : Blk} (hret : RetV E V A H0 cX6_measure (jb M 12 B')) : ∀ (n : Nat) {H : Heap} {locs : List Loc} {ls : Array Slot} {l2 : Int32} {B : Blk}, Wd V A H0 (jb M 12 B) (eS E) H locs → lv_has ls 5 [(0, .ref (vA V 12 0)), (2, .int l2)] → FX6_measure_37 n l2 B = some B' → Wq E H locs 37 ls [] := by
  intro n
  induction n with
  | zero => intro _ _ _ _ _ hW hl hF; cases hF
  | succ n ih => intro _ _ _ _ _ hW hl hF; exact wX6_measure_37s Cx hret ih hW hl hF
def FX6_measure_28 (k2 : Int32 → Int32 → Blk → Option Blk) (l1 : Int32) (l2 : Int32) (s0 : Int32) (s1 : Int32) (B : Blk) : Option Blk :=
  stb B 9 24 s1 s0 fun B43 =>
  lt1 (l2 + (1 : Int32)) fun x46 =>
  k2 l1 x46 B43
set_option maxRecDepth 100000 in
set_option maxHeartbeats 4000000 in
theorem wX6_measure_28 {E : WE} {V : VT} {A : Nat → Prop} {H0 : Heap} {M : Mem} (Cx : CX E RX6 cX6_measure 5 1 22) {B' : Blk} (hret : RetV E V A H0 cX6_measure (jb M 12 B')) {k2 : Int32 → Int32 → Blk → Option Blk} (hk2 : ∀ {H : Heap} {locs : List Loc} {ls : Array Slot} {B : Blk} {l1 : Int32} {l2 : Int32}, Wd V A H0 (jb M 12 B) (eS E) H locs → lv_has ls 5 [(0, .ref (vA V 12 0)), (1, .int l1), (2, .int l2)] → k2 l1 l2 B = some B' → Wq E H locs 2 ls []) {H : Heap} {locs : List Loc} {ls : Array Slot} {l1 : Int32} {l2 : Int32} {s0 : Int32} {s1 : Int32} {B : Blk} (hW : Wd V A H0 (jb M 12 B) (eS E) H locs) (hl : lv_has ls 5 [(0, .ref (vA V 12 0)), (1, .int l1), (2, .int l2)]) (hF : FX6_measure_28 k2 l1 l2 s0 s1 B = some B') : Wq E H locs 28 ls [.int s0, .int s1, .ref (vA V 12 9)] := by
  unfold FX6_measure_28 at hF
  obtain ⟨h44, B43, e45, hF⟩ := stb_some hF
  refine qb_iast Cx hW az_9 h44 e45 dX6_measure_28 (fun H locs hW => ?_)
  obtain ⟨x46, e47, hF⟩ := lt1_some hF
  refine q_iinc (k := 2) (v := x46) (lv' := [(2, .int x46), (0, .ref (vA V 12 0)), (1, .int l1)]) Cx dX6_measure_29 hl rfl e47.symm (by decide) rfl (fun ls hl => ?_)
  refine q_goto (tgt := 2) Cx dX6_measure_32 (by decide) ?_
  exact hk2 hW (lv_sub hl [1, 2, 0] rfl) hF
def FX6_measure_2s (k2 : Int32 → Int32 → Blk → Option Blk) (l1 : Int32) (l2 : Int32) (B : Blk) : Option Blk :=
  ld (B 1) 356 (0 : Int32) fun v1 =>
  if v1 ≤ l2 then
    FX6_measure_37 fu (0 : Int32) B
  else
    if l2 = l1 then
      FX6_measure_28 k2 l1 l2 (0 : Int32) l2 B
    else
      FX6_measure_28 k2 l1 l2 (-6 : Int32) l2 B
set_option maxRecDepth 100000 in
set_option maxHeartbeats 4000000 in
theorem wX6_measure_2s {E : WE} {V : VT} {A : Nat → Prop} {H0 : Heap} {M : Mem} (Cx : CX E RX6 cX6_measure 5 1 22) {B' : Blk} (hret : RetV E V A H0 cX6_measure (jb M 12 B')) {k2 : Int32 → Int32 → Blk → Option Blk} (hk2 : ∀ {H : Heap} {locs : List Loc} {ls : Array Slot} {B : Blk} {l1 : Int32} {l2 : Int32}, Wd V A H0 (jb M 12 B) (eS E) H locs → lv_has ls 5 [(0, .ref (vA V 12 0)), (1, .int l1), (2, .int l2)] → k2 l1 l2 B = some B' → Wq E H locs 2 ls []) {H : Heap} {locs : List Loc} {ls : Array Slot} {l1 : Int32} {l2 : Int32} {B : Blk} (hW : Wd V A H0 (jb M 12 B) (eS E) H locs) (hl : lv_has ls 5 [(0, .ref (vA V 12 0)), (1, .int l1), (2, .int l2)]) (hF : FX6_measure_2s k2 l1 l2 B = some B') : Wq E H locs 2 ls [] := by
  unfold FX6_measure_2s at hF
  refine q_iload_n Cx dX6_measure_2 rfl (lv_at hl 2 rfl) ?_
  refine q_aload_n Cx dX6_measure_3 rfl (lv_at hl 0 rfl) ?_
  refine q_get (v := .ref (vA V 12 1)) Cx hW oZ ic6 0 (by decide) rfl wd_714 dX6_measure_4 ?_
  refine q_iconst (v := (0 : Int32)) Cx dX6_measure_7 (by decide) ?_
  obtain ⟨h2, v1, e3, hF⟩ := ld_some hF
  refine qb_iald Cx hW az_1 h2 e3 dX6_measure_8 ?_
  refine q_icmp_ge (tgt := 35) Cx dX6_measure_9 (by decide) (fun c4 => ?_) (fun c4 => ?_)
  · have hF := (if_pos c4).symm.trans hF
    refine q_iconst (v := (0 : Int32)) Cx dX6_measure_35 (by decide) ?_
    refine q_istore_n (lv' := [(2, .int (0 : Int32)), (0, .ref (vA V 12 0)), (1, .int l1)]) Cx dX6_measure_36 rfl hl (by decide) rfl (fun ls hl => ?_)
    exact wX6_measure_37 Cx hret fu hW (lv_sub hl [1, 0] rfl) hF
  · have hF := (if_neg c4).symm.trans hF
    refine q_aload_n Cx dX6_measure_12 rfl (lv_at hl 0 rfl) ?_
    refine q_get (v := .ref (vA V 12 9)) Cx hW oZ ic6 13 (by decide) rfl wd_727 dX6_measure_13 ?_
    refine q_iload_n Cx dX6_measure_16 rfl (lv_at hl 2 rfl) ?_
    refine q_iload_n Cx dX6_measure_17 rfl (lv_at hl 2 rfl) ?_
    refine q_iload_n Cx dX6_measure_18 rfl (lv_at hl 1 rfl) ?_
    refine q_icmp_ne (tgt := 26) Cx dX6_measure_19 (by decide) (fun c42 => ?_) (fun c42 => ?_)
    · have hF := (if_neg c42).symm.trans hF
      refine q_bipush (v := (-6 : Int32)) Cx dX6_measure_26 (by decide) ?_
      exact wX6_measure_28 Cx hret hk2 hW (lv_sub hl [0, 1, 2] rfl) hF
    · have hF := (if_pos c42).symm.trans hF
      refine q_iconst (v := (0 : Int32)) Cx dX6_measure_22 (by decide) ?_
      refine q_goto (tgt := 28) Cx dX6_measure_23 (by decide) ?_
      exact wX6_measure_28 Cx hret hk2 hW (lv_sub hl [0, 1, 2] rfl) hF
def FX6_measure_2 : Nat → Int32 → Int32 → Blk → Option Blk
  | 0 => fun _ _ _ => none
  | n + 1 => FX6_measure_2s (FX6_measure_2 n)
set_option maxRecDepth 100000 in
theorem wX6_measure_2 {E : WE} {V : VT} {A : Nat → Prop} {H0 : Heap} {M : Mem} (Cx : CX E RX6 cX6_measure 5 1 22) {B' : Blk} (hret : RetV E V A H0 cX6_measure (jb M 12 B')) : ∀ (n : Nat) {H : Heap} {locs : List Loc} {ls : Array Slot} {l1 : Int32} {l2 : Int32} {B : Blk}, Wd V A H0 (jb M 12 B) (eS E) H locs → lv_has ls 5 [(0, .ref (vA V 12 0)), (1, .int l1), (2, .int l2)] → FX6_measure_2 n l1 l2 B = some B' → Wq E H locs 2 ls [] := by
  intro n
  induction n with
  | zero => intro _ _ _ _ _ _ hW hl hF; cases hF
  | succ n ih => intro _ _ _ _ _ _ hW hl hF; exact wX6_measure_2s Cx hret ih hW hl hF
def FX6_measure (B : Blk) (l1 : Int32) : Option Blk :=
  FX6_measure_2 fu l1 (0 : Int32) B
set_option maxRecDepth 100000 in
set_option maxHeartbeats 4000000 in
theorem wX6_measure {E : WE} {V : VT} {A : Nat → Prop} {H0 : Heap} {M : Mem} (Cx : CX E RX6 cX6_measure 5 1 22) {B' : Blk} (hret : RetV E V A H0 cX6_measure (jb M 12 B')) {H : Heap} {locs : List Loc} {ls : Array Slot} {l1 : Int32} {B : Blk} (hW : Wd V A H0 (jb M 12 B) (eS E) H locs) (hl : lv_has ls 5 [(0, .ref (vA V 12 0)), (1, .int l1)]) (hF : FX6_measure B l1 = some B') : Wq E H locs 0 ls [] := by
  unfold FX6_measure at hF
  refine q_iconst (v := (0 : Int32)) Cx dX6_measure_0 (by decide) ?_
  refine q_istore_n (lv' := [(2, .int (0 : Int32)), (0, .ref (vA V 12 0)), (1, .int l1)]) Cx dX6_measure_1 rfl hl (by decide) rfl (fun ls hl => ?_)
  exact wX6_measure_2 Cx hret fu hW (lv_sub hl [1, 2, 0] rfl) hF
set_option maxRecDepth 100000 in
theorem kX6_measure {l : Launch} {V : VT} {M : Mem} {B : Blk} {l1 : Int32} {B' : Blk} (hF : FX6_measure B l1 = some B') : MetV l V yX6_measure cX6_measure 5 ({ frames := 1, cells := 0, slots := 0, locals := 22 } : Room) [.ref (vA V 12 0), .int l1] (jb M 12 B) (jb M 12 B') := metV_of (by decide) (Nat.le_of_ble_eq_true rfl) (fun E H0 _ Cx hret H locs ls hW hl => wX6_measure Cx hret hW hl hF)
theorem dX6_distance_0 : decode cX6_distance 0 = .ok (.aload_n 0, 1) := by decide +kernel
theorem dX6_distance_1 : decode cX6_distance 1 = .ok (.iload_n 1, 1) := by decide +kernel
theorem dX6_distance_2 : decode cX6_distance 2 = .ok (.invokevirtual 89, 3) := by decide +kernel
theorem dX6_distance_5 : decode cX6_distance 5 = .ok (.ifCond .eq 11, 3) := by decide +kernel
theorem dX6_distance_8 : decode cX6_distance 8 = .ok (.aload_n 0, 1) := by decide +kernel
theorem dX6_distance_9 : decode cX6_distance 9 = .ok (.iload_n 2, 1) := by decide +kernel
theorem dX6_distance_10 : decode cX6_distance 10 = .ok (.invokevirtual 89, 3) := by decide +kernel
theorem dX6_distance_13 : decode cX6_distance 13 = .ok (.ifCond .ne 5, 3) := by decide +kernel
theorem dX6_distance_16 : decode cX6_distance 16 = .ok (.iconst (-1), 1) := by decide +kernel
theorem dX6_distance_17 : decode cX6_distance 17 = .ok (.ireturn, 1) := by decide +kernel
theorem dX6_distance_18 : decode cX6_distance 18 = .ok (.aload_n 0, 1) := by decide +kernel
theorem dX6_distance_19 : decode cX6_distance 19 = .ok (.iload_n 1, 1) := by decide +kernel
theorem dX6_distance_20 : decode cX6_distance 20 = .ok (.invokevirtual 104, 3) := by decide +kernel
theorem dX6_distance_23 : decode cX6_distance 23 = .ok (.aload_n 0, 1) := by decide +kernel
theorem dX6_distance_24 : decode cX6_distance 24 = .ok (.getfield 40, 3) := by decide +kernel
theorem dX6_distance_27 : decode cX6_distance 27 = .ok (.iload_n 2, 1) := by decide +kernel
theorem dX6_distance_28 : decode cX6_distance 28 = .ok (.iaload, 1) := by decide +kernel
theorem dX6_distance_29 : decode cX6_distance 29 = .ok (.ireturn, 1) := by decide +kernel
theorem okX6_distance : CalOK yX6_distance cX6_distance 3 (some .int) 2 := ⟨wd_73, wd_835, by decide +kernel⟩
theorem ovX6_distance : VirOK yX6_distance := ⟨wd_833, wd_834⟩
def FX6_distance (B : Blk) (l1 : Int32) (l2 : Int32) : Option (Int32 × Blk) :=
  c1 (FX6_isTask B l1) fun r1 =>
  if r1 = 0 then
    some ((-1 : Int32), B)
  else
    c1 (FX6_isTask B l2) fun r4 =>
    if r4 = 0 then
      some ((-1 : Int32), B)
    else
      c1 (FX6_measure B l1) fun B9 =>
      ld (B9 9) 24 l2 fun v10 =>
      some (v10, B9)
set_option maxRecDepth 100000 in
set_option maxHeartbeats 4000000 in
theorem wX6_distance {E : WE} {V : VT} {A : Nat → Prop} {H0 : Heap} {M : Mem} (Cx : CX E RX6 cX6_distance 3 2 46) {r : Int32} {B' : Blk} (hret : RetI E V A H0 cX6_distance .int r (jb M 12 B')) {H : Heap} {locs : List Loc} {ls : Array Slot} {l1 : Int32} {l2 : Int32} {B : Blk} (hW : Wd V A H0 (jb M 12 B) (eS E) H locs) (hl : lv_has ls 3 [(0, .ref (vA V 12 0)), (1, .int l1), (2, .int l2)]) (hF : FX6_distance B l1 l2 = some (r, B')) : Wq E H locs 0 ls [] := by
  unfold FX6_distance at hF
  refine q_aload_n Cx dX6_distance_0 rfl (lv_at hl 0 rfl) ?_
  refine q_iload_n Cx dX6_distance_1 rfl (lv_at hl 1 rfl) ?_
  obtain ⟨r1, e2, hF⟩ := c1_some hF
  refine q_callI (as := [.int l1]) (rest := []) Cx (kX6_isTask e2) okX6_isTask ovX6_isTask wd_799 ⟨rfl, rfl, by decide, by decide⟩ hW oZ ic6 rfl hl.1 (Nat.le_of_ble_eq_true rfl) rfl dX6_distance_2 (fun H locs hW => ?_)
  refine q_if_eq (tgt := 16) Cx dX6_distance_5 (by decide) (fun c3 => ?_) (fun c3 => ?_)
  · have hF := (if_pos c3).symm.trans hF
    refine q_iconst (v := (-1 : Int32)) Cx dX6_distance_16 (by decide) ?_
    obtain ⟨rfl, rfl⟩ := Prod.mk.inj (Option.some.inj hF)
    exact hret _ _ _ _ dX6_distance_17 (nI32 _) hW
  · have hF := (if_neg c3).symm.trans hF
    refine q_aload_n Cx dX6_distance_8 rfl (lv_at hl 0 rfl) ?_
    refine q_iload_n Cx dX6_distance_9 rfl (lv_at hl 2 rfl) ?_
    obtain ⟨r4, e5, hF⟩ := c1_some hF
    refine q_callI (as := [.int l2]) (rest := []) Cx (kX6_isTask e5) okX6_isTask ovX6_isTask wd_799 ⟨rfl, rfl, by decide, by decide⟩ hW oZ ic6 rfl hl.1 (Nat.le_of_ble_eq_true rfl) rfl dX6_distance_10 (fun H locs hW => ?_)
    refine q_if_ne (tgt := 18) Cx dX6_distance_13 (by decide) (fun c6 => ?_) (fun c6 => ?_)
    · have hF := (if_neg c6).symm.trans hF
      refine q_aload_n Cx dX6_distance_18 rfl (lv_at hl 0 rfl) ?_
      refine q_iload_n Cx dX6_distance_19 rfl (lv_at hl 1 rfl) ?_
      obtain ⟨B9, e8, hF⟩ := c1_some hF
      refine q_callV (as := [.int l1]) (rest := []) Cx (kX6_measure e8) okX6_measure ovX6_measure wd_836 ⟨rfl, rfl, by decide, by decide⟩ hW oZ ic6 rfl hl.1 (Nat.le_of_ble_eq_true rfl) rfl dX6_distance_20 (fun H locs hW => ?_)
      refine q_aload_n Cx dX6_distance_23 rfl (lv_at hl 0 rfl) ?_
      refine q_get (v := .ref (vA V 12 9)) Cx hW oZ ic6 13 (by decide) rfl wd_727 dX6_distance_24 ?_
      refine q_iload_n Cx dX6_distance_27 rfl (lv_at hl 2 rfl) ?_
      obtain ⟨h11, v10, e12, hF⟩ := ld_some hF
      refine qb_iald Cx hW az_9 h11 e12 dX6_distance_28 ?_
      obtain ⟨rfl, rfl⟩ := Prod.mk.inj (Option.some.inj hF)
      exact hret _ _ _ _ dX6_distance_29 (nI32 _) hW
    · have hF := (if_pos c6).symm.trans hF
      refine q_iconst (v := (-1 : Int32)) Cx dX6_distance_16 (by decide) ?_
      obtain ⟨rfl, rfl⟩ := Prod.mk.inj (Option.some.inj hF)
      exact hret _ _ _ _ dX6_distance_17 (nI32 _) hW
set_option maxRecDepth 100000 in
theorem kX6_distance {l : Launch} {V : VT} {M : Mem} {B : Blk} {l1 : Int32} {l2 : Int32} {r : Int32} {B' : Blk} (hF : FX6_distance B l1 l2 = some (r, B')) : MetI l V yX6_distance cX6_distance 3 .int ({ frames := 2, cells := 0, slots := 0, locals := 46 } : Room) [.ref (vA V 12 0), .int l1, .int l2] r (jb M 12 B) (jb M 12 B') := metI_of (by decide) (Nat.le_of_ble_eq_true rfl) (fun E H0 _ Cx hret H locs ls hW hl => wX6_distance Cx hret hW hl hF)
theorem dX6_offer_0 : decode cX6_offer 0 = .ok (.aload_n 0, 1) := by decide +kernel
theorem dX6_offer_1 : decode cX6_offer 1 = .ok (.iload_n 1, 1) := by decide +kernel
theorem dX6_offer_2 : decode cX6_offer 2 = .ok (.invokevirtual 89, 3) := by decide +kernel
theorem dX6_offer_5 : decode cX6_offer 5 = .ok (.ifCond .ne 5, 3) := by decide +kernel
theorem dX6_offer_8 : decode cX6_offer 8 = .ok (.iconst (-1), 1) := by decide +kernel
theorem dX6_offer_9 : decode cX6_offer 9 = .ok (.ireturn, 1) := by decide +kernel
theorem dX6_offer_10 : decode cX6_offer 10 = .ok (.iload_n 2, 1) := by decide +kernel
theorem dX6_offer_11 : decode cX6_offer 11 = .ok (.iconst 0, 1) := by decide +kernel
theorem dX6_offer_12 : decode cX6_offer 12 = .ok (.sipush 500, 3) := by decide +kernel
theorem dX6_offer_15 : decode cX6_offer 15 = .ok (.invokestatic 56, 3) := by decide +kernel
theorem dX6_offer_18 : decode cX6_offer 18 = .ok (.ifCond .eq 14, 3) := by decide +kernel
theorem dX6_offer_21 : decode cX6_offer 21 = .ok (.iload_n 3, 1) := by decide +kernel
theorem dX6_offer_22 : decode cX6_offer 22 = .ok (.iconst 0, 1) := by decide +kernel
theorem dX6_offer_23 : decode cX6_offer 23 = .ok (.sipush 1000, 3) := by decide +kernel
theorem dX6_offer_26 : decode cX6_offer 26 = .ok (.invokestatic 56, 3) := by decide +kernel
theorem dX6_offer_29 : decode cX6_offer 29 = .ok (.ifCond .ne 6, 3) := by decide +kernel
theorem dX6_offer_32 : decode cX6_offer 32 = .ok (.bipush (-2), 2) := by decide +kernel
theorem dX6_offer_34 : decode cX6_offer 34 = .ok (.ireturn, 1) := by decide +kernel
theorem dX6_offer_35 : decode cX6_offer 35 = .ok (.aload_n 0, 1) := by decide +kernel
theorem dX6_offer_36 : decode cX6_offer 36 = .ok (.invokevirtual 60, 3) := by decide +kernel
theorem dX6_offer_39 : decode cX6_offer 39 = .ok (.aload_n 0, 1) := by decide +kernel
theorem dX6_offer_40 : decode cX6_offer 40 = .ok (.getfield 7, 3) := by decide +kernel
theorem dX6_offer_43 : decode cX6_offer 43 = .ok (.bipush 124, 2) := by decide +kernel
theorem dX6_offer_45 : decode cX6_offer 45 = .ok (.iload_n 1, 1) := by decide +kernel
theorem dX6_offer_46 : decode cX6_offer 46 = .ok (.iadd, 1) := by decide +kernel
theorem dX6_offer_47 : decode cX6_offer 47 = .ok (.iaload, 1) := by decide +kernel
theorem dX6_offer_48 : decode cX6_offer 48 = .ok (.istore 4, 2) := by decide +kernel
theorem dX6_offer_50 : decode cX6_offer 50 = .ok (.aload_n 0, 1) := by decide +kernel
theorem dX6_offer_51 : decode cX6_offer 51 = .ok (.getfield 7, 3) := by decide +kernel
theorem dX6_offer_54 : decode cX6_offer 54 = .ok (.bipush 124, 2) := by decide +kernel
theorem dX6_offer_56 : decode cX6_offer 56 = .ok (.iload_n 1, 1) := by decide +kernel
theorem dX6_offer_57 : decode cX6_offer 57 = .ok (.iadd, 1) := by decide +kernel
theorem dX6_offer_58 : decode cX6_offer 58 = .ok (.iload_n 2, 1) := by decide +kernel
theorem dX6_offer_59 : decode cX6_offer 59 = .ok (.iastore, 1) := by decide +kernel
theorem dX6_offer_60 : decode cX6_offer 60 = .ok (.aload_n 0, 1) := by decide +kernel
theorem dX6_offer_61 : decode cX6_offer 61 = .ok (.getfield 7, 3) := by decide +kernel
theorem dX6_offer_64 : decode cX6_offer 64 = .ok (.sipush 148, 3) := by decide +kernel
theorem dX6_offer_67 : decode cX6_offer 67 = .ok (.iload_n 1, 1) := by decide +kernel
theorem dX6_offer_68 : decode cX6_offer 68 = .ok (.iadd, 1) := by decide +kernel
theorem dX6_offer_69 : decode cX6_offer 69 = .ok (.iload_n 2, 1) := by decide +kernel
theorem dX6_offer_70 : decode cX6_offer 70 = .ok (.ifCond .ne 7, 3) := by decide +kernel
theorem dX6_offer_73 : decode cX6_offer 73 = .ok (.iconst 0, 1) := by decide +kernel
theorem dX6_offer_74 : decode cX6_offer 74 = .ok (.goto 4, 3) := by decide +kernel
theorem dX6_offer_77 : decode cX6_offer 77 = .ok (.iload_n 3, 1) := by decide +kernel
theorem dX6_offer_78 : decode cX6_offer 78 = .ok (.iastore, 1) := by decide +kernel
theorem dX6_offer_79 : decode cX6_offer 79 = .ok (.iload 4, 2) := by decide +kernel
theorem dX6_offer_81 : decode cX6_offer 81 = .ok (.ireturn, 1) := by decide +kernel
theorem okX6_offer : CalOK yX6_offer cX6_offer 5 (some .int) 3 := ⟨wd_73, wd_847, by decide +kernel⟩
theorem ovX6_offer : VirOK yX6_offer := ⟨wd_845, wd_846⟩
def FX6_offer_78 (l4 : Int32) (s0 : Int32) (s1 : Int32) (B : Blk) : Option (Int32 × Blk) :=
  stb B 1 356 s1 s0 fun B20 =>
  some (l4, B20)
set_option maxRecDepth 100000 in
set_option maxHeartbeats 4000000 in
theorem wX6_offer_78 {E : WE} {V : VT} {A : Nat → Prop} {H0 : Heap} {M : Mem} (Cx : CX E RX6 cX6_offer 5 1 22) {r : Int32} {B' : Blk} (hret : RetI E V A H0 cX6_offer .int r (jb M 12 B')) {H : Heap} {locs : List Loc} {ls : Array Slot} {l4 : Int32} {s0 : Int32} {s1 : Int32} {B : Blk} (hW : Wd V A H0 (jb M 12 B) (eS E) H locs) (hl : lv_has ls 5 [(4, .int l4)]) (hF : FX6_offer_78 l4 s0 s1 B = some (r, B')) : Wq E H locs 78 ls [.int s0, .int s1, .ref (vA V 12 1)] := by
  unfold FX6_offer_78 at hF
  obtain ⟨h21, B20, e22, hF⟩ := stb_some hF
  refine qb_iast Cx hW az_1 h21 e22 dX6_offer_78 (fun H locs hW => ?_)
  refine q_iload Cx dX6_offer_79 (lv_at hl 0 rfl) ?_
  obtain ⟨rfl, rfl⟩ := Prod.mk.inj (Option.some.inj hF)
  exact hret _ _ _ _ dX6_offer_81 (nI32 _) hW
def FX6_offer (B : Blk) (l1 : Int32) (l2 : Int32) (l3 : Int32) : Option (Int32 × Blk) :=
  c1 (FX6_isTask B l1) fun r1 =>
  if r1 = 0 then
    some ((-1 : Int32), B)
  else
    c1 (FX6_in l2 (0 : Int32) (500 : Int32)) fun r4 =>
    if r4 = 0 then
      some ((-2 : Int32), B)
    else
      c1 (FX6_in l3 (0 : Int32) (1000 : Int32)) fun r7 =>
      if r7 = 0 then
        some ((-2 : Int32), B)
      else
        c1 (FX6_record B) fun B12 =>
        ld (B12 1) 356 ((124 : Int32) + l1) fun v13 =>
        stb B12 1 356 ((124 : Int32) + l1) l2 fun B16 =>
        if l2 = 0 then
          FX6_offer_78 v13 (0 : Int32) ((148 : Int32) + l1) B16
        else
          FX6_offer_78 v13 l3 ((148 : Int32) + l1) B16
set_option maxRecDepth 100000 in
set_option maxHeartbeats 4000000 in
theorem wX6_offer {E : WE} {V : VT} {A : Nat → Prop} {H0 : Heap} {M : Mem} (Cx : CX E RX6 cX6_offer 5 1 22) {r : Int32} {B' : Blk} (hret : RetI E V A H0 cX6_offer .int r (jb M 12 B')) {H : Heap} {locs : List Loc} {ls : Array Slot} {l1 : Int32} {l2 : Int32} {l3 : Int32} {B : Blk} (hW : Wd V A H0 (jb M 12 B) (eS E) H locs) (hl : lv_has ls 5 [(0, .ref (vA V 12 0)), (1, .int l1), (2, .int l2), (3, .int l3)]) (hF : FX6_offer B l1 l2 l3 = some (r, B')) : Wq E H locs 0 ls [] := by
  unfold FX6_offer at hF
  refine q_aload_n Cx dX6_offer_0 rfl (lv_at hl 0 rfl) ?_
  refine q_iload_n Cx dX6_offer_1 rfl (lv_at hl 1 rfl) ?_
  obtain ⟨r1, e2, hF⟩ := c1_some hF
  refine q_callI (as := [.int l1]) (rest := []) Cx (kX6_isTask e2) okX6_isTask ovX6_isTask wd_799 ⟨rfl, rfl, by decide, by decide⟩ hW oZ ic6 rfl hl.1 (Nat.le_of_ble_eq_true rfl) rfl dX6_offer_2 (fun H locs hW => ?_)
  refine q_if_ne (tgt := 10) Cx dX6_offer_5 (by decide) (fun c3 => ?_) (fun c3 => ?_)
  · have hF := (if_neg c3).symm.trans hF
    refine q_iload_n Cx dX6_offer_10 rfl (lv_at hl 2 rfl) ?_
    refine q_iconst (v := (0 : Int32)) Cx dX6_offer_11 (by decide) ?_
    refine q_sipush (v := (500 : Int32)) Cx dX6_offer_12 (by decide) ?_
    obtain ⟨r4, e5, hF⟩ := c1_some hF
    refine q_callSI (as := [.int l2, .int (0 : Int32), .int (500 : Int32)]) (rest := []) Cx (kX6_in e5) okX6_in osX6_in rfl wd_780 ⟨rfl, rfl, by decide, by decide⟩ hW rfl hl.1 (Nat.le_of_ble_eq_true rfl) rfl dX6_offer_15 (fun H locs hW => ?_)
    refine q_if_eq (tgt := 32) Cx dX6_offer_18 (by decide) (fun c6 => ?_) (fun c6 => ?_)
    · have hF := (if_pos c6).symm.trans hF
      refine q_bipush (v := (-2 : Int32)) Cx dX6_offer_32 (by decide) ?_
      obtain ⟨rfl, rfl⟩ := Prod.mk.inj (Option.some.inj hF)
      exact hret _ _ _ _ dX6_offer_34 (nI32 _) hW
    · have hF := (if_neg c6).symm.trans hF
      refine q_iload_n Cx dX6_offer_21 rfl (lv_at hl 3 rfl) ?_
      refine q_iconst (v := (0 : Int32)) Cx dX6_offer_22 (by decide) ?_
      refine q_sipush (v := (1000 : Int32)) Cx dX6_offer_23 (by decide) ?_
      obtain ⟨r7, e8, hF⟩ := c1_some hF
      refine q_callSI (as := [.int l3, .int (0 : Int32), .int (1000 : Int32)]) (rest := []) Cx (kX6_in e8) okX6_in osX6_in rfl wd_780 ⟨rfl, rfl, by decide, by decide⟩ hW rfl hl.1 (Nat.le_of_ble_eq_true rfl) rfl dX6_offer_26 (fun H locs hW => ?_)
      refine q_if_ne (tgt := 35) Cx dX6_offer_29 (by decide) (fun c9 => ?_) (fun c9 => ?_)
      · have hF := (if_neg c9).symm.trans hF
        refine q_aload_n Cx dX6_offer_35 rfl (lv_at hl 0 rfl) ?_
        obtain ⟨B12, e11, hF⟩ := c1_some hF
        refine q_callV (as := []) (rest := []) Cx (kX6_record e11) okX6_record ovX6_record wd_787 ⟨rfl, rfl, by decide, by decide⟩ hW oZ ic6 rfl hl.1 (Nat.le_of_ble_eq_true rfl) rfl dX6_offer_36 (fun H locs hW => ?_)
        refine q_aload_n Cx dX6_offer_39 rfl (lv_at hl 0 rfl) ?_
        refine q_get (v := .ref (vA V 12 1)) Cx hW oZ ic6 0 (by decide) rfl wd_714 dX6_offer_40 ?_
        refine q_bipush (v := (124 : Int32)) Cx dX6_offer_43 (by decide) ?_
        refine q_iload_n Cx dX6_offer_45 rfl (lv_at hl 1 rfl) ?_
        refine q_iadd Cx dX6_offer_46 ?_
        obtain ⟨h14, v13, e15, hF⟩ := ld_some hF
        refine qb_iald Cx hW az_1 h14 e15 dX6_offer_47 ?_
        refine q_istore (lv' := [(4, .int v13), (0, .ref (vA V 12 0)), (1, .int l1), (2, .int l2), (3, .int l3)]) Cx dX6_offer_48 hl (by decide) rfl (fun ls hl => ?_)
        refine q_aload_n Cx dX6_offer_50 rfl (lv_at hl 1 rfl) ?_
        refine q_get (v := .ref (vA V 12 1)) Cx hW oZ ic6 0 (by decide) rfl wd_714 dX6_offer_51 ?_
        refine q_bipush (v := (124 : Int32)) Cx dX6_offer_54 (by decide) ?_
        refine q_iload_n Cx dX6_offer_56 rfl (lv_at hl 2 rfl) ?_
        refine q_iadd Cx dX6_offer_57 ?_
        refine q_iload_n Cx dX6_offer_58 rfl (lv_at hl 3 rfl) ?_
        obtain ⟨h17, B16, e18, hF⟩ := stb_some hF
        refine qb_iast Cx hW az_1 h17 e18 dX6_offer_59 (fun H locs hW => ?_)
        refine q_aload_n Cx dX6_offer_60 rfl (lv_at hl 1 rfl) ?_
        refine q_get (v := .ref (vA V 12 1)) Cx hW oZ ic6 0 (by decide) rfl wd_714 dX6_offer_61 ?_
        refine q_sipush (v := (148 : Int32)) Cx dX6_offer_64 (by decide) ?_
        refine q_iload_n Cx dX6_offer_67 rfl (lv_at hl 2 rfl) ?_
        refine q_iadd Cx dX6_offer_68 ?_
        refine q_iload_n Cx dX6_offer_69 rfl (lv_at hl 3 rfl) ?_
        refine q_if_ne (tgt := 77) Cx dX6_offer_70 (by decide) (fun c19 => ?_) (fun c19 => ?_)
        · have hF := (if_neg c19).symm.trans hF
          refine q_iload_n Cx dX6_offer_77 rfl (lv_at hl 4 rfl) ?_
          exact wX6_offer_78 Cx hret hW (lv_sub hl [0] rfl) hF
        · have hF := (if_pos c19).symm.trans hF
          refine q_iconst (v := (0 : Int32)) Cx dX6_offer_73 (by decide) ?_
          refine q_goto (tgt := 78) Cx dX6_offer_74 (by decide) ?_
          exact wX6_offer_78 Cx hret hW (lv_sub hl [0] rfl) hF
      · have hF := (if_pos c9).symm.trans hF
        refine q_bipush (v := (-2 : Int32)) Cx dX6_offer_32 (by decide) ?_
        obtain ⟨rfl, rfl⟩ := Prod.mk.inj (Option.some.inj hF)
        exact hret _ _ _ _ dX6_offer_34 (nI32 _) hW
  · have hF := (if_pos c3).symm.trans hF
    refine q_iconst (v := (-1 : Int32)) Cx dX6_offer_8 (by decide) ?_
    obtain ⟨rfl, rfl⟩ := Prod.mk.inj (Option.some.inj hF)
    exact hret _ _ _ _ dX6_offer_9 (nI32 _) hW
set_option maxRecDepth 100000 in
theorem kX6_offer {l : Launch} {V : VT} {M : Mem} {B : Blk} {l1 : Int32} {l2 : Int32} {l3 : Int32} {r : Int32} {B' : Blk} (hF : FX6_offer B l1 l2 l3 = some (r, B')) : MetI l V yX6_offer cX6_offer 5 .int ({ frames := 1, cells := 0, slots := 0, locals := 22 } : Room) [.ref (vA V 12 0), .int l1, .int l2, .int l3] r (jb M 12 B) (jb M 12 B') := metI_of (by decide) (Nat.le_of_ble_eq_true rfl) (fun E H0 _ Cx hret H locs ls hW hl => wX6_offer Cx hret hW hl hF)
theorem dX6_isSooner_0 : decode cX6_isSooner 0 = .ok (.aload_n 0, 1) := by decide +kernel
theorem dX6_isSooner_1 : decode cX6_isSooner 1 = .ok (.getfield 7, 3) := by decide +kernel
theorem dX6_isSooner_4 : decode cX6_isSooner 4 = .ok (.sipush 148, 3) := by decide +kernel
theorem dX6_isSooner_7 : decode cX6_isSooner 7 = .ok (.iload_n 1, 1) := by decide +kernel
theorem dX6_isSooner_8 : decode cX6_isSooner 8 = .ok (.iadd, 1) := by decide +kernel
theorem dX6_isSooner_9 : decode cX6_isSooner 9 = .ok (.iaload, 1) := by decide +kernel
theorem dX6_isSooner_10 : decode cX6_isSooner 10 = .ok (.aload_n 0, 1) := by decide +kernel
theorem dX6_isSooner_11 : decode cX6_isSooner 11 = .ok (.getfield 7, 3) := by decide +kernel
theorem dX6_isSooner_14 : decode cX6_isSooner 14 = .ok (.sipush 148, 3) := by decide +kernel
theorem dX6_isSooner_17 : decode cX6_isSooner 17 = .ok (.iload_n 2, 1) := by decide +kernel
theorem dX6_isSooner_18 : decode cX6_isSooner 18 = .ok (.iadd, 1) := by decide +kernel
theorem dX6_isSooner_19 : decode cX6_isSooner 19 = .ok (.iaload, 1) := by decide +kernel
theorem dX6_isSooner_20 : decode cX6_isSooner 20 = .ok (.if_icmp .eq 32, 3) := by decide +kernel
theorem dX6_isSooner_23 : decode cX6_isSooner 23 = .ok (.aload_n 0, 1) := by decide +kernel
theorem dX6_isSooner_24 : decode cX6_isSooner 24 = .ok (.getfield 7, 3) := by decide +kernel
theorem dX6_isSooner_27 : decode cX6_isSooner 27 = .ok (.sipush 148, 3) := by decide +kernel
theorem dX6_isSooner_30 : decode cX6_isSooner 30 = .ok (.iload_n 1, 1) := by decide +kernel
theorem dX6_isSooner_31 : decode cX6_isSooner 31 = .ok (.iadd, 1) := by decide +kernel
theorem dX6_isSooner_32 : decode cX6_isSooner 32 = .ok (.iaload, 1) := by decide +kernel
theorem dX6_isSooner_33 : decode cX6_isSooner 33 = .ok (.aload_n 0, 1) := by decide +kernel
theorem dX6_isSooner_34 : decode cX6_isSooner 34 = .ok (.getfield 7, 3) := by decide +kernel
theorem dX6_isSooner_37 : decode cX6_isSooner 37 = .ok (.sipush 148, 3) := by decide +kernel
theorem dX6_isSooner_40 : decode cX6_isSooner 40 = .ok (.iload_n 2, 1) := by decide +kernel
theorem dX6_isSooner_41 : decode cX6_isSooner 41 = .ok (.iadd, 1) := by decide +kernel
theorem dX6_isSooner_42 : decode cX6_isSooner 42 = .ok (.iaload, 1) := by decide +kernel
theorem dX6_isSooner_43 : decode cX6_isSooner 43 = .ok (.if_icmp .ge 7, 3) := by decide +kernel
theorem dX6_isSooner_46 : decode cX6_isSooner 46 = .ok (.iconst 1, 1) := by decide +kernel
theorem dX6_isSooner_47 : decode cX6_isSooner 47 = .ok (.goto 4, 3) := by decide +kernel
theorem dX6_isSooner_50 : decode cX6_isSooner 50 = .ok (.iconst 0, 1) := by decide +kernel
theorem dX6_isSooner_51 : decode cX6_isSooner 51 = .ok (.ireturn, 1) := by decide +kernel
theorem dX6_isSooner_52 : decode cX6_isSooner 52 = .ok (.aload_n 0, 1) := by decide +kernel
theorem dX6_isSooner_53 : decode cX6_isSooner 53 = .ok (.getfield 40, 3) := by decide +kernel
theorem dX6_isSooner_56 : decode cX6_isSooner 56 = .ok (.iload_n 1, 1) := by decide +kernel
theorem dX6_isSooner_57 : decode cX6_isSooner 57 = .ok (.iaload, 1) := by decide +kernel
theorem dX6_isSooner_58 : decode cX6_isSooner 58 = .ok (.aload_n 0, 1) := by decide +kernel
theorem dX6_isSooner_59 : decode cX6_isSooner 59 = .ok (.getfield 40, 3) := by decide +kernel
theorem dX6_isSooner_62 : decode cX6_isSooner 62 = .ok (.iload_n 2, 1) := by decide +kernel
theorem dX6_isSooner_63 : decode cX6_isSooner 63 = .ok (.iaload, 1) := by decide +kernel
theorem dX6_isSooner_64 : decode cX6_isSooner 64 = .ok (.if_icmp .ge 7, 3) := by decide +kernel
theorem dX6_isSooner_67 : decode cX6_isSooner 67 = .ok (.iconst 1, 1) := by decide +kernel
theorem dX6_isSooner_68 : decode cX6_isSooner 68 = .ok (.goto 4, 3) := by decide +kernel
theorem dX6_isSooner_71 : decode cX6_isSooner 71 = .ok (.iconst 0, 1) := by decide +kernel
theorem dX6_isSooner_72 : decode cX6_isSooner 72 = .ok (.ireturn, 1) := by decide +kernel
theorem okX6_isSooner : CalOK yX6_isSooner cX6_isSooner 3 (some .boolean) 2 := ⟨wd_73, wd_871, by decide +kernel⟩
theorem ovX6_isSooner : VirOK yX6_isSooner := ⟨wd_870, wd_38⟩
def FX6_isSooner (B : Blk) (l1 : Int32) (l2 : Int32) : Option Int32 :=
  ld (B 1) 356 ((148 : Int32) + l1) fun v1 =>
  ld (B 1) 356 ((148 : Int32) + l2) fun v4 =>
  if v1 = v4 then
    ld (B 9) 24 l1 fun v8 =>
    ld (B 9) 24 l2 fun v11 =>
    if v11 ≤ v8 then
      some (0 : Int32)
    else
      some (1 : Int32)
  else
    ld (B 1) 356 ((148 : Int32) + l1) fun v15 =>
    ld (B 1) 356 ((148 : Int32) + l2) fun v18 =>
    if v18 ≤ v15 then
      some (0 : Int32)
    else
      some (1 : Int32)
set_option maxRecDepth 100000 in
set_option maxHeartbeats 4000000 in
theorem wX6_isSooner {E : WE} {V : VT} {A : Nat → Prop} {H0 : Heap} {M : Mem} (Cx : CX E RX6 cX6_isSooner 3 0 0) {r : Int32} {B : Blk} (hret : RetI E V A H0 cX6_isSooner .boolean r (jb M 12 B)) {H : Heap} {locs : List Loc} {ls : Array Slot} {l1 : Int32} {l2 : Int32} (hW : Wd V A H0 (jb M 12 B) (eS E) H locs) (hl : lv_has ls 3 [(0, .ref (vA V 12 0)), (1, .int l1), (2, .int l2)]) (hF : FX6_isSooner B l1 l2 = some r) : Wq E H locs 0 ls [] := by
  unfold FX6_isSooner at hF
  refine q_aload_n Cx dX6_isSooner_0 rfl (lv_at hl 0 rfl) ?_
  refine q_get (v := .ref (vA V 12 1)) Cx hW oZ ic6 0 (by decide) rfl wd_714 dX6_isSooner_1 ?_
  refine q_sipush (v := (148 : Int32)) Cx dX6_isSooner_4 (by decide) ?_
  refine q_iload_n Cx dX6_isSooner_7 rfl (lv_at hl 1 rfl) ?_
  refine q_iadd Cx dX6_isSooner_8 ?_
  obtain ⟨h2, v1, e3, hF⟩ := ld_some hF
  refine qb_iald Cx hW az_1 h2 e3 dX6_isSooner_9 ?_
  refine q_aload_n Cx dX6_isSooner_10 rfl (lv_at hl 0 rfl) ?_
  refine q_get (v := .ref (vA V 12 1)) Cx hW oZ ic6 0 (by decide) rfl wd_714 dX6_isSooner_11 ?_
  refine q_sipush (v := (148 : Int32)) Cx dX6_isSooner_14 (by decide) ?_
  refine q_iload_n Cx dX6_isSooner_17 rfl (lv_at hl 2 rfl) ?_
  refine q_iadd Cx dX6_isSooner_18 ?_
  obtain ⟨h5, v4, e6, hF⟩ := ld_some hF
  refine qb_iald Cx hW az_1 h5 e6 dX6_isSooner_19 ?_
  refine q_icmp_eq (tgt := 52) Cx dX6_isSooner_20 (by decide) (fun c7 => ?_) (fun c7 => ?_)
  · have hF := (if_pos c7).symm.trans hF
    refine q_aload_n Cx dX6_isSooner_52 rfl (lv_at hl 0 rfl) ?_
    refine q_get (v := .ref (vA V 12 9)) Cx hW oZ ic6 13 (by decide) rfl wd_727 dX6_isSooner_53 ?_
    refine q_iload_n Cx dX6_isSooner_56 rfl (lv_at hl 1 rfl) ?_
    obtain ⟨h9, v8, e10, hF⟩ := ld_some hF
    refine qb_iald Cx hW az_9 h9 e10 dX6_isSooner_57 ?_
    refine q_aload_n Cx dX6_isSooner_58 rfl (lv_at hl 0 rfl) ?_
    refine q_get (v := .ref (vA V 12 9)) Cx hW oZ ic6 13 (by decide) rfl wd_727 dX6_isSooner_59 ?_
    refine q_iload_n Cx dX6_isSooner_62 rfl (lv_at hl 2 rfl) ?_
    obtain ⟨h12, v11, e13, hF⟩ := ld_some hF
    refine qb_iald Cx hW az_9 h12 e13 dX6_isSooner_63 ?_
    refine q_icmp_ge (tgt := 71) Cx dX6_isSooner_64 (by decide) (fun c14 => ?_) (fun c14 => ?_)
    · have hF := (if_pos c14).symm.trans hF
      refine q_iconst (v := (0 : Int32)) Cx dX6_isSooner_71 (by decide) ?_
      obtain rfl := Option.some.inj hF
      exact hret _ _ _ _ dX6_isSooner_72 (by rfl) hW
    · have hF := (if_neg c14).symm.trans hF
      refine q_iconst (v := (1 : Int32)) Cx dX6_isSooner_67 (by decide) ?_
      refine q_goto (tgt := 72) Cx dX6_isSooner_68 (by decide) ?_
      obtain rfl := Option.some.inj hF
      exact hret _ _ _ _ dX6_isSooner_72 (by rfl) hW
  · have hF := (if_neg c7).symm.trans hF
    refine q_aload_n Cx dX6_isSooner_23 rfl (lv_at hl 0 rfl) ?_
    refine q_get (v := .ref (vA V 12 1)) Cx hW oZ ic6 0 (by decide) rfl wd_714 dX6_isSooner_24 ?_
    refine q_sipush (v := (148 : Int32)) Cx dX6_isSooner_27 (by decide) ?_
    refine q_iload_n Cx dX6_isSooner_30 rfl (lv_at hl 1 rfl) ?_
    refine q_iadd Cx dX6_isSooner_31 ?_
    obtain ⟨h16, v15, e17, hF⟩ := ld_some hF
    refine qb_iald Cx hW az_1 h16 e17 dX6_isSooner_32 ?_
    refine q_aload_n Cx dX6_isSooner_33 rfl (lv_at hl 0 rfl) ?_
    refine q_get (v := .ref (vA V 12 1)) Cx hW oZ ic6 0 (by decide) rfl wd_714 dX6_isSooner_34 ?_
    refine q_sipush (v := (148 : Int32)) Cx dX6_isSooner_37 (by decide) ?_
    refine q_iload_n Cx dX6_isSooner_40 rfl (lv_at hl 2 rfl) ?_
    refine q_iadd Cx dX6_isSooner_41 ?_
    obtain ⟨h19, v18, e20, hF⟩ := ld_some hF
    refine qb_iald Cx hW az_1 h19 e20 dX6_isSooner_42 ?_
    refine q_icmp_ge (tgt := 50) Cx dX6_isSooner_43 (by decide) (fun c21 => ?_) (fun c21 => ?_)
    · have hF := (if_pos c21).symm.trans hF
      refine q_iconst (v := (0 : Int32)) Cx dX6_isSooner_50 (by decide) ?_
      obtain rfl := Option.some.inj hF
      exact hret _ _ _ _ dX6_isSooner_51 (by rfl) hW
    · have hF := (if_neg c21).symm.trans hF
      refine q_iconst (v := (1 : Int32)) Cx dX6_isSooner_46 (by decide) ?_
      refine q_goto (tgt := 51) Cx dX6_isSooner_47 (by decide) ?_
      obtain rfl := Option.some.inj hF
      exact hret _ _ _ _ dX6_isSooner_51 (by rfl) hW
set_option maxRecDepth 100000 in
theorem kX6_isSooner {l : Launch} {V : VT} {M : Mem} {B : Blk} {l1 : Int32} {l2 : Int32} {r : Int32} (hF : FX6_isSooner B l1 l2 = some r) : MetI l V yX6_isSooner cX6_isSooner 3 .boolean ({ frames := 0, cells := 0, slots := 0, locals := 0 } : Room) [.ref (vA V 12 0), .int l1, .int l2] r (jb M 12 B) (jb M 12 B) := metI_of (by decide) (Nat.le_of_ble_eq_true rfl) (fun E H0 _ Cx hret H locs ls hW hl => wX6_isSooner Cx hret hW hl hF)
theorem dX6_nextOffer_0 : decode cX6_nextOffer 0 = .ok (.bipush (-6), 2) := by decide +kernel
theorem dX6_nextOffer_2 : decode cX6_nextOffer 2 = .ok (.istore_n 3, 1) := by decide +kernel
theorem dX6_nextOffer_3 : decode cX6_nextOffer 3 = .ok (.iconst 0, 1) := by decide +kernel
theorem dX6_nextOffer_4 : decode cX6_nextOffer 4 = .ok (.istore 4, 2) := by decide +kernel
theorem dX6_nextOffer_6 : decode cX6_nextOffer 6 = .ok (.iload 4, 2) := by decide +kernel
theorem dX6_nextOffer_8 : decode cX6_nextOffer 8 = .ok (.aload_n 0, 1) := by decide +kernel
theorem dX6_nextOffer_9 : decode cX6_nextOffer 9 = .ok (.getfield 7, 3) := by decide +kernel
theorem dX6_nextOffer_12 : decode cX6_nextOffer 12 = .ok (.iconst 0, 1) := by decide +kernel
theorem dX6_nextOffer_13 : decode cX6_nextOffer 13 = .ok (.iaload, 1) := by decide +kernel
theorem dX6_nextOffer_14 : decode cX6_nextOffer 14 = .ok (.if_icmp .ge 96, 3) := by decide +kernel
theorem dX6_nextOffer_17 : decode cX6_nextOffer 17 = .ok (.iload 4, 2) := by decide +kernel
theorem dX6_nextOffer_19 : decode cX6_nextOffer 19 = .ok (.iload_n 1, 1) := by decide +kernel
theorem dX6_nextOffer_20 : decode cX6_nextOffer 20 = .ok (.if_icmp .eq 57, 3) := by decide +kernel
theorem dX6_nextOffer_23 : decode cX6_nextOffer 23 = .ok (.aload_n 0, 1) := by decide +kernel
theorem dX6_nextOffer_24 : decode cX6_nextOffer 24 = .ok (.getfield 7, 3) := by decide +kernel
theorem dX6_nextOffer_27 : decode cX6_nextOffer 27 = .ok (.bipush 124, 2) := by decide +kernel
theorem dX6_nextOffer_29 : decode cX6_nextOffer 29 = .ok (.iload 4, 2) := by decide +kernel
theorem dX6_nextOffer_31 : decode cX6_nextOffer 31 = .ok (.iadd, 1) := by decide +kernel
theorem dX6_nextOffer_32 : decode cX6_nextOffer 32 = .ok (.iaload, 1) := by decide +kernel
theorem dX6_nextOffer_33 : decode cX6_nextOffer 33 = .ok (.ifCond .le 44, 3) := by decide +kernel
theorem dX6_nextOffer_36 : decode cX6_nextOffer 36 = .ok (.aload_n 0, 1) := by decide +kernel
theorem dX6_nextOffer_37 : decode cX6_nextOffer 37 = .ok (.getfield 40, 3) := by decide +kernel
theorem dX6_nextOffer_40 : decode cX6_nextOffer 40 = .ok (.iload 4, 2) := by decide +kernel
theorem dX6_nextOffer_42 : decode cX6_nextOffer 42 = .ok (.iaload, 1) := by decide +kernel
theorem dX6_nextOffer_43 : decode cX6_nextOffer 43 = .ok (.bipush (-6), 2) := by decide +kernel
theorem dX6_nextOffer_45 : decode cX6_nextOffer 45 = .ok (.if_icmp .eq 32, 3) := by decide +kernel
theorem dX6_nextOffer_48 : decode cX6_nextOffer 48 = .ok (.aload_n 0, 1) := by decide +kernel
theorem dX6_nextOffer_49 : decode cX6_nextOffer 49 = .ok (.getfield 40, 3) := by decide +kernel
theorem dX6_nextOffer_52 : decode cX6_nextOffer 52 = .ok (.iload 4, 2) := by decide +kernel
theorem dX6_nextOffer_54 : decode cX6_nextOffer 54 = .ok (.iaload, 1) := by decide +kernel
theorem dX6_nextOffer_55 : decode cX6_nextOffer 55 = .ok (.aload_n 0, 1) := by decide +kernel
theorem dX6_nextOffer_56 : decode cX6_nextOffer 56 = .ok (.getfield 7, 3) := by decide +kernel
theorem dX6_nextOffer_59 : decode cX6_nextOffer 59 = .ok (.iconst 2, 1) := by decide +kernel
theorem dX6_nextOffer_60 : decode cX6_nextOffer 60 = .ok (.iaload, 1) := by decide +kernel
theorem dX6_nextOffer_61 : decode cX6_nextOffer 61 = .ok (.if_icmp .gt 16, 3) := by decide +kernel
theorem dX6_nextOffer_64 : decode cX6_nextOffer 64 = .ok (.iload_n 2, 1) := by decide +kernel
theorem dX6_nextOffer_65 : decode cX6_nextOffer 65 = .ok (.iload 4, 2) := by decide +kernel
theorem dX6_nextOffer_67 : decode cX6_nextOffer 67 = .ok (.ishr, 1) := by decide +kernel
theorem dX6_nextOffer_68 : decode cX6_nextOffer 68 = .ok (.iconst 1, 1) := by decide +kernel
theorem dX6_nextOffer_69 : decode cX6_nextOffer 69 = .ok (.iand, 1) := by decide +kernel
theorem dX6_nextOffer_70 : decode cX6_nextOffer 70 = .ok (.ifCond .ne 7, 3) := by decide +kernel
theorem dX6_nextOffer_73 : decode cX6_nextOffer 73 = .ok (.iconst 1, 1) := by decide +kernel
theorem dX6_nextOffer_74 : decode cX6_nextOffer 74 = .ok (.goto 4, 3) := by decide +kernel
theorem dX6_nextOffer_77 : decode cX6_nextOffer 77 = .ok (.iconst 0, 1) := by decide +kernel
theorem dX6_nextOffer_78 : decode cX6_nextOffer 78 = .ok (.istore 5, 2) := by decide +kernel
theorem dX6_nextOffer_80 : decode cX6_nextOffer 80 = .ok (.iload 5, 2) := by decide +kernel
theorem dX6_nextOffer_82 : decode cX6_nextOffer 82 = .ok (.ifCond .eq 22, 3) := by decide +kernel
theorem dX6_nextOffer_85 : decode cX6_nextOffer 85 = .ok (.iload_n 3, 1) := by decide +kernel
theorem dX6_nextOffer_86 : decode cX6_nextOffer 86 = .ok (.bipush (-6), 2) := by decide +kernel
theorem dX6_nextOffer_88 : decode cX6_nextOffer 88 = .ok (.if_icmp .eq 13, 3) := by decide +kernel
theorem dX6_nextOffer_91 : decode cX6_nextOffer 91 = .ok (.aload_n 0, 1) := by decide +kernel
theorem dX6_nextOffer_92 : decode cX6_nextOffer 92 = .ok (.iload 4, 2) := by decide +kernel
theorem dX6_nextOffer_94 : decode cX6_nextOffer 94 = .ok (.iload_n 3, 1) := by decide +kernel
theorem dX6_nextOffer_95 : decode cX6_nextOffer 95 = .ok (.invokevirtual 108, 3) := by decide +kernel
theorem dX6_nextOffer_98 : decode cX6_nextOffer 98 = .ok (.ifCond .eq 6, 3) := by decide +kernel
theorem dX6_nextOffer_101 : decode cX6_nextOffer 101 = .ok (.iload 4, 2) := by decide +kernel
theorem dX6_nextOffer_103 : decode cX6_nextOffer 103 = .ok (.istore_n 3, 1) := by decide +kernel
theorem dX6_nextOffer_104 : decode cX6_nextOffer 104 = .ok (.iinc 4 1, 3) := by decide +kernel
theorem dX6_nextOffer_107 : decode cX6_nextOffer 107 = .ok (.goto (-101), 3) := by decide +kernel
theorem dX6_nextOffer_110 : decode cX6_nextOffer 110 = .ok (.iload_n 3, 1) := by decide +kernel
theorem dX6_nextOffer_111 : decode cX6_nextOffer 111 = .ok (.ireturn, 1) := by decide +kernel
theorem okX6_nextOffer : CalOK yX6_nextOffer cX6_nextOffer 6 (some .int) 2 := ⟨wd_73, wd_867, by decide +kernel⟩
theorem ovX6_nextOffer : VirOK yX6_nextOffer := ⟨wd_866, wd_37⟩
def FX6_nextOffer_101 (B : Blk) (k6 : Int32 → Int32 → Int32 → Int32 → Option Int32) (l1 : Int32) (l2 : Int32) (l4 : Int32) : Option Int32 :=
  lt1 (l4 + (1 : Int32)) fun x10 =>
  k6 l1 l2 l4 x10
set_option maxRecDepth 100000 in
set_option maxHeartbeats 4000000 in
theorem wX6_nextOffer_101 {E : WE} {V : VT} {A : Nat → Prop} {H0 : Heap} {M : Mem} (Cx : CX E RX6 cX6_nextOffer 6 1 22) {r : Int32} {B : Blk} (hret : RetI E V A H0 cX6_nextOffer .int r (jb M 12 B)) {k6 : Int32 → Int32 → Int32 → Int32 → Option Int32} (hk6 : ∀ {H : Heap} {locs : List Loc} {ls : Array Slot} {l1 : Int32} {l2 : Int32} {l3 : Int32} {l4 : Int32}, Wd V A H0 (jb M 12 B) (eS E) H locs → lv_has ls 6 [(0, .ref (vA V 12 0)), (1, .int l1), (2, .int l2), (3, .int l3), (4, .int l4)] → k6 l1 l2 l3 l4 = some r → Wq E H locs 6 ls []) {H : Heap} {locs : List Loc} {ls : Array Slot} {l1 : Int32} {l2 : Int32} {l4 : Int32} (hW : Wd V A H0 (jb M 12 B) (eS E) H locs) (hl : lv_has ls 6 [(0, .ref (vA V 12 0)), (1, .int l1), (2, .int l2), (4, .int l4)]) (hF : FX6_nextOffer_101 B k6 l1 l2 l4 = some r) : Wq E H locs 101 ls [] := by
  unfold FX6_nextOffer_101 at hF
  refine q_iload Cx dX6_nextOffer_101 (lv_at hl 3 rfl) ?_
  refine q_istore_n (lv' := [(3, .int l4), (0, .ref (vA V 12 0)), (1, .int l1), (2, .int l2), (4, .int l4)]) Cx dX6_nextOffer_103 rfl hl (by decide) rfl (fun ls hl => ?_)
  obtain ⟨x10, e11, hF⟩ := lt1_some hF
  refine q_iinc (k := 4) (v := x10) (lv' := [(4, .int x10), (3, .int l4), (0, .ref (vA V 12 0)), (1, .int l1), (2, .int l2)]) Cx dX6_nextOffer_104 hl rfl e11.symm (by decide) rfl (fun ls hl => ?_)
  refine q_goto (tgt := 6) Cx dX6_nextOffer_107 (by decide) ?_
  exact hk6 hW (lv_sub hl [2, 3, 4, 1, 0] rfl) hF
def FX6_nextOffer_78 (B : Blk) (k6 : Int32 → Int32 → Int32 → Int32 → Option Int32) (l1 : Int32) (l2 : Int32) (l3 : Int32) (l4 : Int32) (s0 : Int32) : Option Int32 :=
  if s0 = 0 then
    lt1 (l4 + (1 : Int32)) fun x7 =>
    k6 l1 l2 l3 x7
  else
    if l3 = (-6 : Int32) then
      FX6_nextOffer_101 B k6 l1 l2 l4
    else
      c1 (FX6_isSooner B l4 l3) fun r12 =>
      if r12 = 0 then
        lt1 (l4 + (1 : Int32)) fun x15 =>
        k6 l1 l2 l3 x15
      else
        FX6_nextOffer_101 B k6 l1 l2 l4
set_option maxRecDepth 100000 in
set_option maxHeartbeats 4000000 in
theorem wX6_nextOffer_78 {E : WE} {V : VT} {A : Nat → Prop} {H0 : Heap} {M : Mem} (Cx : CX E RX6 cX6_nextOffer 6 1 22) {r : Int32} {B : Blk} (hret : RetI E V A H0 cX6_nextOffer .int r (jb M 12 B)) {k6 : Int32 → Int32 → Int32 → Int32 → Option Int32} (hk6 : ∀ {H : Heap} {locs : List Loc} {ls : Array Slot} {l1 : Int32} {l2 : Int32} {l3 : Int32} {l4 : Int32}, Wd V A H0 (jb M 12 B) (eS E) H locs → lv_has ls 6 [(0, .ref (vA V 12 0)), (1, .int l1), (2, .int l2), (3, .int l3), (4, .int l4)] → k6 l1 l2 l3 l4 = some r → Wq E H locs 6 ls []) {H : Heap} {locs : List Loc} {ls : Array Slot} {l1 : Int32} {l2 : Int32} {l3 : Int32} {l4 : Int32} {s0 : Int32} (hW : Wd V A H0 (jb M 12 B) (eS E) H locs) (hl : lv_has ls 6 [(0, .ref (vA V 12 0)), (1, .int l1), (2, .int l2), (3, .int l3), (4, .int l4)]) (hF : FX6_nextOffer_78 B k6 l1 l2 l3 l4 s0 = some r) : Wq E H locs 78 ls [.int s0] := by
  unfold FX6_nextOffer_78 at hF
  refine q_istore (lv' := [(5, .int s0), (0, .ref (vA V 12 0)), (1, .int l1), (2, .int l2), (3, .int l3), (4, .int l4)]) Cx dX6_nextOffer_78 hl (by decide) rfl (fun ls hl => ?_)
  refine q_iload Cx dX6_nextOffer_80 (lv_at hl 0 rfl) ?_
  refine q_if_eq (tgt := 104) Cx dX6_nextOffer_82 (by decide) (fun c6 => ?_) (fun c6 => ?_)
  · have hF := (if_pos c6).symm.trans hF
    obtain ⟨x7, e8, hF⟩ := lt1_some hF
    refine q_iinc (k := 5) (v := x7) (lv' := [(4, .int x7), (5, .int s0), (0, .ref (vA V 12 0)), (1, .int l1), (2, .int l2), (3, .int l3)]) Cx dX6_nextOffer_104 hl rfl e8.symm (by decide) rfl (fun ls hl => ?_)
    refine q_goto (tgt := 6) Cx dX6_nextOffer_107 (by decide) ?_
    exact hk6 hW (lv_sub hl [2, 3, 4, 5, 0] rfl) hF
  · have hF := (if_neg c6).symm.trans hF
    refine q_iload_n Cx dX6_nextOffer_85 rfl (lv_at hl 4 rfl) ?_
    refine q_bipush (v := (-6 : Int32)) Cx dX6_nextOffer_86 (by decide) ?_
    refine q_icmp_eq (tgt := 101) Cx dX6_nextOffer_88 (by decide) (fun c9 => ?_) (fun c9 => ?_)
    · have hF := (if_pos c9).symm.trans hF
      exact wX6_nextOffer_101 Cx hret hk6 hW (lv_sub hl [1, 2, 3, 5] rfl) hF
    · have hF := (if_neg c9).symm.trans hF
      refine q_aload_n Cx dX6_nextOffer_91 rfl (lv_at hl 1 rfl) ?_
      refine q_iload Cx dX6_nextOffer_92 (lv_at hl 5 rfl) ?_
      refine q_iload_n Cx dX6_nextOffer_94 rfl (lv_at hl 4 rfl) ?_
      obtain ⟨r12, e13, hF⟩ := c1_some hF
      refine q_callI (as := [.int l4, .int l3]) (rest := []) Cx (kX6_isSooner e13) okX6_isSooner ovX6_isSooner wd_868 ⟨rfl, rfl, by decide, by decide⟩ hW oZ ic6 rfl hl.1 (Nat.le_of_ble_eq_true rfl) rfl dX6_nextOffer_95 (fun H locs hW => ?_)
      refine q_if_eq (tgt := 104) Cx dX6_nextOffer_98 (by decide) (fun c14 => ?_) (fun c14 => ?_)
      · have hF := (if_pos c14).symm.trans hF
        obtain ⟨x15, e16, hF⟩ := lt1_some hF
        refine q_iinc (k := 5) (v := x15) (lv' := [(4, .int x15), (5, .int s0), (0, .ref (vA V 12 0)), (1, .int l1), (2, .int l2), (3, .int l3)]) Cx dX6_nextOffer_104 hl rfl e16.symm (by decide) rfl (fun ls hl => ?_)
        refine q_goto (tgt := 6) Cx dX6_nextOffer_107 (by decide) ?_
        exact hk6 hW (lv_sub hl [2, 3, 4, 5, 0] rfl) hF
      · have hF := (if_neg c14).symm.trans hF
        exact wX6_nextOffer_101 Cx hret hk6 hW (lv_sub hl [1, 2, 3, 5] rfl) hF
def FX6_nextOffer_77 (B : Blk) (k6 : Int32 → Int32 → Int32 → Int32 → Option Int32) (l1 : Int32) (l2 : Int32) (l3 : Int32) (l4 : Int32) : Option Int32 :=
  FX6_nextOffer_78 B k6 l1 l2 l3 l4 (0 : Int32)
set_option maxRecDepth 100000 in
set_option maxHeartbeats 4000000 in
theorem wX6_nextOffer_77 {E : WE} {V : VT} {A : Nat → Prop} {H0 : Heap} {M : Mem} (Cx : CX E RX6 cX6_nextOffer 6 1 22) {r : Int32} {B : Blk} (hret : RetI E V A H0 cX6_nextOffer .int r (jb M 12 B)) {k6 : Int32 → Int32 → Int32 → Int32 → Option Int32} (hk6 : ∀ {H : Heap} {locs : List Loc} {ls : Array Slot} {l1 : Int32} {l2 : Int32} {l3 : Int32} {l4 : Int32}, Wd V A H0 (jb M 12 B) (eS E) H locs → lv_has ls 6 [(0, .ref (vA V 12 0)), (1, .int l1), (2, .int l2), (3, .int l3), (4, .int l4)] → k6 l1 l2 l3 l4 = some r → Wq E H locs 6 ls []) {H : Heap} {locs : List Loc} {ls : Array Slot} {l1 : Int32} {l2 : Int32} {l3 : Int32} {l4 : Int32} (hW : Wd V A H0 (jb M 12 B) (eS E) H locs) (hl : lv_has ls 6 [(0, .ref (vA V 12 0)), (1, .int l1), (2, .int l2), (3, .int l3), (4, .int l4)]) (hF : FX6_nextOffer_77 B k6 l1 l2 l3 l4 = some r) : Wq E H locs 77 ls [] := by
  unfold FX6_nextOffer_77 at hF
  refine q_iconst (v := (0 : Int32)) Cx dX6_nextOffer_77 (by decide) ?_
  exact wX6_nextOffer_78 Cx hret hk6 hW (lv_sub hl [0, 1, 2, 3, 4] rfl) hF
def FX6_nextOffer_6s (B : Blk) (k6 : Int32 → Int32 → Int32 → Int32 → Option Int32) (l1 : Int32) (l2 : Int32) (l3 : Int32) (l4 : Int32) : Option Int32 :=
  ld (B 1) 356 (0 : Int32) fun v1 =>
  if v1 ≤ l4 then
    some l3
  else
    if l4 = l1 then
      FX6_nextOffer_77 B k6 l1 l2 l3 l4
    else
      ld (B 1) 356 ((124 : Int32) + l4) fun v17 =>
      if v17 ≤ 0 then
        FX6_nextOffer_77 B k6 l1 l2 l3 l4
      else
        ld (B 9) 24 l4 fun v21 =>
        if v21 = (-6 : Int32) then
          FX6_nextOffer_77 B k6 l1 l2 l3 l4
        else
          ld (B 9) 24 l4 fun v25 =>
          ld (B 1) 356 (2 : Int32) fun v28 =>
          if v28 < v25 then
            FX6_nextOffer_77 B k6 l1 l2 l3 l4
          else
            if ((l2 >>> (l4 &&& 31)) &&& (1 : Int32)) = 0 then
              FX6_nextOffer_78 B k6 l1 l2 l3 l4 (1 : Int32)
            else
              FX6_nextOffer_77 B k6 l1 l2 l3 l4
set_option maxRecDepth 100000 in
set_option maxHeartbeats 4000000 in
theorem wX6_nextOffer_6s {E : WE} {V : VT} {A : Nat → Prop} {H0 : Heap} {M : Mem} (Cx : CX E RX6 cX6_nextOffer 6 1 22) {r : Int32} {B : Blk} (hret : RetI E V A H0 cX6_nextOffer .int r (jb M 12 B)) {k6 : Int32 → Int32 → Int32 → Int32 → Option Int32} (hk6 : ∀ {H : Heap} {locs : List Loc} {ls : Array Slot} {l1 : Int32} {l2 : Int32} {l3 : Int32} {l4 : Int32}, Wd V A H0 (jb M 12 B) (eS E) H locs → lv_has ls 6 [(0, .ref (vA V 12 0)), (1, .int l1), (2, .int l2), (3, .int l3), (4, .int l4)] → k6 l1 l2 l3 l4 = some r → Wq E H locs 6 ls []) {H : Heap} {locs : List Loc} {ls : Array Slot} {l1 : Int32} {l2 : Int32} {l3 : Int32} {l4 : Int32} (hW : Wd V A H0 (jb M 12 B) (eS E) H locs) (hl : lv_has ls 6 [(0, .ref (vA V 12 0)), (1, .int l1), (2, .int l2), (3, .int l3), (4, .int l4)]) (hF : FX6_nextOffer_6s B k6 l1 l2 l3 l4 = some r) : Wq E H locs 6 ls [] := by
  unfold FX6_nextOffer_6s at hF
  refine q_iload Cx dX6_nextOffer_6 (lv_at hl 4 rfl) ?_
  refine q_aload_n Cx dX6_nextOffer_8 rfl (lv_at hl 0 rfl) ?_
  refine q_get (v := .ref (vA V 12 1)) Cx hW oZ ic6 0 (by decide) rfl wd_714 dX6_nextOffer_9 ?_
  refine q_iconst (v := (0 : Int32)) Cx dX6_nextOffer_12 (by decide) ?_
  obtain ⟨h2, v1, e3, hF⟩ := ld_some hF
  refine qb_iald Cx hW az_1 h2 e3 dX6_nextOffer_13 ?_
  refine q_icmp_ge (tgt := 110) Cx dX6_nextOffer_14 (by decide) (fun c4 => ?_) (fun c4 => ?_)
  · have hF := (if_pos c4).symm.trans hF
    refine q_iload_n Cx dX6_nextOffer_110 rfl (lv_at hl 3 rfl) ?_
    obtain rfl := Option.some.inj hF
    exact hret _ _ _ _ dX6_nextOffer_111 (nI32 _) hW
  · have hF := (if_neg c4).symm.trans hF
    refine q_iload Cx dX6_nextOffer_17 (lv_at hl 4 rfl) ?_
    refine q_iload_n Cx dX6_nextOffer_19 rfl (lv_at hl 1 rfl) ?_
    refine q_icmp_eq (tgt := 77) Cx dX6_nextOffer_20 (by decide) (fun c5 => ?_) (fun c5 => ?_)
    · have hF := (if_pos c5).symm.trans hF
      exact wX6_nextOffer_77 Cx hret hk6 hW (lv_sub hl [0, 1, 2, 3, 4] rfl) hF
    · have hF := (if_neg c5).symm.trans hF
      refine q_aload_n Cx dX6_nextOffer_23 rfl (lv_at hl 0 rfl) ?_
      refine q_get (v := .ref (vA V 12 1)) Cx hW oZ ic6 0 (by decide) rfl wd_714 dX6_nextOffer_24 ?_
      refine q_bipush (v := (124 : Int32)) Cx dX6_nextOffer_27 (by decide) ?_
      refine q_iload Cx dX6_nextOffer_29 (lv_at hl 4 rfl) ?_
      refine q_iadd Cx dX6_nextOffer_31 ?_
      obtain ⟨h18, v17, e19, hF⟩ := ld_some hF
      refine qb_iald Cx hW az_1 h18 e19 dX6_nextOffer_32 ?_
      refine q_if_le (tgt := 77) Cx dX6_nextOffer_33 (by decide) (fun c20 => ?_) (fun c20 => ?_)
      · have hF := (if_pos c20).symm.trans hF
        exact wX6_nextOffer_77 Cx hret hk6 hW (lv_sub hl [0, 1, 2, 3, 4] rfl) hF
      · have hF := (if_neg c20).symm.trans hF
        refine q_aload_n Cx dX6_nextOffer_36 rfl (lv_at hl 0 rfl) ?_
        refine q_get (v := .ref (vA V 12 9)) Cx hW oZ ic6 13 (by decide) rfl wd_727 dX6_nextOffer_37 ?_
        refine q_iload Cx dX6_nextOffer_40 (lv_at hl 4 rfl) ?_
        obtain ⟨h22, v21, e23, hF⟩ := ld_some hF
        refine qb_iald Cx hW az_9 h22 e23 dX6_nextOffer_42 ?_
        refine q_bipush (v := (-6 : Int32)) Cx dX6_nextOffer_43 (by decide) ?_
        refine q_icmp_eq (tgt := 77) Cx dX6_nextOffer_45 (by decide) (fun c24 => ?_) (fun c24 => ?_)
        · have hF := (if_pos c24).symm.trans hF
          exact wX6_nextOffer_77 Cx hret hk6 hW (lv_sub hl [0, 1, 2, 3, 4] rfl) hF
        · have hF := (if_neg c24).symm.trans hF
          refine q_aload_n Cx dX6_nextOffer_48 rfl (lv_at hl 0 rfl) ?_
          refine q_get (v := .ref (vA V 12 9)) Cx hW oZ ic6 13 (by decide) rfl wd_727 dX6_nextOffer_49 ?_
          refine q_iload Cx dX6_nextOffer_52 (lv_at hl 4 rfl) ?_
          obtain ⟨h26, v25, e27, hF⟩ := ld_some hF
          refine qb_iald Cx hW az_9 h26 e27 dX6_nextOffer_54 ?_
          refine q_aload_n Cx dX6_nextOffer_55 rfl (lv_at hl 0 rfl) ?_
          refine q_get (v := .ref (vA V 12 1)) Cx hW oZ ic6 0 (by decide) rfl wd_714 dX6_nextOffer_56 ?_
          refine q_iconst (v := (2 : Int32)) Cx dX6_nextOffer_59 (by decide) ?_
          obtain ⟨h29, v28, e30, hF⟩ := ld_some hF
          refine qb_iald Cx hW az_1 h29 e30 dX6_nextOffer_60 ?_
          refine q_icmp_gt (tgt := 77) Cx dX6_nextOffer_61 (by decide) (fun c31 => ?_) (fun c31 => ?_)
          · have hF := (if_pos c31).symm.trans hF
            exact wX6_nextOffer_77 Cx hret hk6 hW (lv_sub hl [0, 1, 2, 3, 4] rfl) hF
          · have hF := (if_neg c31).symm.trans hF
            refine q_iload_n Cx dX6_nextOffer_64 rfl (lv_at hl 2 rfl) ?_
            refine q_iload Cx dX6_nextOffer_65 (lv_at hl 4 rfl) ?_
            refine q_ishr Cx dX6_nextOffer_67 ?_
            refine q_iconst (v := (1 : Int32)) Cx dX6_nextOffer_68 (by decide) ?_
            refine q_iand Cx dX6_nextOffer_69 ?_
            refine q_if_ne (tgt := 77) Cx dX6_nextOffer_70 (by decide) (fun c32 => ?_) (fun c32 => ?_)
            · have hF := (if_neg c32).symm.trans hF
              exact wX6_nextOffer_77 Cx hret hk6 hW (lv_sub hl [0, 1, 2, 3, 4] rfl) hF
            · have hF := (if_pos c32).symm.trans hF
              refine q_iconst (v := (1 : Int32)) Cx dX6_nextOffer_73 (by decide) ?_
              refine q_goto (tgt := 78) Cx dX6_nextOffer_74 (by decide) ?_
              exact wX6_nextOffer_78 Cx hret hk6 hW (lv_sub hl [0, 1, 2, 3, 4] rfl) hF
def FX6_nextOffer_6 (B : Blk) : Nat → Int32 → Int32 → Int32 → Int32 → Option Int32
  | 0 => fun _ _ _ _ => none
  | n + 1 => FX6_nextOffer_6s B (FX6_nextOffer_6 B n)
set_option maxRecDepth 100000 in
theorem wX6_nextOffer_6 {E : WE} {V : VT} {A : Nat → Prop} {H0 : Heap} {M : Mem} (Cx : CX E RX6 cX6_nextOffer 6 1 22) {r : Int32} {B : Blk} (hret : RetI E V A H0 cX6_nextOffer .int r (jb M 12 B)) : ∀ (n : Nat) {H : Heap} {locs : List Loc} {ls : Array Slot} {l1 : Int32} {l2 : Int32} {l3 : Int32} {l4 : Int32}, Wd V A H0 (jb M 12 B) (eS E) H locs → lv_has ls 6 [(0, .ref (vA V 12 0)), (1, .int l1), (2, .int l2), (3, .int l3), (4, .int l4)] → FX6_nextOffer_6 B n l1 l2 l3 l4 = some r → Wq E H locs 6 ls [] := by
  intro n
  induction n with
  | zero => intro _ _ _ _ _ _ _ hW hl hF; cases hF
  | succ n ih => intro _ _ _ _ _ _ _ hW hl hF; exact wX6_nextOffer_6s Cx hret ih hW hl hF
def FX6_nextOffer (B : Blk) (l1 : Int32) (l2 : Int32) : Option Int32 :=
  FX6_nextOffer_6 B fu l1 l2 (-6 : Int32) (0 : Int32)
set_option maxRecDepth 100000 in
set_option maxHeartbeats 4000000 in
theorem wX6_nextOffer {E : WE} {V : VT} {A : Nat → Prop} {H0 : Heap} {M : Mem} (Cx : CX E RX6 cX6_nextOffer 6 1 22) {r : Int32} {B : Blk} (hret : RetI E V A H0 cX6_nextOffer .int r (jb M 12 B)) {H : Heap} {locs : List Loc} {ls : Array Slot} {l1 : Int32} {l2 : Int32} (hW : Wd V A H0 (jb M 12 B) (eS E) H locs) (hl : lv_has ls 6 [(0, .ref (vA V 12 0)), (1, .int l1), (2, .int l2)]) (hF : FX6_nextOffer B l1 l2 = some r) : Wq E H locs 0 ls [] := by
  unfold FX6_nextOffer at hF
  refine q_bipush (v := (-6 : Int32)) Cx dX6_nextOffer_0 (by decide) ?_
  refine q_istore_n (lv' := [(3, .int (-6 : Int32)), (0, .ref (vA V 12 0)), (1, .int l1), (2, .int l2)]) Cx dX6_nextOffer_2 rfl hl (by decide) rfl (fun ls hl => ?_)
  refine q_iconst (v := (0 : Int32)) Cx dX6_nextOffer_3 (by decide) ?_
  refine q_istore (lv' := [(4, .int (0 : Int32)), (3, .int (-6 : Int32)), (0, .ref (vA V 12 0)), (1, .int l1), (2, .int l2)]) Cx dX6_nextOffer_4 hl (by decide) rfl (fun ls hl => ?_)
  exact wX6_nextOffer_6 Cx hret fu hW (lv_sub hl [2, 3, 4, 1, 0] rfl) hF
set_option maxRecDepth 100000 in
theorem kX6_nextOffer {l : Launch} {V : VT} {M : Mem} {B : Blk} {l1 : Int32} {l2 : Int32} {r : Int32} (hF : FX6_nextOffer B l1 l2 = some r) : MetI l V yX6_nextOffer cX6_nextOffer 6 .int ({ frames := 1, cells := 0, slots := 0, locals := 22 } : Room) [.ref (vA V 12 0), .int l1, .int l2] r (jb M 12 B) (jb M 12 B) := metI_of (by decide) (Nat.le_of_ble_eq_true rfl) (fun E H0 _ Cx hret H locs ls hW hl => wX6_nextOffer Cx hret hW hl hF)
theorem dX6_less_0 : decode cX6_less 0 = .ok (.iload_n 0, 1) := by decide +kernel
theorem dX6_less_1 : decode cX6_less 1 = .ok (.iload_n 1, 1) := by decide +kernel
theorem dX6_less_2 : decode cX6_less 2 = .ok (.if_icmp .ge 7, 3) := by decide +kernel
theorem dX6_less_5 : decode cX6_less 5 = .ok (.iload_n 0, 1) := by decide +kernel
theorem dX6_less_6 : decode cX6_less 6 = .ok (.goto 4, 3) := by decide +kernel
theorem dX6_less_9 : decode cX6_less 9 = .ok (.iload_n 1, 1) := by decide +kernel
theorem dX6_less_10 : decode cX6_less 10 = .ok (.ireturn, 1) := by decide +kernel
theorem okX6_less : CalOK yX6_less cX6_less 2 (some .int) 2 := ⟨wd_73, wd_878, by decide +kernel⟩
theorem osX6_less : Cond.static yX6_less ∈ lw_gd := wd_877
def FX6_less (l0 : Int32) (l1 : Int32) : Option Int32 :=
  if l1 ≤ l0 then
    some l1
  else
    some l0
set_option maxRecDepth 100000 in
set_option maxHeartbeats 4000000 in
theorem wX6_less {E : WE} {V : VT} {A : Nat → Prop} {H0 : Heap} {M : Mem} (Cx : CX E RX6 cX6_less 2 0 0) {r : Int32} (hret : RetI E V A H0 cX6_less .int r M) {H : Heap} {locs : List Loc} {ls : Array Slot} {l0 : Int32} {l1 : Int32} (hW : Wd V A H0 M (eS E) H locs) (hl : lv_has ls 2 [(0, .int l0), (1, .int l1)]) (hF : FX6_less l0 l1 = some r) : Wq E H locs 0 ls [] := by
  unfold FX6_less at hF
  refine q_iload_n Cx dX6_less_0 rfl (lv_at hl 0 rfl) ?_
  refine q_iload_n Cx dX6_less_1 rfl (lv_at hl 1 rfl) ?_
  refine q_icmp_ge (tgt := 9) Cx dX6_less_2 (by decide) (fun c1 => ?_) (fun c1 => ?_)
  · have hF := (if_pos c1).symm.trans hF
    refine q_iload_n Cx dX6_less_9 rfl (lv_at hl 1 rfl) ?_
    obtain rfl := Option.some.inj hF
    exact hret _ _ _ _ dX6_less_10 (nI32 _) hW
  · have hF := (if_neg c1).symm.trans hF
    refine q_iload_n Cx dX6_less_5 rfl (lv_at hl 0 rfl) ?_
    refine q_goto (tgt := 10) Cx dX6_less_6 (by decide) ?_
    obtain rfl := Option.some.inj hF
    exact hret _ _ _ _ dX6_less_10 (nI32 _) hW
set_option maxRecDepth 100000 in
theorem kX6_less {l : Launch} {V : VT} {M : Mem} {l0 : Int32} {l1 : Int32} {r : Int32} (hF : FX6_less l0 l1 = some r) : MetI l V yX6_less cX6_less 2 .int ({ frames := 0, cells := 0, slots := 0, locals := 0 } : Room) [.int l0, .int l1] r M M := metI_of (by decide) (Nat.le_of_ble_eq_true rfl) (fun E H0 _ Cx hret H locs ls hW hl => wX6_less Cx hret hW hl hF)
theorem dX6_hoursOf_0 : decode cX6_hoursOf 0 = .ok (.aload_n 0, 1) := by decide +kernel
theorem dX6_hoursOf_1 : decode cX6_hoursOf 1 = .ok (.iload_n 1, 1) := by decide +kernel
theorem dX6_hoursOf_2 : decode cX6_hoursOf 2 = .ok (.invokevirtual 74, 3) := by decide +kernel
theorem dX6_hoursOf_5 : decode cX6_hoursOf 5 = .ok (.aload_n 0, 1) := by decide +kernel
theorem dX6_hoursOf_6 : decode cX6_hoursOf 6 = .ok (.getfield 7, 3) := by decide +kernel
theorem dX6_hoursOf_9 : decode cX6_hoursOf 9 = .ok (.bipush 124, 2) := by decide +kernel
theorem dX6_hoursOf_11 : decode cX6_hoursOf 11 = .ok (.iload_n 2, 1) := by decide +kernel
theorem dX6_hoursOf_12 : decode cX6_hoursOf 12 = .ok (.iadd, 1) := by decide +kernel
theorem dX6_hoursOf_13 : decode cX6_hoursOf 13 = .ok (.iaload, 1) := by decide +kernel
theorem dX6_hoursOf_14 : decode cX6_hoursOf 14 = .ok (.invokestatic 111, 3) := by decide +kernel
theorem dX6_hoursOf_17 : decode cX6_hoursOf 17 = .ok (.aload_n 0, 1) := by decide +kernel
theorem dX6_hoursOf_18 : decode cX6_hoursOf 18 = .ok (.iload_n 2, 1) := by decide +kernel
theorem dX6_hoursOf_19 : decode cX6_hoursOf 19 = .ok (.invokevirtual 114, 3) := by decide +kernel
theorem dX6_hoursOf_22 : decode cX6_hoursOf 22 = .ok (.invokestatic 111, 3) := by decide +kernel
theorem dX6_hoursOf_25 : decode cX6_hoursOf 25 = .ok (.istore_n 3, 1) := by decide +kernel
theorem dX6_hoursOf_26 : decode cX6_hoursOf 26 = .ok (.aload_n 0, 1) := by decide +kernel
theorem dX6_hoursOf_27 : decode cX6_hoursOf 27 = .ok (.getfield 7, 3) := by decide +kernel
theorem dX6_hoursOf_30 : decode cX6_hoursOf 30 = .ok (.sipush 148, 3) := by decide +kernel
theorem dX6_hoursOf_33 : decode cX6_hoursOf 33 = .ok (.iload_n 2, 1) := by decide +kernel
theorem dX6_hoursOf_34 : decode cX6_hoursOf 34 = .ok (.iadd, 1) := by decide +kernel
theorem dX6_hoursOf_35 : decode cX6_hoursOf 35 = .ok (.iaload, 1) := by decide +kernel
theorem dX6_hoursOf_36 : decode cX6_hoursOf 36 = .ok (.istore 4, 2) := by decide +kernel
theorem dX6_hoursOf_38 : decode cX6_hoursOf 38 = .ok (.iload 4, 2) := by decide +kernel
theorem dX6_hoursOf_40 : decode cX6_hoursOf 40 = .ok (.ifCond .ne 7, 3) := by decide +kernel
theorem dX6_hoursOf_43 : decode cX6_hoursOf 43 = .ok (.iload_n 3, 1) := by decide +kernel
theorem dX6_hoursOf_44 : decode cX6_hoursOf 44 = .ok (.goto 19, 3) := by decide +kernel
theorem dX6_hoursOf_47 : decode cX6_hoursOf 47 = .ok (.iload_n 3, 1) := by decide +kernel
theorem dX6_hoursOf_48 : decode cX6_hoursOf 48 = .ok (.aload_n 0, 1) := by decide +kernel
theorem dX6_hoursOf_49 : decode cX6_hoursOf 49 = .ok (.getfield 7, 3) := by decide +kernel
theorem dX6_hoursOf_52 : decode cX6_hoursOf 52 = .ok (.bipush 76, 2) := by decide +kernel
theorem dX6_hoursOf_54 : decode cX6_hoursOf 54 = .ok (.iload_n 1, 1) := by decide +kernel
theorem dX6_hoursOf_55 : decode cX6_hoursOf 55 = .ok (.iadd, 1) := by decide +kernel
theorem dX6_hoursOf_56 : decode cX6_hoursOf 56 = .ok (.iaload, 1) := by decide +kernel
theorem dX6_hoursOf_57 : decode cX6_hoursOf 57 = .ok (.iload 4, 2) := by decide +kernel
theorem dX6_hoursOf_59 : decode cX6_hoursOf 59 = .ok (.idiv, 1) := by decide +kernel
theorem dX6_hoursOf_60 : decode cX6_hoursOf 60 = .ok (.invokestatic 111, 3) := by decide +kernel
theorem dX6_hoursOf_63 : decode cX6_hoursOf 63 = .ok (.ireturn, 1) := by decide +kernel
theorem okX6_hoursOf : CalOK yX6_hoursOf cX6_hoursOf 5 (some .int) 2 := ⟨wd_73, wd_875, by decide +kernel⟩
theorem ovX6_hoursOf : VirOK yX6_hoursOf := ⟨wd_874, wd_39⟩
def FX6_hoursOf (B : Blk) (l1 : Int32) (l2 : Int32) : Option Int32 :=
  c1 (FX6_late B l1) fun r1 =>
  ld (B 1) 356 ((124 : Int32) + l2) fun v3 =>
  c1 (FX6_less r1 v3) fun r6 =>
  c1 (FX6_spared B l2) fun r8 =>
  c1 (FX6_less r6 r8) fun r10 =>
  ld (B 1) 356 ((148 : Int32) + l2) fun v12 =>
  if v12 = 0 then
    some r10
  else
    ld (B 1) 356 ((76 : Int32) + l1) fun v16 =>
    nz v12 <|
    c1 (FX6_less r10 (v16 / v12)) fun r20 =>
    some r20
set_option maxRecDepth 100000 in
set_option maxHeartbeats 4000000 in
theorem wX6_hoursOf {E : WE} {V : VT} {A : Nat → Prop} {H0 : Heap} {M : Mem} (Cx : CX E RX6 cX6_hoursOf 5 1 22) {r : Int32} {B : Blk} (hret : RetI E V A H0 cX6_hoursOf .int r (jb M 12 B)) {H : Heap} {locs : List Loc} {ls : Array Slot} {l1 : Int32} {l2 : Int32} (hW : Wd V A H0 (jb M 12 B) (eS E) H locs) (hl : lv_has ls 5 [(0, .ref (vA V 12 0)), (1, .int l1), (2, .int l2)]) (hF : FX6_hoursOf B l1 l2 = some r) : Wq E H locs 0 ls [] := by
  unfold FX6_hoursOf at hF
  refine q_aload_n Cx dX6_hoursOf_0 rfl (lv_at hl 0 rfl) ?_
  refine q_iload_n Cx dX6_hoursOf_1 rfl (lv_at hl 1 rfl) ?_
  obtain ⟨r1, e2, hF⟩ := c1_some hF
  refine q_callI (as := [.int l1]) (rest := []) Cx (kX6_late e2) okX6_late ovX6_late wd_856 ⟨rfl, rfl, by decide, by decide⟩ hW oZ ic6 rfl hl.1 (Nat.le_of_ble_eq_true rfl) rfl dX6_hoursOf_2 (fun H locs hW => ?_)
  refine q_aload_n Cx dX6_hoursOf_5 rfl (lv_at hl 0 rfl) ?_
  refine q_get (v := .ref (vA V 12 1)) Cx hW oZ ic6 0 (by decide) rfl wd_714 dX6_hoursOf_6 ?_
  refine q_bipush (v := (124 : Int32)) Cx dX6_hoursOf_9 (by decide) ?_
  refine q_iload_n Cx dX6_hoursOf_11 rfl (lv_at hl 2 rfl) ?_
  refine q_iadd Cx dX6_hoursOf_12 ?_
  obtain ⟨h4, v3, e5, hF⟩ := ld_some hF
  refine qb_iald Cx hW az_1 h4 e5 dX6_hoursOf_13 ?_
  obtain ⟨r6, e7, hF⟩ := c1_some hF
  refine q_callSI (as := [.int r1, .int v3]) (rest := []) Cx (kX6_less e7) okX6_less osX6_less rfl wd_876 ⟨rfl, rfl, by decide, by decide⟩ hW rfl hl.1 (Nat.le_of_ble_eq_true rfl) rfl dX6_hoursOf_14 (fun H locs hW => ?_)
  refine q_aload_n Cx dX6_hoursOf_17 rfl (lv_at hl 0 rfl) ?_
  refine q_iload_n Cx dX6_hoursOf_18 rfl (lv_at hl 2 rfl) ?_
  obtain ⟨r8, e9, hF⟩ := c1_some hF
  refine q_callI (as := [.int l2]) (rest := [.int r6]) Cx (kX6_spared e9) okX6_spared ovX6_spared wd_879 ⟨rfl, rfl, by decide, by decide⟩ hW oZ ic6 rfl hl.1 (Nat.le_of_ble_eq_true rfl) rfl dX6_hoursOf_19 (fun H locs hW => ?_)
  obtain ⟨r10, e11, hF⟩ := c1_some hF
  refine q_callSI (as := [.int r6, .int r8]) (rest := []) Cx (kX6_less e11) okX6_less osX6_less rfl wd_876 ⟨rfl, rfl, by decide, by decide⟩ hW rfl hl.1 (Nat.le_of_ble_eq_true rfl) rfl dX6_hoursOf_22 (fun H locs hW => ?_)
  refine q_istore_n (lv' := [(3, .int r10), (0, .ref (vA V 12 0)), (1, .int l1), (2, .int l2)]) Cx dX6_hoursOf_25 rfl hl (by decide) rfl (fun ls hl => ?_)
  refine q_aload_n Cx dX6_hoursOf_26 rfl (lv_at hl 1 rfl) ?_
  refine q_get (v := .ref (vA V 12 1)) Cx hW oZ ic6 0 (by decide) rfl wd_714 dX6_hoursOf_27 ?_
  refine q_sipush (v := (148 : Int32)) Cx dX6_hoursOf_30 (by decide) ?_
  refine q_iload_n Cx dX6_hoursOf_33 rfl (lv_at hl 3 rfl) ?_
  refine q_iadd Cx dX6_hoursOf_34 ?_
  obtain ⟨h13, v12, e14, hF⟩ := ld_some hF
  refine qb_iald Cx hW az_1 h13 e14 dX6_hoursOf_35 ?_
  refine q_istore (lv' := [(4, .int v12), (3, .int r10), (0, .ref (vA V 12 0)), (1, .int l1), (2, .int l2)]) Cx dX6_hoursOf_36 hl (by decide) rfl (fun ls hl => ?_)
  refine q_iload Cx dX6_hoursOf_38 (lv_at hl 0 rfl) ?_
  refine q_if_ne (tgt := 47) Cx dX6_hoursOf_40 (by decide) (fun c15 => ?_) (fun c15 => ?_)
  · have hF := (if_neg c15).symm.trans hF
    refine q_iload_n Cx dX6_hoursOf_47 rfl (lv_at hl 1 rfl) ?_
    refine q_aload_n Cx dX6_hoursOf_48 rfl (lv_at hl 2 rfl) ?_
    refine q_get (v := .ref (vA V 12 1)) Cx hW oZ ic6 0 (by decide) rfl wd_714 dX6_hoursOf_49 ?_
    refine q_bipush (v := (76 : Int32)) Cx dX6_hoursOf_52 (by decide) ?_
    refine q_iload_n Cx dX6_hoursOf_54 rfl (lv_at hl 3 rfl) ?_
    refine q_iadd Cx dX6_hoursOf_55 ?_
    obtain ⟨h17, v16, e18, hF⟩ := ld_some hF
    refine qb_iald Cx hW az_1 h17 e18 dX6_hoursOf_56 ?_
    refine q_iload Cx dX6_hoursOf_57 (lv_at hl 0 rfl) ?_
    obtain ⟨h19, hF⟩ := nz_some hF
    refine q_idiv Cx dX6_hoursOf_59 h19 ?_
    obtain ⟨r20, e21, hF⟩ := c1_some hF
    refine q_callSI (as := [.int r10, .int (v16 / v12)]) (rest := []) Cx (kX6_less e21) okX6_less osX6_less rfl wd_876 ⟨rfl, rfl, by decide, by decide⟩ hW rfl hl.1 (Nat.le_of_ble_eq_true rfl) rfl dX6_hoursOf_60 (fun H locs hW => ?_)
    obtain rfl := Option.some.inj hF
    exact hret _ _ _ _ dX6_hoursOf_63 (nI32 _) hW
  · have hF := (if_pos c15).symm.trans hF
    refine q_iload_n Cx dX6_hoursOf_43 rfl (lv_at hl 1 rfl) ?_
    refine q_goto (tgt := 63) Cx dX6_hoursOf_44 (by decide) ?_
    obtain rfl := Option.some.inj hF
    exact hret _ _ _ _ dX6_hoursOf_63 (nI32 _) hW
set_option maxRecDepth 100000 in
theorem kX6_hoursOf {l : Launch} {V : VT} {M : Mem} {B : Blk} {l1 : Int32} {l2 : Int32} {r : Int32} (hF : FX6_hoursOf B l1 l2 = some r) : MetI l V yX6_hoursOf cX6_hoursOf 5 .int ({ frames := 1, cells := 0, slots := 0, locals := 22 } : Room) [.ref (vA V 12 0), .int l1, .int l2] r (jb M 12 B) (jb M 12 B) := metI_of (by decide) (Nat.le_of_ble_eq_true rfl) (fun E H0 _ Cx hret H locs ls hW hl => wX6_hoursOf Cx hret hW hl hF)
theorem dX6_agree_0 : decode cX6_agree 0 = .ok (.aload_n 0, 1) := by decide +kernel
theorem dX6_agree_1 : decode cX6_agree 1 = .ok (.getfield 7, 3) := by decide +kernel
theorem dX6_agree_4 : decode cX6_agree 4 = .ok (.iconst 3, 1) := by decide +kernel
theorem dX6_agree_5 : decode cX6_agree 5 = .ok (.iaload, 1) := by decide +kernel
theorem dX6_agree_6 : decode cX6_agree 6 = .ok (.istore 4, 2) := by decide +kernel
theorem dX6_agree_8 : decode cX6_agree 8 = .ok (.aload_n 0, 1) := by decide +kernel
theorem dX6_agree_9 : decode cX6_agree 9 = .ok (.getfield 7, 3) := by decide +kernel
theorem dX6_agree_12 : decode cX6_agree 12 = .ok (.sipush 148, 3) := by decide +kernel
theorem dX6_agree_15 : decode cX6_agree 15 = .ok (.iload_n 2, 1) := by decide +kernel
theorem dX6_agree_16 : decode cX6_agree 16 = .ok (.iadd, 1) := by decide +kernel
theorem dX6_agree_17 : decode cX6_agree 17 = .ok (.iaload, 1) := by decide +kernel
theorem dX6_agree_18 : decode cX6_agree 18 = .ok (.istore 5, 2) := by decide +kernel
theorem dX6_agree_20 : decode cX6_agree 20 = .ok (.aload_n 0, 1) := by decide +kernel
theorem dX6_agree_21 : decode cX6_agree 21 = .ok (.getfield 7, 3) := by decide +kernel
theorem dX6_agree_24 : decode cX6_agree 24 = .ok (.iconst 3, 1) := by decide +kernel
theorem dX6_agree_25 : decode cX6_agree 25 = .ok (.dup2, 1) := by decide +kernel
theorem dX6_agree_26 : decode cX6_agree 26 = .ok (.iaload, 1) := by decide +kernel
theorem dX6_agree_27 : decode cX6_agree 27 = .ok (.iconst 1, 1) := by decide +kernel
theorem dX6_agree_28 : decode cX6_agree 28 = .ok (.iadd, 1) := by decide +kernel
theorem dX6_agree_29 : decode cX6_agree 29 = .ok (.iastore, 1) := by decide +kernel
theorem dX6_agree_30 : decode cX6_agree 30 = .ok (.aload_n 0, 1) := by decide +kernel
theorem dX6_agree_31 : decode cX6_agree 31 = .ok (.getfield 7, 3) := by decide +kernel
theorem dX6_agree_34 : decode cX6_agree 34 = .ok (.sipush 196, 3) := by decide +kernel
theorem dX6_agree_37 : decode cX6_agree 37 = .ok (.iload 4, 2) := by decide +kernel
theorem dX6_agree_39 : decode cX6_agree 39 = .ok (.iadd, 1) := by decide +kernel
theorem dX6_agree_40 : decode cX6_agree 40 = .ok (.iload_n 2, 1) := by decide +kernel
theorem dX6_agree_41 : decode cX6_agree 41 = .ok (.iastore, 1) := by decide +kernel
theorem dX6_agree_42 : decode cX6_agree 42 = .ok (.aload_n 0, 1) := by decide +kernel
theorem dX6_agree_43 : decode cX6_agree 43 = .ok (.getfield 7, 3) := by decide +kernel
theorem dX6_agree_46 : decode cX6_agree 46 = .ok (.sipush 236, 3) := by decide +kernel
theorem dX6_agree_49 : decode cX6_agree 49 = .ok (.iload 4, 2) := by decide +kernel
theorem dX6_agree_51 : decode cX6_agree 51 = .ok (.iadd, 1) := by decide +kernel
theorem dX6_agree_52 : decode cX6_agree 52 = .ok (.iload_n 1, 1) := by decide +kernel
theorem dX6_agree_53 : decode cX6_agree 53 = .ok (.iastore, 1) := by decide +kernel
theorem dX6_agree_54 : decode cX6_agree 54 = .ok (.aload_n 0, 1) := by decide +kernel
theorem dX6_agree_55 : decode cX6_agree 55 = .ok (.getfield 7, 3) := by decide +kernel
theorem dX6_agree_58 : decode cX6_agree 58 = .ok (.sipush 276, 3) := by decide +kernel
theorem dX6_agree_61 : decode cX6_agree 61 = .ok (.iload 4, 2) := by decide +kernel
theorem dX6_agree_63 : decode cX6_agree 63 = .ok (.iadd, 1) := by decide +kernel
theorem dX6_agree_64 : decode cX6_agree 64 = .ok (.iload_n 3, 1) := by decide +kernel
theorem dX6_agree_65 : decode cX6_agree 65 = .ok (.iastore, 1) := by decide +kernel
theorem dX6_agree_66 : decode cX6_agree 66 = .ok (.aload_n 0, 1) := by decide +kernel
theorem dX6_agree_67 : decode cX6_agree 67 = .ok (.getfield 7, 3) := by decide +kernel
theorem dX6_agree_70 : decode cX6_agree 70 = .ok (.sipush 316, 3) := by decide +kernel
theorem dX6_agree_73 : decode cX6_agree 73 = .ok (.iload 4, 2) := by decide +kernel
theorem dX6_agree_75 : decode cX6_agree 75 = .ok (.iadd, 1) := by decide +kernel
theorem dX6_agree_76 : decode cX6_agree 76 = .ok (.iload 5, 2) := by decide +kernel
theorem dX6_agree_78 : decode cX6_agree 78 = .ok (.iastore, 1) := by decide +kernel
theorem dX6_agree_79 : decode cX6_agree 79 = .ok (.aload_n 0, 1) := by decide +kernel
theorem dX6_agree_80 : decode cX6_agree 80 = .ok (.getfield 7, 3) := by decide +kernel
theorem dX6_agree_83 : decode cX6_agree 83 = .ok (.bipush 52, 2) := by decide +kernel
theorem dX6_agree_85 : decode cX6_agree 85 = .ok (.iload_n 2, 1) := by decide +kernel
theorem dX6_agree_86 : decode cX6_agree 86 = .ok (.iadd, 1) := by decide +kernel
theorem dX6_agree_87 : decode cX6_agree 87 = .ok (.dup2, 1) := by decide +kernel
theorem dX6_agree_88 : decode cX6_agree 88 = .ok (.iaload, 1) := by decide +kernel
theorem dX6_agree_89 : decode cX6_agree 89 = .ok (.iload_n 3, 1) := by decide +kernel
theorem dX6_agree_90 : decode cX6_agree 90 = .ok (.isub, 1) := by decide +kernel
theorem dX6_agree_91 : decode cX6_agree 91 = .ok (.iastore, 1) := by decide +kernel
theorem dX6_agree_92 : decode cX6_agree 92 = .ok (.aload_n 0, 1) := by decide +kernel
theorem dX6_agree_93 : decode cX6_agree 93 = .ok (.getfield 7, 3) := by decide +kernel
theorem dX6_agree_96 : decode cX6_agree 96 = .ok (.bipush 52, 2) := by decide +kernel
theorem dX6_agree_98 : decode cX6_agree 98 = .ok (.iload_n 1, 1) := by decide +kernel
theorem dX6_agree_99 : decode cX6_agree 99 = .ok (.iadd, 1) := by decide +kernel
theorem dX6_agree_100 : decode cX6_agree 100 = .ok (.dup2, 1) := by decide +kernel
theorem dX6_agree_101 : decode cX6_agree 101 = .ok (.iaload, 1) := by decide +kernel
theorem dX6_agree_102 : decode cX6_agree 102 = .ok (.iload_n 3, 1) := by decide +kernel
theorem dX6_agree_103 : decode cX6_agree 103 = .ok (.iadd, 1) := by decide +kernel
theorem dX6_agree_104 : decode cX6_agree 104 = .ok (.iastore, 1) := by decide +kernel
theorem dX6_agree_105 : decode cX6_agree 105 = .ok (.aload_n 0, 1) := by decide +kernel
theorem dX6_agree_106 : decode cX6_agree 106 = .ok (.getfield 7, 3) := by decide +kernel
theorem dX6_agree_109 : decode cX6_agree 109 = .ok (.bipush 76, 2) := by decide +kernel
theorem dX6_agree_111 : decode cX6_agree 111 = .ok (.iload_n 1, 1) := by decide +kernel
theorem dX6_agree_112 : decode cX6_agree 112 = .ok (.iadd, 1) := by decide +kernel
theorem dX6_agree_113 : decode cX6_agree 113 = .ok (.dup2, 1) := by decide +kernel
theorem dX6_agree_114 : decode cX6_agree 114 = .ok (.iaload, 1) := by decide +kernel
theorem dX6_agree_115 : decode cX6_agree 115 = .ok (.iload_n 3, 1) := by decide +kernel
theorem dX6_agree_116 : decode cX6_agree 116 = .ok (.iload 5, 2) := by decide +kernel
theorem dX6_agree_118 : decode cX6_agree 118 = .ok (.imul, 1) := by decide +kernel
theorem dX6_agree_119 : decode cX6_agree 119 = .ok (.isub, 1) := by decide +kernel
theorem dX6_agree_120 : decode cX6_agree 120 = .ok (.iastore, 1) := by decide +kernel
theorem dX6_agree_121 : decode cX6_agree 121 = .ok (.aload_n 0, 1) := by decide +kernel
theorem dX6_agree_122 : decode cX6_agree 122 = .ok (.getfield 7, 3) := by decide +kernel
theorem dX6_agree_125 : decode cX6_agree 125 = .ok (.bipush 76, 2) := by decide +kernel
theorem dX6_agree_127 : decode cX6_agree 127 = .ok (.iload_n 2, 1) := by decide +kernel
theorem dX6_agree_128 : decode cX6_agree 128 = .ok (.iadd, 1) := by decide +kernel
theorem dX6_agree_129 : decode cX6_agree 129 = .ok (.dup2, 1) := by decide +kernel
theorem dX6_agree_130 : decode cX6_agree 130 = .ok (.iaload, 1) := by decide +kernel
theorem dX6_agree_131 : decode cX6_agree 131 = .ok (.iload_n 3, 1) := by decide +kernel
theorem dX6_agree_132 : decode cX6_agree 132 = .ok (.iload 5, 2) := by decide +kernel
theorem dX6_agree_134 : decode cX6_agree 134 = .ok (.imul, 1) := by decide +kernel
theorem dX6_agree_135 : decode cX6_agree 135 = .ok (.iadd, 1) := by decide +kernel
theorem dX6_agree_136 : decode cX6_agree 136 = .ok (.iastore, 1) := by decide +kernel
theorem dX6_agree_137 : decode cX6_agree 137 = .ok (.aload_n 0, 1) := by decide +kernel
theorem dX6_agree_138 : decode cX6_agree 138 = .ok (.getfield 7, 3) := by decide +kernel
theorem dX6_agree_141 : decode cX6_agree 141 = .ok (.bipush 124, 2) := by decide +kernel
theorem dX6_agree_143 : decode cX6_agree 143 = .ok (.iload_n 2, 1) := by decide +kernel
theorem dX6_agree_144 : decode cX6_agree 144 = .ok (.iadd, 1) := by decide +kernel
theorem dX6_agree_145 : decode cX6_agree 145 = .ok (.dup2, 1) := by decide +kernel
theorem dX6_agree_146 : decode cX6_agree 146 = .ok (.iaload, 1) := by decide +kernel
theorem dX6_agree_147 : decode cX6_agree 147 = .ok (.iload_n 3, 1) := by decide +kernel
theorem dX6_agree_148 : decode cX6_agree 148 = .ok (.isub, 1) := by decide +kernel
theorem dX6_agree_149 : decode cX6_agree 149 = .ok (.iastore, 1) := by decide +kernel
theorem dX6_agree_150 : decode cX6_agree 150 = .ok (.aload_n 0, 1) := by decide +kernel
theorem dX6_agree_151 : decode cX6_agree 151 = .ok (.getfield 7, 3) := by decide +kernel
theorem dX6_agree_154 : decode cX6_agree 154 = .ok (.sipush 148, 3) := by decide +kernel
theorem dX6_agree_157 : decode cX6_agree 157 = .ok (.iload_n 2, 1) := by decide +kernel
theorem dX6_agree_158 : decode cX6_agree 158 = .ok (.iadd, 1) := by decide +kernel
theorem dX6_agree_159 : decode cX6_agree 159 = .ok (.aload_n 0, 1) := by decide +kernel
theorem dX6_agree_160 : decode cX6_agree 160 = .ok (.getfield 7, 3) := by decide +kernel
theorem dX6_agree_163 : decode cX6_agree 163 = .ok (.bipush 124, 2) := by decide +kernel
theorem dX6_agree_165 : decode cX6_agree 165 = .ok (.iload_n 2, 1) := by decide +kernel
theorem dX6_agree_166 : decode cX6_agree 166 = .ok (.iadd, 1) := by decide +kernel
theorem dX6_agree_167 : decode cX6_agree 167 = .ok (.iaload, 1) := by decide +kernel
theorem dX6_agree_168 : decode cX6_agree 168 = .ok (.ifCond .ne 7, 3) := by decide +kernel
theorem dX6_agree_171 : decode cX6_agree 171 = .ok (.iconst 0, 1) := by decide +kernel
theorem dX6_agree_172 : decode cX6_agree 172 = .ok (.goto 5, 3) := by decide +kernel
theorem dX6_agree_175 : decode cX6_agree 175 = .ok (.iload 5, 2) := by decide +kernel
theorem dX6_agree_177 : decode cX6_agree 177 = .ok (.iastore, 1) := by decide +kernel
theorem dX6_agree_178 : decode cX6_agree 178 = .ok (.return_, 1) := by decide +kernel
theorem okX6_agree : CalOK yX6_agree cX6_agree 6 (none) 3 := ⟨wd_73, wd_886, by decide +kernel⟩
theorem ovX6_agree : VirOK yX6_agree := ⟨wd_885, wd_41⟩
def FX6_agree_177 (s0 : Int32) (s1 : Int32) (B : Blk) : Option Blk :=
  stb B 1 356 s1 s0 fun B59 =>
  some B59
set_option maxRecDepth 100000 in
set_option maxHeartbeats 4000000 in
theorem wX6_agree_177 {E : WE} {V : VT} {A : Nat → Prop} {H0 : Heap} {M : Mem} (Cx : CX E RX6 cX6_agree 6 0 0) {B' : Blk} (hret : RetV E V A H0 cX6_agree (jb M 12 B')) {H : Heap} {locs : List Loc} {ls : Array Slot} {s0 : Int32} {s1 : Int32} {B : Blk} (hW : Wd V A H0 (jb M 12 B) (eS E) H locs) (hl : lv_has ls 6 []) (hF : FX6_agree_177 s0 s1 B = some B') : Wq E H locs 177 ls [.int s0, .int s1, .ref (vA V 12 1)] := by
  unfold FX6_agree_177 at hF
  obtain ⟨h60, B59, e61, hF⟩ := stb_some hF
  refine qb_iast Cx hW az_1 h60 e61 dX6_agree_177 (fun H locs hW => ?_)
  obtain rfl := Option.some.inj hF
  exact hret _ _ _ _ dX6_agree_178 hW
def FX6_agree (B : Blk) (l1 : Int32) (l2 : Int32) (l3 : Int32) : Option Blk :=
  ld (B 1) 356 (3 : Int32) fun v1 =>
  ld (B 1) 356 ((148 : Int32) + l2) fun v4 =>
  ld (B 1) 356 (3 : Int32) fun v7 =>
  stb B 1 356 (3 : Int32) (v7 + (1 : Int32)) fun B10 =>
  stb B10 1 356 ((196 : Int32) + v1) l2 fun B13 =>
  stb B13 1 356 ((236 : Int32) + v1) l1 fun B16 =>
  stb B16 1 356 ((276 : Int32) + v1) l3 fun B19 =>
  stb B19 1 356 ((316 : Int32) + v1) v4 fun B22 =>
  ld (B22 1) 356 ((52 : Int32) + l2) fun v25 =>
  stb B22 1 356 ((52 : Int32) + l2) (v25 - l3) fun B28 =>
  ld (B28 1) 356 ((52 : Int32) + l1) fun v31 =>
  stb B28 1 356 ((52 : Int32) + l1) (v31 + l3) fun B34 =>
  ld (B34 1) 356 ((76 : Int32) + l1) fun v37 =>
  stb B34 1 356 ((76 : Int32) + l1) (v37 - (l3 * v4)) fun B40 =>
  ld (B40 1) 356 ((76 : Int32) + l2) fun v43 =>
  stb B40 1 356 ((76 : Int32) + l2) (v43 + (l3 * v4)) fun B46 =>
  ld (B46 1) 356 ((124 : Int32) + l2) fun v49 =>
  stb B46 1 356 ((124 : Int32) + l2) (v49 - l3) fun B52 =>
  ld (B52 1) 356 ((124 : Int32) + l2) fun v55 =>
  if v55 = 0 then
    FX6_agree_177 (0 : Int32) ((148 : Int32) + l2) B52
  else
    FX6_agree_177 v4 ((148 : Int32) + l2) B52
set_option maxRecDepth 100000 in
set_option maxHeartbeats 4000000 in
theorem wX6_agree {E : WE} {V : VT} {A : Nat → Prop} {H0 : Heap} {M : Mem} (Cx : CX E RX6 cX6_agree 6 0 0) {B' : Blk} (hret : RetV E V A H0 cX6_agree (jb M 12 B')) {H : Heap} {locs : List Loc} {ls : Array Slot} {l1 : Int32} {l2 : Int32} {l3 : Int32} {B : Blk} (hW : Wd V A H0 (jb M 12 B) (eS E) H locs) (hl : lv_has ls 6 [(0, .ref (vA V 12 0)), (1, .int l1), (2, .int l2), (3, .int l3)]) (hF : FX6_agree B l1 l2 l3 = some B') : Wq E H locs 0 ls [] := by
  unfold FX6_agree at hF
  refine q_aload_n Cx dX6_agree_0 rfl (lv_at hl 0 rfl) ?_
  refine q_get (v := .ref (vA V 12 1)) Cx hW oZ ic6 0 (by decide) rfl wd_714 dX6_agree_1 ?_
  refine q_iconst (v := (3 : Int32)) Cx dX6_agree_4 (by decide) ?_
  obtain ⟨h2, v1, e3, hF⟩ := ld_some hF
  refine qb_iald Cx hW az_1 h2 e3 dX6_agree_5 ?_
  refine q_istore (lv' := [(4, .int v1), (0, .ref (vA V 12 0)), (1, .int l1), (2, .int l2), (3, .int l3)]) Cx dX6_agree_6 hl (by decide) rfl (fun ls hl => ?_)
  refine q_aload_n Cx dX6_agree_8 rfl (lv_at hl 1 rfl) ?_
  refine q_get (v := .ref (vA V 12 1)) Cx hW oZ ic6 0 (by decide) rfl wd_714 dX6_agree_9 ?_
  refine q_sipush (v := (148 : Int32)) Cx dX6_agree_12 (by decide) ?_
  refine q_iload_n Cx dX6_agree_15 rfl (lv_at hl 3 rfl) ?_
  refine q_iadd Cx dX6_agree_16 ?_
  obtain ⟨h5, v4, e6, hF⟩ := ld_some hF
  refine qb_iald Cx hW az_1 h5 e6 dX6_agree_17 ?_
  refine q_istore (lv' := [(5, .int v4), (4, .int v1), (0, .ref (vA V 12 0)), (1, .int l1), (2, .int l2), (3, .int l3)]) Cx dX6_agree_18 hl (by decide) rfl (fun ls hl => ?_)
  refine q_aload_n Cx dX6_agree_20 rfl (lv_at hl 2 rfl) ?_
  refine q_get (v := .ref (vA V 12 1)) Cx hW oZ ic6 0 (by decide) rfl wd_714 dX6_agree_21 ?_
  refine q_iconst (v := (3 : Int32)) Cx dX6_agree_24 (by decide) ?_
  refine q_dup2 Cx dX6_agree_25 rfl rfl ?_
  obtain ⟨h8, v7, e9, hF⟩ := ld_some hF
  refine qb_iald Cx hW az_1 h8 e9 dX6_agree_26 ?_
  refine q_iconst (v := (1 : Int32)) Cx dX6_agree_27 (by decide) ?_
  refine q_iadd Cx dX6_agree_28 ?_
  obtain ⟨h11, B10, e12, hF⟩ := stb_some hF
  refine qb_iast Cx hW az_1 h11 e12 dX6_agree_29 (fun H locs hW => ?_)
  refine q_aload_n Cx dX6_agree_30 rfl (lv_at hl 2 rfl) ?_
  refine q_get (v := .ref (vA V 12 1)) Cx hW oZ ic6 0 (by decide) rfl wd_714 dX6_agree_31 ?_
  refine q_sipush (v := (196 : Int32)) Cx dX6_agree_34 (by decide) ?_
  refine q_iload Cx dX6_agree_37 (lv_at hl 1 rfl) ?_
  refine q_iadd Cx dX6_agree_39 ?_
  refine q_iload_n Cx dX6_agree_40 rfl (lv_at hl 4 rfl) ?_
  obtain ⟨h14, B13, e15, hF⟩ := stb_some hF
  refine qb_iast Cx hW az_1 h14 e15 dX6_agree_41 (fun H locs hW => ?_)
  refine q_aload_n Cx dX6_agree_42 rfl (lv_at hl 2 rfl) ?_
  refine q_get (v := .ref (vA V 12 1)) Cx hW oZ ic6 0 (by decide) rfl wd_714 dX6_agree_43 ?_
  refine q_sipush (v := (236 : Int32)) Cx dX6_agree_46 (by decide) ?_
  refine q_iload Cx dX6_agree_49 (lv_at hl 1 rfl) ?_
  refine q_iadd Cx dX6_agree_51 ?_
  refine q_iload_n Cx dX6_agree_52 rfl (lv_at hl 3 rfl) ?_
  obtain ⟨h17, B16, e18, hF⟩ := stb_some hF
  refine qb_iast Cx hW az_1 h17 e18 dX6_agree_53 (fun H locs hW => ?_)
  refine q_aload_n Cx dX6_agree_54 rfl (lv_at hl 2 rfl) ?_
  refine q_get (v := .ref (vA V 12 1)) Cx hW oZ ic6 0 (by decide) rfl wd_714 dX6_agree_55 ?_
  refine q_sipush (v := (276 : Int32)) Cx dX6_agree_58 (by decide) ?_
  refine q_iload Cx dX6_agree_61 (lv_at hl 1 rfl) ?_
  refine q_iadd Cx dX6_agree_63 ?_
  refine q_iload_n Cx dX6_agree_64 rfl (lv_at hl 5 rfl) ?_
  obtain ⟨h20, B19, e21, hF⟩ := stb_some hF
  refine qb_iast Cx hW az_1 h20 e21 dX6_agree_65 (fun H locs hW => ?_)
  refine q_aload_n Cx dX6_agree_66 rfl (lv_at hl 2 rfl) ?_
  refine q_get (v := .ref (vA V 12 1)) Cx hW oZ ic6 0 (by decide) rfl wd_714 dX6_agree_67 ?_
  refine q_sipush (v := (316 : Int32)) Cx dX6_agree_70 (by decide) ?_
  refine q_iload Cx dX6_agree_73 (lv_at hl 1 rfl) ?_
  refine q_iadd Cx dX6_agree_75 ?_
  refine q_iload Cx dX6_agree_76 (lv_at hl 0 rfl) ?_
  obtain ⟨h23, B22, e24, hF⟩ := stb_some hF
  refine qb_iast Cx hW az_1 h23 e24 dX6_agree_78 (fun H locs hW => ?_)
  refine q_aload_n Cx dX6_agree_79 rfl (lv_at hl 2 rfl) ?_
  refine q_get (v := .ref (vA V 12 1)) Cx hW oZ ic6 0 (by decide) rfl wd_714 dX6_agree_80 ?_
  refine q_bipush (v := (52 : Int32)) Cx dX6_agree_83 (by decide) ?_
  refine q_iload_n Cx dX6_agree_85 rfl (lv_at hl 4 rfl) ?_
  refine q_iadd Cx dX6_agree_86 ?_
  refine q_dup2 Cx dX6_agree_87 rfl rfl ?_
  obtain ⟨h26, v25, e27, hF⟩ := ld_some hF
  refine qb_iald Cx hW az_1 h26 e27 dX6_agree_88 ?_
  refine q_iload_n Cx dX6_agree_89 rfl (lv_at hl 5 rfl) ?_
  refine q_isub Cx dX6_agree_90 ?_
  obtain ⟨h29, B28, e30, hF⟩ := stb_some hF
  refine qb_iast Cx hW az_1 h29 e30 dX6_agree_91 (fun H locs hW => ?_)
  refine q_aload_n Cx dX6_agree_92 rfl (lv_at hl 2 rfl) ?_
  refine q_get (v := .ref (vA V 12 1)) Cx hW oZ ic6 0 (by decide) rfl wd_714 dX6_agree_93 ?_
  refine q_bipush (v := (52 : Int32)) Cx dX6_agree_96 (by decide) ?_
  refine q_iload_n Cx dX6_agree_98 rfl (lv_at hl 3 rfl) ?_
  refine q_iadd Cx dX6_agree_99 ?_
  refine q_dup2 Cx dX6_agree_100 rfl rfl ?_
  obtain ⟨h32, v31, e33, hF⟩ := ld_some hF
  refine qb_iald Cx hW az_1 h32 e33 dX6_agree_101 ?_
  refine q_iload_n Cx dX6_agree_102 rfl (lv_at hl 5 rfl) ?_
  refine q_iadd Cx dX6_agree_103 ?_
  obtain ⟨h35, B34, e36, hF⟩ := stb_some hF
  refine qb_iast Cx hW az_1 h35 e36 dX6_agree_104 (fun H locs hW => ?_)
  refine q_aload_n Cx dX6_agree_105 rfl (lv_at hl 2 rfl) ?_
  refine q_get (v := .ref (vA V 12 1)) Cx hW oZ ic6 0 (by decide) rfl wd_714 dX6_agree_106 ?_
  refine q_bipush (v := (76 : Int32)) Cx dX6_agree_109 (by decide) ?_
  refine q_iload_n Cx dX6_agree_111 rfl (lv_at hl 3 rfl) ?_
  refine q_iadd Cx dX6_agree_112 ?_
  refine q_dup2 Cx dX6_agree_113 rfl rfl ?_
  obtain ⟨h38, v37, e39, hF⟩ := ld_some hF
  refine qb_iald Cx hW az_1 h38 e39 dX6_agree_114 ?_
  refine q_iload_n Cx dX6_agree_115 rfl (lv_at hl 5 rfl) ?_
  refine q_iload Cx dX6_agree_116 (lv_at hl 0 rfl) ?_
  refine q_imul Cx dX6_agree_118 ?_
  refine q_isub Cx dX6_agree_119 ?_
  obtain ⟨h41, B40, e42, hF⟩ := stb_some hF
  refine qb_iast Cx hW az_1 h41 e42 dX6_agree_120 (fun H locs hW => ?_)
  refine q_aload_n Cx dX6_agree_121 rfl (lv_at hl 2 rfl) ?_
  refine q_get (v := .ref (vA V 12 1)) Cx hW oZ ic6 0 (by decide) rfl wd_714 dX6_agree_122 ?_
  refine q_bipush (v := (76 : Int32)) Cx dX6_agree_125 (by decide) ?_
  refine q_iload_n Cx dX6_agree_127 rfl (lv_at hl 4 rfl) ?_
  refine q_iadd Cx dX6_agree_128 ?_
  refine q_dup2 Cx dX6_agree_129 rfl rfl ?_
  obtain ⟨h44, v43, e45, hF⟩ := ld_some hF
  refine qb_iald Cx hW az_1 h44 e45 dX6_agree_130 ?_
  refine q_iload_n Cx dX6_agree_131 rfl (lv_at hl 5 rfl) ?_
  refine q_iload Cx dX6_agree_132 (lv_at hl 0 rfl) ?_
  refine q_imul Cx dX6_agree_134 ?_
  refine q_iadd Cx dX6_agree_135 ?_
  obtain ⟨h47, B46, e48, hF⟩ := stb_some hF
  refine qb_iast Cx hW az_1 h47 e48 dX6_agree_136 (fun H locs hW => ?_)
  refine q_aload_n Cx dX6_agree_137 rfl (lv_at hl 2 rfl) ?_
  refine q_get (v := .ref (vA V 12 1)) Cx hW oZ ic6 0 (by decide) rfl wd_714 dX6_agree_138 ?_
  refine q_bipush (v := (124 : Int32)) Cx dX6_agree_141 (by decide) ?_
  refine q_iload_n Cx dX6_agree_143 rfl (lv_at hl 4 rfl) ?_
  refine q_iadd Cx dX6_agree_144 ?_
  refine q_dup2 Cx dX6_agree_145 rfl rfl ?_
  obtain ⟨h50, v49, e51, hF⟩ := ld_some hF
  refine qb_iald Cx hW az_1 h50 e51 dX6_agree_146 ?_
  refine q_iload_n Cx dX6_agree_147 rfl (lv_at hl 5 rfl) ?_
  refine q_isub Cx dX6_agree_148 ?_
  obtain ⟨h53, B52, e54, hF⟩ := stb_some hF
  refine qb_iast Cx hW az_1 h53 e54 dX6_agree_149 (fun H locs hW => ?_)
  refine q_aload_n Cx dX6_agree_150 rfl (lv_at hl 2 rfl) ?_
  refine q_get (v := .ref (vA V 12 1)) Cx hW oZ ic6 0 (by decide) rfl wd_714 dX6_agree_151 ?_
  refine q_sipush (v := (148 : Int32)) Cx dX6_agree_154 (by decide) ?_
  refine q_iload_n Cx dX6_agree_157 rfl (lv_at hl 4 rfl) ?_
  refine q_iadd Cx dX6_agree_158 ?_
  refine q_aload_n Cx dX6_agree_159 rfl (lv_at hl 2 rfl) ?_
  refine q_get (v := .ref (vA V 12 1)) Cx hW oZ ic6 0 (by decide) rfl wd_714 dX6_agree_160 ?_
  refine q_bipush (v := (124 : Int32)) Cx dX6_agree_163 (by decide) ?_
  refine q_iload_n Cx dX6_agree_165 rfl (lv_at hl 4 rfl) ?_
  refine q_iadd Cx dX6_agree_166 ?_
  obtain ⟨h56, v55, e57, hF⟩ := ld_some hF
  refine qb_iald Cx hW az_1 h56 e57 dX6_agree_167 ?_
  refine q_if_ne (tgt := 175) Cx dX6_agree_168 (by decide) (fun c58 => ?_) (fun c58 => ?_)
  · have hF := (if_neg c58).symm.trans hF
    refine q_iload Cx dX6_agree_175 (lv_at hl 0 rfl) ?_
    exact wX6_agree_177 Cx hret hW (lv_sub hl [] rfl) hF
  · have hF := (if_pos c58).symm.trans hF
    refine q_iconst (v := (0 : Int32)) Cx dX6_agree_171 (by decide) ?_
    refine q_goto (tgt := 177) Cx dX6_agree_172 (by decide) ?_
    exact wX6_agree_177 Cx hret hW (lv_sub hl [] rfl) hF
set_option maxRecDepth 100000 in
theorem kX6_agree {l : Launch} {V : VT} {M : Mem} {B : Blk} {l1 : Int32} {l2 : Int32} {l3 : Int32} {B' : Blk} (hF : FX6_agree B l1 l2 l3 = some B') : MetV l V yX6_agree cX6_agree 6 ({ frames := 0, cells := 0, slots := 0, locals := 0 } : Room) [.ref (vA V 12 0), .int l1, .int l2, .int l3] (jb M 12 B) (jb M 12 B') := metV_of (by decide) (Nat.le_of_ble_eq_true rfl) (fun E H0 _ Cx hret H locs ls hW hl => wX6_agree Cx hret hW hl hF)
theorem dX6_buys_0 : decode cX6_buys 0 = .ok (.aload_n 0, 1) := by decide +kernel
theorem dX6_buys_1 : decode cX6_buys 1 = .ok (.iload_n 1, 1) := by decide +kernel
theorem dX6_buys_2 : decode cX6_buys 2 = .ok (.invokevirtual 104, 3) := by decide +kernel
theorem dX6_buys_5 : decode cX6_buys 5 = .ok (.iconst 0, 1) := by decide +kernel
theorem dX6_buys_6 : decode cX6_buys 6 = .ok (.istore_n 2, 1) := by decide +kernel
theorem dX6_buys_7 : decode cX6_buys 7 = .ok (.aload_n 0, 1) := by decide +kernel
theorem dX6_buys_8 : decode cX6_buys 8 = .ok (.iload_n 1, 1) := by decide +kernel
theorem dX6_buys_9 : decode cX6_buys 9 = .ok (.iload_n 2, 1) := by decide +kernel
theorem dX6_buys_10 : decode cX6_buys 10 = .ok (.invokevirtual 117, 3) := by decide +kernel
theorem dX6_buys_13 : decode cX6_buys 13 = .ok (.istore_n 3, 1) := by decide +kernel
theorem dX6_buys_14 : decode cX6_buys 14 = .ok (.iload_n 3, 1) := by decide +kernel
theorem dX6_buys_15 : decode cX6_buys 15 = .ok (.bipush (-6), 2) := by decide +kernel
theorem dX6_buys_17 : decode cX6_buys 17 = .ok (.if_icmp .eq 59, 3) := by decide +kernel
theorem dX6_buys_20 : decode cX6_buys 20 = .ok (.aload_n 0, 1) := by decide +kernel
theorem dX6_buys_21 : decode cX6_buys 21 = .ok (.iload_n 1, 1) := by decide +kernel
theorem dX6_buys_22 : decode cX6_buys 22 = .ok (.invokevirtual 74, 3) := by decide +kernel
theorem dX6_buys_25 : decode cX6_buys 25 = .ok (.ifCond .le 51, 3) := by decide +kernel
theorem dX6_buys_28 : decode cX6_buys 28 = .ok (.aload_n 0, 1) := by decide +kernel
theorem dX6_buys_29 : decode cX6_buys 29 = .ok (.getfield 7, 3) := by decide +kernel
theorem dX6_buys_32 : decode cX6_buys 32 = .ok (.iconst 3, 1) := by decide +kernel
theorem dX6_buys_33 : decode cX6_buys 33 = .ok (.iaload, 1) := by decide +kernel
theorem dX6_buys_34 : decode cX6_buys 34 = .ok (.bipush 40, 2) := by decide +kernel
theorem dX6_buys_36 : decode cX6_buys 36 = .ok (.if_icmp .ge 40, 3) := by decide +kernel
theorem dX6_buys_39 : decode cX6_buys 39 = .ok (.aload_n 0, 1) := by decide +kernel
theorem dX6_buys_40 : decode cX6_buys 40 = .ok (.iload_n 1, 1) := by decide +kernel
theorem dX6_buys_41 : decode cX6_buys 41 = .ok (.iload_n 3, 1) := by decide +kernel
theorem dX6_buys_42 : decode cX6_buys 42 = .ok (.invokevirtual 120, 3) := by decide +kernel
theorem dX6_buys_45 : decode cX6_buys 45 = .ok (.istore 4, 2) := by decide +kernel
theorem dX6_buys_47 : decode cX6_buys 47 = .ok (.iload 4, 2) := by decide +kernel
theorem dX6_buys_49 : decode cX6_buys 49 = .ok (.ifCond .le 11, 3) := by decide +kernel
theorem dX6_buys_52 : decode cX6_buys 52 = .ok (.aload_n 0, 1) := by decide +kernel
theorem dX6_buys_53 : decode cX6_buys 53 = .ok (.iload_n 1, 1) := by decide +kernel
theorem dX6_buys_54 : decode cX6_buys 54 = .ok (.iload_n 3, 1) := by decide +kernel
theorem dX6_buys_55 : decode cX6_buys 55 = .ok (.iload 4, 2) := by decide +kernel
theorem dX6_buys_57 : decode cX6_buys 57 = .ok (.invokevirtual 123, 3) := by decide +kernel
theorem dX6_buys_60 : decode cX6_buys 60 = .ok (.iload_n 2, 1) := by decide +kernel
theorem dX6_buys_61 : decode cX6_buys 61 = .ok (.iconst 1, 1) := by decide +kernel
theorem dX6_buys_62 : decode cX6_buys 62 = .ok (.iload_n 3, 1) := by decide +kernel
theorem dX6_buys_63 : decode cX6_buys 63 = .ok (.ishl, 1) := by decide +kernel
theorem dX6_buys_64 : decode cX6_buys 64 = .ok (.ior, 1) := by decide +kernel
theorem dX6_buys_65 : decode cX6_buys 65 = .ok (.istore_n 2, 1) := by decide +kernel
theorem dX6_buys_66 : decode cX6_buys 66 = .ok (.aload_n 0, 1) := by decide +kernel
theorem dX6_buys_67 : decode cX6_buys 67 = .ok (.iload_n 1, 1) := by decide +kernel
theorem dX6_buys_68 : decode cX6_buys 68 = .ok (.iload_n 2, 1) := by decide +kernel
theorem dX6_buys_69 : decode cX6_buys 69 = .ok (.invokevirtual 117, 3) := by decide +kernel
theorem dX6_buys_72 : decode cX6_buys 72 = .ok (.istore_n 3, 1) := by decide +kernel
theorem dX6_buys_73 : decode cX6_buys 73 = .ok (.goto (-59), 3) := by decide +kernel
theorem dX6_buys_76 : decode cX6_buys 76 = .ok (.return_, 1) := by decide +kernel
theorem okX6_buys : CalOK yX6_buys cX6_buys 5 (none) 1 := ⟨wd_73, wd_863, by decide +kernel⟩
theorem ovX6_buys : VirOK yX6_buys := ⟨wd_862, wd_36⟩
def FX6_buys_60 (k14 : Int32 → Int32 → Int32 → Blk → Option Blk) (l1 : Int32) (l2 : Int32) (l3 : Int32) (B : Blk) : Option Blk :=
  lt1 (l2 ||| ((1 : Int32) <<< (l3 &&& 31))) fun x17 =>
  c1 (FX6_nextOffer B l1 x17) fun r19 =>
  k14 l1 x17 r19 B
set_option maxRecDepth 100000 in
set_option maxHeartbeats 4000000 in
theorem wX6_buys_60 {E : WE} {V : VT} {A : Nat → Prop} {H0 : Heap} {M : Mem} (Cx : CX E RX6 cX6_buys 5 2 47) {B' : Blk} (hret : RetV E V A H0 cX6_buys (jb M 12 B')) {k14 : Int32 → Int32 → Int32 → Blk → Option Blk} (hk14 : ∀ {H : Heap} {locs : List Loc} {ls : Array Slot} {B : Blk} {l1 : Int32} {l2 : Int32} {l3 : Int32}, Wd V A H0 (jb M 12 B) (eS E) H locs → lv_has ls 5 [(0, .ref (vA V 12 0)), (1, .int l1), (2, .int l2), (3, .int l3)] → k14 l1 l2 l3 B = some B' → Wq E H locs 14 ls []) {H : Heap} {locs : List Loc} {ls : Array Slot} {l1 : Int32} {l2 : Int32} {l3 : Int32} {B : Blk} (hW : Wd V A H0 (jb M 12 B) (eS E) H locs) (hl : lv_has ls 5 [(0, .ref (vA V 12 0)), (1, .int l1), (2, .int l2), (3, .int l3)]) (hF : FX6_buys_60 k14 l1 l2 l3 B = some B') : Wq E H locs 60 ls [] := by
  unfold FX6_buys_60 at hF
  refine q_iload_n Cx dX6_buys_60 rfl (lv_at hl 2 rfl) ?_
  refine q_iconst (v := (1 : Int32)) Cx dX6_buys_61 (by decide) ?_
  refine q_iload_n Cx dX6_buys_62 rfl (lv_at hl 3 rfl) ?_
  refine q_ishl Cx dX6_buys_63 ?_
  refine q_ior Cx dX6_buys_64 ?_
  obtain ⟨x17, e18, hF⟩ := lt1_some hF
  refine q_topi e18 ?_
  refine q_istore_n (lv' := [(2, .int x17), (0, .ref (vA V 12 0)), (1, .int l1), (3, .int l3)]) Cx dX6_buys_65 rfl hl (by decide) rfl (fun ls hl => ?_)
  refine q_aload_n Cx dX6_buys_66 rfl (lv_at hl 1 rfl) ?_
  refine q_iload_n Cx dX6_buys_67 rfl (lv_at hl 2 rfl) ?_
  refine q_iload_n Cx dX6_buys_68 rfl (lv_at hl 0 rfl) ?_
  obtain ⟨r19, e20, hF⟩ := c1_some hF
  refine q_callI (as := [.int l1, .int x17]) (rest := []) Cx (kX6_nextOffer e20) okX6_nextOffer ovX6_nextOffer wd_864 ⟨rfl, rfl, by decide, by decide⟩ hW oZ ic6 rfl hl.1 (Nat.le_of_ble_eq_true rfl) rfl dX6_buys_69 (fun H locs hW => ?_)
  refine q_istore_n (lv' := [(3, .int r19), (2, .int x17), (0, .ref (vA V 12 0)), (1, .int l1)]) Cx dX6_buys_72 rfl hl (by decide) rfl (fun ls hl => ?_)
  refine q_goto (tgt := 14) Cx dX6_buys_73 (by decide) ?_
  exact hk14 hW (lv_sub hl [2, 3, 1, 0] rfl) hF
def FX6_buys_14s (k14 : Int32 → Int32 → Int32 → Blk → Option Blk) (l1 : Int32) (l2 : Int32) (l3 : Int32) (B : Blk) : Option Blk :=
  if l3 = (-6 : Int32) then
    some B
  else
    c1 (FX6_late B l1) fun r7 =>
    if r7 ≤ 0 then
      some B
    else
      ld (B 1) 356 (3 : Int32) fun v10 =>
      if (40 : Int32) ≤ v10 then
        some B
      else
        c1 (FX6_hoursOf B l1 l3) fun r14 =>
        if r14 ≤ 0 then
          FX6_buys_60 k14 l1 l2 l3 B
        else
          c1 (FX6_agree B l1 l3 r14) fun B23 =>
          FX6_buys_60 k14 l1 l2 l3 B23
set_option maxRecDepth 100000 in
set_option maxHeartbeats 4000000 in
theorem wX6_buys_14s {E : WE} {V : VT} {A : Nat → Prop} {H0 : Heap} {M : Mem} (Cx : CX E RX6 cX6_buys 5 2 47) {B' : Blk} (hret : RetV E V A H0 cX6_buys (jb M 12 B')) {k14 : Int32 → Int32 → Int32 → Blk → Option Blk} (hk14 : ∀ {H : Heap} {locs : List Loc} {ls : Array Slot} {B : Blk} {l1 : Int32} {l2 : Int32} {l3 : Int32}, Wd V A H0 (jb M 12 B) (eS E) H locs → lv_has ls 5 [(0, .ref (vA V 12 0)), (1, .int l1), (2, .int l2), (3, .int l3)] → k14 l1 l2 l3 B = some B' → Wq E H locs 14 ls []) {H : Heap} {locs : List Loc} {ls : Array Slot} {l1 : Int32} {l2 : Int32} {l3 : Int32} {B : Blk} (hW : Wd V A H0 (jb M 12 B) (eS E) H locs) (hl : lv_has ls 5 [(0, .ref (vA V 12 0)), (1, .int l1), (2, .int l2), (3, .int l3)]) (hF : FX6_buys_14s k14 l1 l2 l3 B = some B') : Wq E H locs 14 ls [] := by
  unfold FX6_buys_14s at hF
  refine q_iload_n Cx dX6_buys_14 rfl (lv_at hl 3 rfl) ?_
  refine q_bipush (v := (-6 : Int32)) Cx dX6_buys_15 (by decide) ?_
  refine q_icmp_eq (tgt := 76) Cx dX6_buys_17 (by decide) (fun c6 => ?_) (fun c6 => ?_)
  · have hF := (if_pos c6).symm.trans hF
    obtain rfl := Option.some.inj hF
    exact hret _ _ _ _ dX6_buys_76 hW
  · have hF := (if_neg c6).symm.trans hF
    refine q_aload_n Cx dX6_buys_20 rfl (lv_at hl 0 rfl) ?_
    refine q_iload_n Cx dX6_buys_21 rfl (lv_at hl 1 rfl) ?_
    obtain ⟨r7, e8, hF⟩ := c1_some hF
    refine q_callI (as := [.int l1]) (rest := []) Cx (kX6_late e8) okX6_late ovX6_late wd_856 ⟨rfl, rfl, by decide, by decide⟩ hW oZ ic6 rfl hl.1 (Nat.le_of_ble_eq_true rfl) rfl dX6_buys_22 (fun H locs hW => ?_)
    refine q_if_le (tgt := 76) Cx dX6_buys_25 (by decide) (fun c9 => ?_) (fun c9 => ?_)
    · have hF := (if_pos c9).symm.trans hF
      obtain rfl := Option.some.inj hF
      exact hret _ _ _ _ dX6_buys_76 hW
    · have hF := (if_neg c9).symm.trans hF
      refine q_aload_n Cx dX6_buys_28 rfl (lv_at hl 0 rfl) ?_
      refine q_get (v := .ref (vA V 12 1)) Cx hW oZ ic6 0 (by decide) rfl wd_714 dX6_buys_29 ?_
      refine q_iconst (v := (3 : Int32)) Cx dX6_buys_32 (by decide) ?_
      obtain ⟨h11, v10, e12, hF⟩ := ld_some hF
      refine qb_iald Cx hW az_1 h11 e12 dX6_buys_33 ?_
      refine q_bipush (v := (40 : Int32)) Cx dX6_buys_34 (by decide) ?_
      refine q_icmp_ge (tgt := 76) Cx dX6_buys_36 (by decide) (fun c13 => ?_) (fun c13 => ?_)
      · have hF := (if_pos c13).symm.trans hF
        obtain rfl := Option.some.inj hF
        exact hret _ _ _ _ dX6_buys_76 hW
      · have hF := (if_neg c13).symm.trans hF
        refine q_aload_n Cx dX6_buys_39 rfl (lv_at hl 0 rfl) ?_
        refine q_iload_n Cx dX6_buys_40 rfl (lv_at hl 1 rfl) ?_
        refine q_iload_n Cx dX6_buys_41 rfl (lv_at hl 3 rfl) ?_
        obtain ⟨r14, e15, hF⟩ := c1_some hF
        refine q_callI (as := [.int l1, .int l3]) (rest := []) Cx (kX6_hoursOf e15) okX6_hoursOf ovX6_hoursOf wd_872 ⟨rfl, rfl, by decide, by decide⟩ hW oZ ic6 rfl hl.1 (Nat.le_of_ble_eq_true rfl) rfl dX6_buys_42 (fun H locs hW => ?_)
        refine q_istore (lv' := [(4, .int r14), (0, .ref (vA V 12 0)), (1, .int l1), (2, .int l2), (3, .int l3)]) Cx dX6_buys_45 hl (by decide) rfl (fun ls hl => ?_)
        refine q_iload Cx dX6_buys_47 (lv_at hl 0 rfl) ?_
        refine q_if_le (tgt := 60) Cx dX6_buys_49 (by decide) (fun c16 => ?_) (fun c16 => ?_)
        · have hF := (if_pos c16).symm.trans hF
          exact wX6_buys_60 Cx hret hk14 hW (lv_sub hl [1, 2, 3, 4] rfl) hF
        · have hF := (if_neg c16).symm.trans hF
          refine q_aload_n Cx dX6_buys_52 rfl (lv_at hl 1 rfl) ?_
          refine q_iload_n Cx dX6_buys_53 rfl (lv_at hl 2 rfl) ?_
          refine q_iload_n Cx dX6_buys_54 rfl (lv_at hl 4 rfl) ?_
          refine q_iload Cx dX6_buys_55 (lv_at hl 0 rfl) ?_
          obtain ⟨B23, e22, hF⟩ := c1_some hF
          refine q_callV (as := [.int l1, .int l3, .int r14]) (rest := []) Cx (kX6_agree e22) okX6_agree ovX6_agree wd_883 ⟨rfl, rfl, by decide, by decide⟩ hW oZ ic6 rfl hl.1 (Nat.le_of_ble_eq_true rfl) rfl dX6_buys_57 (fun H locs hW => ?_)
          exact wX6_buys_60 Cx hret hk14 hW (lv_sub hl [1, 2, 3, 4] rfl) hF
def FX6_buys_14 : Nat → Int32 → Int32 → Int32 → Blk → Option Blk
  | 0 => fun _ _ _ _ => none
  | n + 1 => FX6_buys_14s (FX6_buys_14 n)
set_option maxRecDepth 100000 in
theorem wX6_buys_14 {E : WE} {V : VT} {A : Nat → Prop} {H0 : Heap} {M : Mem} (Cx : CX E RX6 cX6_buys 5 2 47) {B' : Blk} (hret : RetV E V A H0 cX6_buys (jb M 12 B')) : ∀ (n : Nat) {H : Heap} {locs : List Loc} {ls : Array Slot} {l1 : Int32} {l2 : Int32} {l3 : Int32} {B : Blk}, Wd V A H0 (jb M 12 B) (eS E) H locs → lv_has ls 5 [(0, .ref (vA V 12 0)), (1, .int l1), (2, .int l2), (3, .int l3)] → FX6_buys_14 n l1 l2 l3 B = some B' → Wq E H locs 14 ls [] := by
  intro n
  induction n with
  | zero => intro _ _ _ _ _ _ _ hW hl hF; cases hF
  | succ n ih => intro _ _ _ _ _ _ _ hW hl hF; exact wX6_buys_14s Cx hret ih hW hl hF
def FX6_buys (B : Blk) (l1 : Int32) : Option Blk :=
  c1 (FX6_measure B l1) fun B3 =>
  c1 (FX6_nextOffer B3 l1 (0 : Int32)) fun r4 =>
  FX6_buys_14 fu l1 (0 : Int32) r4 B3
set_option maxRecDepth 100000 in
set_option maxHeartbeats 4000000 in
theorem wX6_buys {E : WE} {V : VT} {A : Nat → Prop} {H0 : Heap} {M : Mem} (Cx : CX E RX6 cX6_buys 5 2 47) {B' : Blk} (hret : RetV E V A H0 cX6_buys (jb M 12 B')) {H : Heap} {locs : List Loc} {ls : Array Slot} {l1 : Int32} {B : Blk} (hW : Wd V A H0 (jb M 12 B) (eS E) H locs) (hl : lv_has ls 5 [(0, .ref (vA V 12 0)), (1, .int l1)]) (hF : FX6_buys B l1 = some B') : Wq E H locs 0 ls [] := by
  unfold FX6_buys at hF
  refine q_aload_n Cx dX6_buys_0 rfl (lv_at hl 0 rfl) ?_
  refine q_iload_n Cx dX6_buys_1 rfl (lv_at hl 1 rfl) ?_
  obtain ⟨B3, e2, hF⟩ := c1_some hF
  refine q_callV (as := [.int l1]) (rest := []) Cx (kX6_measure e2) okX6_measure ovX6_measure wd_836 ⟨rfl, rfl, by decide, by decide⟩ hW oZ ic6 rfl hl.1 (Nat.le_of_ble_eq_true rfl) rfl dX6_buys_2 (fun H locs hW => ?_)
  refine q_iconst (v := (0 : Int32)) Cx dX6_buys_5 (by decide) ?_
  refine q_istore_n (lv' := [(2, .int (0 : Int32)), (0, .ref (vA V 12 0)), (1, .int l1)]) Cx dX6_buys_6 rfl hl (by decide) rfl (fun ls hl => ?_)
  refine q_aload_n Cx dX6_buys_7 rfl (lv_at hl 1 rfl) ?_
  refine q_iload_n Cx dX6_buys_8 rfl (lv_at hl 2 rfl) ?_
  refine q_iload_n Cx dX6_buys_9 rfl (lv_at hl 0 rfl) ?_
  obtain ⟨r4, e5, hF⟩ := c1_some hF
  refine q_callI (as := [.int l1, .int (0 : Int32)]) (rest := []) Cx (kX6_nextOffer e5) okX6_nextOffer ovX6_nextOffer wd_864 ⟨rfl, rfl, by decide, by decide⟩ hW oZ ic6 rfl hl.1 (Nat.le_of_ble_eq_true rfl) rfl dX6_buys_10 (fun H locs hW => ?_)
  refine q_istore_n (lv' := [(3, .int r4), (2, .int (0 : Int32)), (0, .ref (vA V 12 0)), (1, .int l1)]) Cx dX6_buys_13 rfl hl (by decide) rfl (fun ls hl => ?_)
  exact wX6_buys_14 Cx hret fu hW (lv_sub hl [2, 3, 1, 0] rfl) hF
set_option maxRecDepth 100000 in
theorem kX6_buys {l : Launch} {V : VT} {M : Mem} {B : Blk} {l1 : Int32} {B' : Blk} (hF : FX6_buys B l1 = some B') : MetV l V yX6_buys cX6_buys 5 ({ frames := 2, cells := 0, slots := 0, locals := 47 } : Room) [.ref (vA V 12 0), .int l1] (jb M 12 B) (jb M 12 B') := metV_of (by decide) (Nat.le_of_ble_eq_true rfl) (fun E H0 _ Cx hret H locs ls hW hl => wX6_buys Cx hret hW hl hF)
theorem dX6_tradeAll_0 : decode cX6_tradeAll 0 = .ok (.aload_n 0, 1) := by decide +kernel
theorem dX6_tradeAll_1 : decode cX6_tradeAll 1 = .ok (.invokevirtual 77, 3) := by decide +kernel
theorem dX6_tradeAll_4 : decode cX6_tradeAll 4 = .ok (.pop, 1) := by decide +kernel
theorem dX6_tradeAll_5 : decode cX6_tradeAll 5 = .ok (.iconst 0, 1) := by decide +kernel
theorem dX6_tradeAll_6 : decode cX6_tradeAll 6 = .ok (.istore_n 1, 1) := by decide +kernel
theorem dX6_tradeAll_7 : decode cX6_tradeAll 7 = .ok (.iload_n 1, 1) := by decide +kernel
theorem dX6_tradeAll_8 : decode cX6_tradeAll 8 = .ok (.aload_n 0, 1) := by decide +kernel
theorem dX6_tradeAll_9 : decode cX6_tradeAll 9 = .ok (.getfield 7, 3) := by decide +kernel
theorem dX6_tradeAll_12 : decode cX6_tradeAll 12 = .ok (.iconst 0, 1) := by decide +kernel
theorem dX6_tradeAll_13 : decode cX6_tradeAll 13 = .ok (.iaload, 1) := by decide +kernel
theorem dX6_tradeAll_14 : decode cX6_tradeAll 14 = .ok (.if_icmp .ge 20, 3) := by decide +kernel
theorem dX6_tradeAll_17 : decode cX6_tradeAll 17 = .ok (.aload_n 0, 1) := by decide +kernel
theorem dX6_tradeAll_18 : decode cX6_tradeAll 18 = .ok (.getfield 43, 3) := by decide +kernel
theorem dX6_tradeAll_21 : decode cX6_tradeAll 21 = .ok (.iload_n 1, 1) := by decide +kernel
theorem dX6_tradeAll_22 : decode cX6_tradeAll 22 = .ok (.aload_n 0, 1) := by decide +kernel
theorem dX6_tradeAll_23 : decode cX6_tradeAll 23 = .ok (.iload_n 1, 1) := by decide +kernel
theorem dX6_tradeAll_24 : decode cX6_tradeAll 24 = .ok (.invokevirtual 74, 3) := by decide +kernel
theorem dX6_tradeAll_27 : decode cX6_tradeAll 27 = .ok (.iastore, 1) := by decide +kernel
theorem dX6_tradeAll_28 : decode cX6_tradeAll 28 = .ok (.iinc 1 1, 3) := by decide +kernel
theorem dX6_tradeAll_31 : decode cX6_tradeAll 31 = .ok (.goto (-24), 3) := by decide +kernel
theorem dX6_tradeAll_34 : decode cX6_tradeAll 34 = .ok (.iconst 0, 1) := by decide +kernel
theorem dX6_tradeAll_35 : decode cX6_tradeAll 35 = .ok (.istore_n 1, 1) := by decide +kernel
theorem dX6_tradeAll_36 : decode cX6_tradeAll 36 = .ok (.iload_n 1, 1) := by decide +kernel
theorem dX6_tradeAll_37 : decode cX6_tradeAll 37 = .ok (.aload_n 0, 1) := by decide +kernel
theorem dX6_tradeAll_38 : decode cX6_tradeAll 38 = .ok (.getfield 7, 3) := by decide +kernel
theorem dX6_tradeAll_41 : decode cX6_tradeAll 41 = .ok (.iconst 0, 1) := by decide +kernel
theorem dX6_tradeAll_42 : decode cX6_tradeAll 42 = .ok (.iaload, 1) := by decide +kernel
theorem dX6_tradeAll_43 : decode cX6_tradeAll 43 = .ok (.if_icmp .ge 96, 3) := by decide +kernel
theorem dX6_tradeAll_46 : decode cX6_tradeAll 46 = .ok (.bipush (-6), 2) := by decide +kernel
theorem dX6_tradeAll_48 : decode cX6_tradeAll 48 = .ok (.istore_n 2, 1) := by decide +kernel
theorem dX6_tradeAll_49 : decode cX6_tradeAll 49 = .ok (.iconst 0, 1) := by decide +kernel
theorem dX6_tradeAll_50 : decode cX6_tradeAll 50 = .ok (.istore_n 3, 1) := by decide +kernel
theorem dX6_tradeAll_51 : decode cX6_tradeAll 51 = .ok (.iload_n 3, 1) := by decide +kernel
theorem dX6_tradeAll_52 : decode cX6_tradeAll 52 = .ok (.aload_n 0, 1) := by decide +kernel
theorem dX6_tradeAll_53 : decode cX6_tradeAll 53 = .ok (.getfield 7, 3) := by decide +kernel
theorem dX6_tradeAll_56 : decode cX6_tradeAll 56 = .ok (.iconst 0, 1) := by decide +kernel
theorem dX6_tradeAll_57 : decode cX6_tradeAll 57 = .ok (.iaload, 1) := by decide +kernel
theorem dX6_tradeAll_58 : decode cX6_tradeAll 58 = .ok (.if_icmp .ge 57, 3) := by decide +kernel
theorem dX6_tradeAll_61 : decode cX6_tradeAll 61 = .ok (.aload_n 0, 1) := by decide +kernel
theorem dX6_tradeAll_62 : decode cX6_tradeAll 62 = .ok (.getfield 43, 3) := by decide +kernel
theorem dX6_tradeAll_65 : decode cX6_tradeAll 65 = .ok (.iload_n 3, 1) := by decide +kernel
theorem dX6_tradeAll_66 : decode cX6_tradeAll 66 = .ok (.iaload, 1) := by decide +kernel
theorem dX6_tradeAll_67 : decode cX6_tradeAll 67 = .ok (.ifCond .le 28, 3) := by decide +kernel
theorem dX6_tradeAll_70 : decode cX6_tradeAll 70 = .ok (.iload_n 2, 1) := by decide +kernel
theorem dX6_tradeAll_71 : decode cX6_tradeAll 71 = .ok (.bipush (-6), 2) := by decide +kernel
theorem dX6_tradeAll_73 : decode cX6_tradeAll 73 = .ok (.if_icmp .eq 18, 3) := by decide +kernel
theorem dX6_tradeAll_76 : decode cX6_tradeAll 76 = .ok (.aload_n 0, 1) := by decide +kernel
theorem dX6_tradeAll_77 : decode cX6_tradeAll 77 = .ok (.getfield 43, 3) := by decide +kernel
theorem dX6_tradeAll_80 : decode cX6_tradeAll 80 = .ok (.iload_n 3, 1) := by decide +kernel
theorem dX6_tradeAll_81 : decode cX6_tradeAll 81 = .ok (.iaload, 1) := by decide +kernel
theorem dX6_tradeAll_82 : decode cX6_tradeAll 82 = .ok (.aload_n 0, 1) := by decide +kernel
theorem dX6_tradeAll_83 : decode cX6_tradeAll 83 = .ok (.getfield 43, 3) := by decide +kernel
theorem dX6_tradeAll_86 : decode cX6_tradeAll 86 = .ok (.iload_n 2, 1) := by decide +kernel
theorem dX6_tradeAll_87 : decode cX6_tradeAll 87 = .ok (.iaload, 1) := by decide +kernel
theorem dX6_tradeAll_88 : decode cX6_tradeAll 88 = .ok (.if_icmp .le 7, 3) := by decide +kernel
theorem dX6_tradeAll_91 : decode cX6_tradeAll 91 = .ok (.iconst 1, 1) := by decide +kernel
theorem dX6_tradeAll_92 : decode cX6_tradeAll 92 = .ok (.goto 4, 3) := by decide +kernel
theorem dX6_tradeAll_95 : decode cX6_tradeAll 95 = .ok (.iconst 0, 1) := by decide +kernel
theorem dX6_tradeAll_96 : decode cX6_tradeAll 96 = .ok (.istore 4, 2) := by decide +kernel
theorem dX6_tradeAll_98 : decode cX6_tradeAll 98 = .ok (.iload 4, 2) := by decide +kernel
theorem dX6_tradeAll_100 : decode cX6_tradeAll 100 = .ok (.ifCond .eq 7, 3) := by decide +kernel
theorem dX6_tradeAll_103 : decode cX6_tradeAll 103 = .ok (.iload_n 3, 1) := by decide +kernel
theorem dX6_tradeAll_104 : decode cX6_tradeAll 104 = .ok (.goto 4, 3) := by decide +kernel
theorem dX6_tradeAll_107 : decode cX6_tradeAll 107 = .ok (.iload_n 2, 1) := by decide +kernel
theorem dX6_tradeAll_108 : decode cX6_tradeAll 108 = .ok (.istore_n 2, 1) := by decide +kernel
theorem dX6_tradeAll_109 : decode cX6_tradeAll 109 = .ok (.iinc 3 1, 3) := by decide +kernel
theorem dX6_tradeAll_112 : decode cX6_tradeAll 112 = .ok (.goto (-61), 3) := by decide +kernel
theorem dX6_tradeAll_115 : decode cX6_tradeAll 115 = .ok (.iload_n 2, 1) := by decide +kernel
theorem dX6_tradeAll_116 : decode cX6_tradeAll 116 = .ok (.bipush (-6), 2) := by decide +kernel
theorem dX6_tradeAll_118 : decode cX6_tradeAll 118 = .ok (.if_icmp .eq 15, 3) := by decide +kernel
theorem dX6_tradeAll_121 : decode cX6_tradeAll 121 = .ok (.aload_n 0, 1) := by decide +kernel
theorem dX6_tradeAll_122 : decode cX6_tradeAll 122 = .ok (.getfield 43, 3) := by decide +kernel
theorem dX6_tradeAll_125 : decode cX6_tradeAll 125 = .ok (.iload_n 2, 1) := by decide +kernel
theorem dX6_tradeAll_126 : decode cX6_tradeAll 126 = .ok (.iconst 0, 1) := by decide +kernel
theorem dX6_tradeAll_127 : decode cX6_tradeAll 127 = .ok (.iastore, 1) := by decide +kernel
theorem dX6_tradeAll_128 : decode cX6_tradeAll 128 = .ok (.aload_n 0, 1) := by decide +kernel
theorem dX6_tradeAll_129 : decode cX6_tradeAll 129 = .ok (.iload_n 2, 1) := by decide +kernel
theorem dX6_tradeAll_130 : decode cX6_tradeAll 130 = .ok (.invokevirtual 127, 3) := by decide +kernel
theorem dX6_tradeAll_133 : decode cX6_tradeAll 133 = .ok (.iinc 1 1, 3) := by decide +kernel
theorem dX6_tradeAll_136 : decode cX6_tradeAll 136 = .ok (.goto (-100), 3) := by decide +kernel
theorem dX6_tradeAll_139 : decode cX6_tradeAll 139 = .ok (.return_, 1) := by decide +kernel
theorem okX6_tradeAll : CalOK yX6_tradeAll cX6_tradeAll 5 (none) 0 := ⟨wd_73, wd_855, by decide +kernel⟩
theorem ovX6_tradeAll : VirOK yX6_tradeAll := ⟨wd_854, wd_34⟩
def FX6_tradeAll_96 (k36 : Int32 → Blk → Option Blk) (k51 : Int32 → Int32 → Int32 → Blk → Option Blk) (l1 : Int32) (l2 : Int32) (l3 : Int32) (s0 : Int32) (B : Blk) : Option Blk :=
  if s0 = 0 then
    lt1 (l3 + (1 : Int32)) fun x32 =>
    k51 l1 l2 x32 B
  else
    lt1 (l3 + (1 : Int32)) fun x34 =>
    k51 l1 l3 x34 B
set_option maxRecDepth 100000 in
set_option maxHeartbeats 4000000 in
theorem wX6_tradeAll_96 {E : WE} {V : VT} {A : Nat → Prop} {H0 : Heap} {M : Mem} (Cx : CX E RX6 cX6_tradeAll 5 3 71) {B' : Blk} (hret : RetV E V A H0 cX6_tradeAll (jb M 12 B')) {k36 : Int32 → Blk → Option Blk} (hk36 : ∀ {H : Heap} {locs : List Loc} {ls : Array Slot} {B : Blk} {l1 : Int32}, Wd V A H0 (jb M 12 B) (eS E) H locs → lv_has ls 5 [(0, .ref (vA V 12 0)), (1, .int l1)] → k36 l1 B = some B' → Wq E H locs 36 ls []) {k51 : Int32 → Int32 → Int32 → Blk → Option Blk} (hk51 : ∀ {H : Heap} {locs : List Loc} {ls : Array Slot} {B : Blk} {l1 : Int32} {l2 : Int32} {l3 : Int32}, Wd V A H0 (jb M 12 B) (eS E) H locs → lv_has ls 5 [(0, .ref (vA V 12 0)), (1, .int l1), (2, .int l2), (3, .int l3)] → k51 l1 l2 l3 B = some B' → Wq E H locs 51 ls []) {H : Heap} {locs : List Loc} {ls : Array Slot} {l1 : Int32} {l2 : Int32} {l3 : Int32} {s0 : Int32} {B : Blk} (hW : Wd V A H0 (jb M 12 B) (eS E) H locs) (hl : lv_has ls 5 [(0, .ref (vA V 12 0)), (1, .int l1), (2, .int l2), (3, .int l3)]) (hF : FX6_tradeAll_96 k36 k51 l1 l2 l3 s0 B = some B') : Wq E H locs 96 ls [.int s0] := by
  unfold FX6_tradeAll_96 at hF
  refine q_istore (lv' := [(4, .int s0), (0, .ref (vA V 12 0)), (1, .int l1), (2, .int l2), (3, .int l3)]) Cx dX6_tradeAll_96 hl (by decide) rfl (fun ls hl => ?_)
  refine q_iload Cx dX6_tradeAll_98 (lv_at hl 0 rfl) ?_
  refine q_if_eq (tgt := 107) Cx dX6_tradeAll_100 (by decide) (fun c31 => ?_) (fun c31 => ?_)
  · have hF := (if_pos c31).symm.trans hF
    refine q_iload_n Cx dX6_tradeAll_107 rfl (lv_at hl 3 rfl) ?_
    refine q_istore_n (lv' := [(2, .int l2), (4, .int s0), (0, .ref (vA V 12 0)), (1, .int l1), (3, .int l3)]) Cx dX6_tradeAll_108 rfl hl (by decide) rfl (fun ls hl => ?_)
    obtain ⟨x32, e33, hF⟩ := lt1_some hF
    refine q_iinc (k := 4) (v := x32) (lv' := [(3, .int x32), (2, .int l2), (4, .int s0), (0, .ref (vA V 12 0)), (1, .int l1)]) Cx dX6_tradeAll_109 hl rfl e33.symm (by decide) rfl (fun ls hl => ?_)
    refine q_goto (tgt := 51) Cx dX6_tradeAll_112 (by decide) ?_
    exact hk51 hW (lv_sub hl [3, 4, 1, 0] rfl) hF
  · have hF := (if_neg c31).symm.trans hF
    refine q_iload_n Cx dX6_tradeAll_103 rfl (lv_at hl 4 rfl) ?_
    refine q_goto (tgt := 108) Cx dX6_tradeAll_104 (by decide) ?_
    refine q_istore_n (lv' := [(2, .int l3), (4, .int s0), (0, .ref (vA V 12 0)), (1, .int l1), (3, .int l3)]) Cx dX6_tradeAll_108 rfl hl (by decide) rfl (fun ls hl => ?_)
    obtain ⟨x34, e35, hF⟩ := lt1_some hF
    refine q_iinc (k := 4) (v := x34) (lv' := [(3, .int x34), (2, .int l3), (4, .int s0), (0, .ref (vA V 12 0)), (1, .int l1)]) Cx dX6_tradeAll_109 hl rfl e35.symm (by decide) rfl (fun ls hl => ?_)
    refine q_goto (tgt := 51) Cx dX6_tradeAll_112 (by decide) ?_
    exact hk51 hW (lv_sub hl [3, 4, 1, 0] rfl) hF
def FX6_tradeAll_95 (k36 : Int32 → Blk → Option Blk) (k51 : Int32 → Int32 → Int32 → Blk → Option Blk) (l1 : Int32) (l2 : Int32) (l3 : Int32) (B : Blk) : Option Blk :=
  FX6_tradeAll_96 k36 k51 l1 l2 l3 (0 : Int32) B
set_option maxRecDepth 100000 in
set_option maxHeartbeats 4000000 in
theorem wX6_tradeAll_95 {E : WE} {V : VT} {A : Nat → Prop} {H0 : Heap} {M : Mem} (Cx : CX E RX6 cX6_tradeAll 5 3 71) {B' : Blk} (hret : RetV E V A H0 cX6_tradeAll (jb M 12 B')) {k36 : Int32 → Blk → Option Blk} (hk36 : ∀ {H : Heap} {locs : List Loc} {ls : Array Slot} {B : Blk} {l1 : Int32}, Wd V A H0 (jb M 12 B) (eS E) H locs → lv_has ls 5 [(0, .ref (vA V 12 0)), (1, .int l1)] → k36 l1 B = some B' → Wq E H locs 36 ls []) {k51 : Int32 → Int32 → Int32 → Blk → Option Blk} (hk51 : ∀ {H : Heap} {locs : List Loc} {ls : Array Slot} {B : Blk} {l1 : Int32} {l2 : Int32} {l3 : Int32}, Wd V A H0 (jb M 12 B) (eS E) H locs → lv_has ls 5 [(0, .ref (vA V 12 0)), (1, .int l1), (2, .int l2), (3, .int l3)] → k51 l1 l2 l3 B = some B' → Wq E H locs 51 ls []) {H : Heap} {locs : List Loc} {ls : Array Slot} {l1 : Int32} {l2 : Int32} {l3 : Int32} {B : Blk} (hW : Wd V A H0 (jb M 12 B) (eS E) H locs) (hl : lv_has ls 5 [(0, .ref (vA V 12 0)), (1, .int l1), (2, .int l2), (3, .int l3)]) (hF : FX6_tradeAll_95 k36 k51 l1 l2 l3 B = some B') : Wq E H locs 95 ls [] := by
  unfold FX6_tradeAll_95 at hF
  refine q_iconst (v := (0 : Int32)) Cx dX6_tradeAll_95 (by decide) ?_
  exact wX6_tradeAll_96 Cx hret hk36 hk51 hW (lv_sub hl [0, 1, 2, 3] rfl) hF
def FX6_tradeAll_91 (k36 : Int32 → Blk → Option Blk) (k51 : Int32 → Int32 → Int32 → Blk → Option Blk) (l1 : Int32) (l2 : Int32) (l3 : Int32) (B : Blk) : Option Blk :=
  FX6_tradeAll_96 k36 k51 l1 l2 l3 (1 : Int32) B
set_option maxRecDepth 100000 in
set_option maxHeartbeats 4000000 in
theorem wX6_tradeAll_91 {E : WE} {V : VT} {A : Nat → Prop} {H0 : Heap} {M : Mem} (Cx : CX E RX6 cX6_tradeAll 5 3 71) {B' : Blk} (hret : RetV E V A H0 cX6_tradeAll (jb M 12 B')) {k36 : Int32 → Blk → Option Blk} (hk36 : ∀ {H : Heap} {locs : List Loc} {ls : Array Slot} {B : Blk} {l1 : Int32}, Wd V A H0 (jb M 12 B) (eS E) H locs → lv_has ls 5 [(0, .ref (vA V 12 0)), (1, .int l1)] → k36 l1 B = some B' → Wq E H locs 36 ls []) {k51 : Int32 → Int32 → Int32 → Blk → Option Blk} (hk51 : ∀ {H : Heap} {locs : List Loc} {ls : Array Slot} {B : Blk} {l1 : Int32} {l2 : Int32} {l3 : Int32}, Wd V A H0 (jb M 12 B) (eS E) H locs → lv_has ls 5 [(0, .ref (vA V 12 0)), (1, .int l1), (2, .int l2), (3, .int l3)] → k51 l1 l2 l3 B = some B' → Wq E H locs 51 ls []) {H : Heap} {locs : List Loc} {ls : Array Slot} {l1 : Int32} {l2 : Int32} {l3 : Int32} {B : Blk} (hW : Wd V A H0 (jb M 12 B) (eS E) H locs) (hl : lv_has ls 5 [(0, .ref (vA V 12 0)), (1, .int l1), (2, .int l2), (3, .int l3)]) (hF : FX6_tradeAll_91 k36 k51 l1 l2 l3 B = some B') : Wq E H locs 91 ls [] := by
  unfold FX6_tradeAll_91 at hF
  refine q_iconst (v := (1 : Int32)) Cx dX6_tradeAll_91 (by decide) ?_
  refine q_goto (tgt := 96) Cx dX6_tradeAll_92 (by decide) ?_
  exact wX6_tradeAll_96 Cx hret hk36 hk51 hW (lv_sub hl [0, 1, 2, 3] rfl) hF
def FX6_tradeAll_51s (k36 : Int32 → Blk → Option Blk) (k51 : Int32 → Int32 → Int32 → Blk → Option Blk) (l1 : Int32) (l2 : Int32) (l3 : Int32) (B : Blk) : Option Blk :=
  ld (B 1) 356 (0 : Int32) fun v12 =>
  if v12 ≤ l3 then
    if l2 = (-6 : Int32) then
      lt1 (l1 + (1 : Int32)) fun x17 =>
      k36 x17 B
    else
      stb B 10 24 l2 (0 : Int32) fun B19 =>
      c1 (FX6_buys B19 l2) fun B24 =>
      lt1 (l1 + (1 : Int32)) fun x25 =>
      k36 x25 B24
  else
    ld (B 10) 24 l3 fun v27 =>
    if v27 ≤ 0 then
      FX6_tradeAll_95 k36 k51 l1 l2 l3 B
    else
      if l2 = (-6 : Int32) then
        FX6_tradeAll_91 k36 k51 l1 l2 l3 B
      else
        ld (B 10) 24 l3 fun v37 =>
        ld (B 10) 24 l2 fun v40 =>
        if v37 ≤ v40 then
          FX6_tradeAll_95 k36 k51 l1 l2 l3 B
        else
          FX6_tradeAll_91 k36 k51 l1 l2 l3 B
set_option maxRecDepth 100000 in
set_option maxHeartbeats 4000000 in
theorem wX6_tradeAll_51s {E : WE} {V : VT} {A : Nat → Prop} {H0 : Heap} {M : Mem} (Cx : CX E RX6 cX6_tradeAll 5 3 71) {B' : Blk} (hret : RetV E V A H0 cX6_tradeAll (jb M 12 B')) {k36 : Int32 → Blk → Option Blk} (hk36 : ∀ {H : Heap} {locs : List Loc} {ls : Array Slot} {B : Blk} {l1 : Int32}, Wd V A H0 (jb M 12 B) (eS E) H locs → lv_has ls 5 [(0, .ref (vA V 12 0)), (1, .int l1)] → k36 l1 B = some B' → Wq E H locs 36 ls []) {k51 : Int32 → Int32 → Int32 → Blk → Option Blk} (hk51 : ∀ {H : Heap} {locs : List Loc} {ls : Array Slot} {B : Blk} {l1 : Int32} {l2 : Int32} {l3 : Int32}, Wd V A H0 (jb M 12 B) (eS E) H locs → lv_has ls 5 [(0, .ref (vA V 12 0)), (1, .int l1), (2, .int l2), (3, .int l3)] → k51 l1 l2 l3 B = some B' → Wq E H locs 51 ls []) {H : Heap} {locs : List Loc} {ls : Array Slot} {l1 : Int32} {l2 : Int32} {l3 : Int32} {B : Blk} (hW : Wd V A H0 (jb M 12 B) (eS E) H locs) (hl : lv_has ls 5 [(0, .ref (vA V 12 0)), (1, .int l1), (2, .int l2), (3, .int l3)]) (hF : FX6_tradeAll_51s k36 k51 l1 l2 l3 B = some B') : Wq E H locs 51 ls [] := by
  unfold FX6_tradeAll_51s at hF
  refine q_iload_n Cx dX6_tradeAll_51 rfl (lv_at hl 3 rfl) ?_
  refine q_aload_n Cx dX6_tradeAll_52 rfl (lv_at hl 0 rfl) ?_
  refine q_get (v := .ref (vA V 12 1)) Cx hW oZ ic6 0 (by decide) rfl wd_714 dX6_tradeAll_53 ?_
  refine q_iconst (v := (0 : Int32)) Cx dX6_tradeAll_56 (by decide) ?_
  obtain ⟨h13, v12, e14, hF⟩ := ld_some hF
  refine qb_iald Cx hW az_1 h13 e14 dX6_tradeAll_57 ?_
  refine q_icmp_ge (tgt := 115) Cx dX6_tradeAll_58 (by decide) (fun c15 => ?_) (fun c15 => ?_)
  · have hF := (if_pos c15).symm.trans hF
    refine q_iload_n Cx dX6_tradeAll_115 rfl (lv_at hl 2 rfl) ?_
    refine q_bipush (v := (-6 : Int32)) Cx dX6_tradeAll_116 (by decide) ?_
    refine q_icmp_eq (tgt := 133) Cx dX6_tradeAll_118 (by decide) (fun c16 => ?_) (fun c16 => ?_)
    · have hF := (if_pos c16).symm.trans hF
      obtain ⟨x17, e18, hF⟩ := lt1_some hF
      refine q_iinc (k := 1) (v := x17) (lv' := [(1, .int x17), (0, .ref (vA V 12 0)), (2, .int l2), (3, .int l3)]) Cx dX6_tradeAll_133 hl rfl e18.symm (by decide) rfl (fun ls hl => ?_)
      refine q_goto (tgt := 36) Cx dX6_tradeAll_136 (by decide) ?_
      exact hk36 hW (lv_sub hl [1, 0] rfl) hF
    · have hF := (if_neg c16).symm.trans hF
      refine q_aload_n Cx dX6_tradeAll_121 rfl (lv_at hl 0 rfl) ?_
      refine q_get (v := .ref (vA V 12 10)) Cx hW oZ ic6 14 (by decide) rfl wd_728 dX6_tradeAll_122 ?_
      refine q_iload_n Cx dX6_tradeAll_125 rfl (lv_at hl 2 rfl) ?_
      refine q_iconst (v := (0 : Int32)) Cx dX6_tradeAll_126 (by decide) ?_
      obtain ⟨h20, B19, e21, hF⟩ := stb_some hF
      refine qb_iast Cx hW az_10 h20 e21 dX6_tradeAll_127 (fun H locs hW => ?_)
      refine q_aload_n Cx dX6_tradeAll_128 rfl (lv_at hl 0 rfl) ?_
      refine q_iload_n Cx dX6_tradeAll_129 rfl (lv_at hl 2 rfl) ?_
      obtain ⟨B24, e23, hF⟩ := c1_some hF
      refine q_callV (as := [.int l2]) (rest := []) Cx (kX6_buys e23) okX6_buys ovX6_buys wd_860 ⟨rfl, rfl, by decide, by decide⟩ hW oZ ic6 rfl hl.1 (Nat.le_of_ble_eq_true rfl) rfl dX6_tradeAll_130 (fun H locs hW => ?_)
      obtain ⟨x25, e26, hF⟩ := lt1_some hF
      refine q_iinc (k := 1) (v := x25) (lv' := [(1, .int x25), (0, .ref (vA V 12 0)), (2, .int l2), (3, .int l3)]) Cx dX6_tradeAll_133 hl rfl e26.symm (by decide) rfl (fun ls hl => ?_)
      refine q_goto (tgt := 36) Cx dX6_tradeAll_136 (by decide) ?_
      exact hk36 hW (lv_sub hl [1, 0] rfl) hF
  · have hF := (if_neg c15).symm.trans hF
    refine q_aload_n Cx dX6_tradeAll_61 rfl (lv_at hl 0 rfl) ?_
    refine q_get (v := .ref (vA V 12 10)) Cx hW oZ ic6 14 (by decide) rfl wd_728 dX6_tradeAll_62 ?_
    refine q_iload_n Cx dX6_tradeAll_65 rfl (lv_at hl 3 rfl) ?_
    obtain ⟨h28, v27, e29, hF⟩ := ld_some hF
    refine qb_iald Cx hW az_10 h28 e29 dX6_tradeAll_66 ?_
    refine q_if_le (tgt := 95) Cx dX6_tradeAll_67 (by decide) (fun c30 => ?_) (fun c30 => ?_)
    · have hF := (if_pos c30).symm.trans hF
      exact wX6_tradeAll_95 Cx hret hk36 hk51 hW (lv_sub hl [0, 1, 2, 3] rfl) hF
    · have hF := (if_neg c30).symm.trans hF
      refine q_iload_n Cx dX6_tradeAll_70 rfl (lv_at hl 2 rfl) ?_
      refine q_bipush (v := (-6 : Int32)) Cx dX6_tradeAll_71 (by decide) ?_
      refine q_icmp_eq (tgt := 91) Cx dX6_tradeAll_73 (by decide) (fun c36 => ?_) (fun c36 => ?_)
      · have hF := (if_pos c36).symm.trans hF
        exact wX6_tradeAll_91 Cx hret hk36 hk51 hW (lv_sub hl [0, 1, 2, 3] rfl) hF
      · have hF := (if_neg c36).symm.trans hF
        refine q_aload_n Cx dX6_tradeAll_76 rfl (lv_at hl 0 rfl) ?_
        refine q_get (v := .ref (vA V 12 10)) Cx hW oZ ic6 14 (by decide) rfl wd_728 dX6_tradeAll_77 ?_
        refine q_iload_n Cx dX6_tradeAll_80 rfl (lv_at hl 3 rfl) ?_
        obtain ⟨h38, v37, e39, hF⟩ := ld_some hF
        refine qb_iald Cx hW az_10 h38 e39 dX6_tradeAll_81 ?_
        refine q_aload_n Cx dX6_tradeAll_82 rfl (lv_at hl 0 rfl) ?_
        refine q_get (v := .ref (vA V 12 10)) Cx hW oZ ic6 14 (by decide) rfl wd_728 dX6_tradeAll_83 ?_
        refine q_iload_n Cx dX6_tradeAll_86 rfl (lv_at hl 2 rfl) ?_
        obtain ⟨h41, v40, e42, hF⟩ := ld_some hF
        refine qb_iald Cx hW az_10 h41 e42 dX6_tradeAll_87 ?_
        refine q_icmp_le (tgt := 95) Cx dX6_tradeAll_88 (by decide) (fun c43 => ?_) (fun c43 => ?_)
        · have hF := (if_pos c43).symm.trans hF
          exact wX6_tradeAll_95 Cx hret hk36 hk51 hW (lv_sub hl [0, 1, 2, 3] rfl) hF
        · have hF := (if_neg c43).symm.trans hF
          exact wX6_tradeAll_91 Cx hret hk36 hk51 hW (lv_sub hl [0, 1, 2, 3] rfl) hF
def FX6_tradeAll_51 (k36 : Int32 → Blk → Option Blk) : Nat → Int32 → Int32 → Int32 → Blk → Option Blk
  | 0 => fun _ _ _ _ => none
  | n + 1 => FX6_tradeAll_51s k36 (FX6_tradeAll_51 k36 n)
set_option maxRecDepth 100000 in
theorem wX6_tradeAll_51 {E : WE} {V : VT} {A : Nat → Prop} {H0 : Heap} {M : Mem} (Cx : CX E RX6 cX6_tradeAll 5 3 71) {B' : Blk} (hret : RetV E V A H0 cX6_tradeAll (jb M 12 B')) {k36 : Int32 → Blk → Option Blk} (hk36 : ∀ {H : Heap} {locs : List Loc} {ls : Array Slot} {B : Blk} {l1 : Int32}, Wd V A H0 (jb M 12 B) (eS E) H locs → lv_has ls 5 [(0, .ref (vA V 12 0)), (1, .int l1)] → k36 l1 B = some B' → Wq E H locs 36 ls []) : ∀ (n : Nat) {H : Heap} {locs : List Loc} {ls : Array Slot} {l1 : Int32} {l2 : Int32} {l3 : Int32} {B : Blk}, Wd V A H0 (jb M 12 B) (eS E) H locs → lv_has ls 5 [(0, .ref (vA V 12 0)), (1, .int l1), (2, .int l2), (3, .int l3)] → FX6_tradeAll_51 k36 n l1 l2 l3 B = some B' → Wq E H locs 51 ls [] := by
  intro n
  induction n with
  | zero => intro _ _ _ _ _ _ _ hW hl hF; cases hF
  | succ n ih => intro _ _ _ _ _ _ _ hW hl hF; exact wX6_tradeAll_51s Cx hret hk36 ih hW hl hF
def FX6_tradeAll_36s (k36 : Int32 → Blk → Option Blk) (l1 : Int32) (B : Blk) : Option Blk :=
  ld (B 1) 356 (0 : Int32) fun v8 =>
  if v8 ≤ l1 then
    some B
  else
    FX6_tradeAll_51 k36 fu l1 (-6 : Int32) (0 : Int32) B
set_option maxRecDepth 100000 in
set_option maxHeartbeats 4000000 in
theorem wX6_tradeAll_36s {E : WE} {V : VT} {A : Nat → Prop} {H0 : Heap} {M : Mem} (Cx : CX E RX6 cX6_tradeAll 5 3 71) {B' : Blk} (hret : RetV E V A H0 cX6_tradeAll (jb M 12 B')) {k36 : Int32 → Blk → Option Blk} (hk36 : ∀ {H : Heap} {locs : List Loc} {ls : Array Slot} {B : Blk} {l1 : Int32}, Wd V A H0 (jb M 12 B) (eS E) H locs → lv_has ls 5 [(0, .ref (vA V 12 0)), (1, .int l1)] → k36 l1 B = some B' → Wq E H locs 36 ls []) {H : Heap} {locs : List Loc} {ls : Array Slot} {l1 : Int32} {B : Blk} (hW : Wd V A H0 (jb M 12 B) (eS E) H locs) (hl : lv_has ls 5 [(0, .ref (vA V 12 0)), (1, .int l1)]) (hF : FX6_tradeAll_36s k36 l1 B = some B') : Wq E H locs 36 ls [] := by
  unfold FX6_tradeAll_36s at hF
  refine q_iload_n Cx dX6_tradeAll_36 rfl (lv_at hl 1 rfl) ?_
  refine q_aload_n Cx dX6_tradeAll_37 rfl (lv_at hl 0 rfl) ?_
  refine q_get (v := .ref (vA V 12 1)) Cx hW oZ ic6 0 (by decide) rfl wd_714 dX6_tradeAll_38 ?_
  refine q_iconst (v := (0 : Int32)) Cx dX6_tradeAll_41 (by decide) ?_
  obtain ⟨h9, v8, e10, hF⟩ := ld_some hF
  refine qb_iald Cx hW az_1 h9 e10 dX6_tradeAll_42 ?_
  refine q_icmp_ge (tgt := 139) Cx dX6_tradeAll_43 (by decide) (fun c11 => ?_) (fun c11 => ?_)
  · have hF := (if_pos c11).symm.trans hF
    obtain rfl := Option.some.inj hF
    exact hret _ _ _ _ dX6_tradeAll_139 hW
  · have hF := (if_neg c11).symm.trans hF
    refine q_bipush (v := (-6 : Int32)) Cx dX6_tradeAll_46 (by decide) ?_
    refine q_istore_n (lv' := [(2, .int (-6 : Int32)), (0, .ref (vA V 12 0)), (1, .int l1)]) Cx dX6_tradeAll_48 rfl hl (by decide) rfl (fun ls hl => ?_)
    refine q_iconst (v := (0 : Int32)) Cx dX6_tradeAll_49 (by decide) ?_
    refine q_istore_n (lv' := [(3, .int (0 : Int32)), (2, .int (-6 : Int32)), (0, .ref (vA V 12 0)), (1, .int l1)]) Cx dX6_tradeAll_50 rfl hl (by decide) rfl (fun ls hl => ?_)
    exact wX6_tradeAll_51 Cx hret hk36 fu hW (lv_sub hl [2, 3, 1, 0] rfl) hF
def FX6_tradeAll_36 : Nat → Int32 → Blk → Option Blk
  | 0 => fun _ _ => none
  | n + 1 => FX6_tradeAll_36s (FX6_tradeAll_36 n)
set_option maxRecDepth 100000 in
theorem wX6_tradeAll_36 {E : WE} {V : VT} {A : Nat → Prop} {H0 : Heap} {M : Mem} (Cx : CX E RX6 cX6_tradeAll 5 3 71) {B' : Blk} (hret : RetV E V A H0 cX6_tradeAll (jb M 12 B')) : ∀ (n : Nat) {H : Heap} {locs : List Loc} {ls : Array Slot} {l1 : Int32} {B : Blk}, Wd V A H0 (jb M 12 B) (eS E) H locs → lv_has ls 5 [(0, .ref (vA V 12 0)), (1, .int l1)] → FX6_tradeAll_36 n l1 B = some B' → Wq E H locs 36 ls [] := by
  intro n
  induction n with
  | zero => intro _ _ _ _ _ hW hl hF; cases hF
  | succ n ih => intro _ _ _ _ _ hW hl hF; exact wX6_tradeAll_36s Cx hret ih hW hl hF
def FX6_tradeAll_7s (k7 : Int32 → Blk → Option Blk) (l1 : Int32) (B : Blk) : Option Blk :=
  ld (B 1) 356 (0 : Int32) fun v4 =>
  if v4 ≤ l1 then
    FX6_tradeAll_36 fu (0 : Int32) B
  else
    c1 (FX6_late B l1) fun r44 =>
    stb B 10 24 l1 r44 fun B46 =>
    lt1 (l1 + (1 : Int32)) fun x49 =>
    k7 x49 B46
set_option maxRecDepth 100000 in
set_option maxHeartbeats 4000000 in
theorem wX6_tradeAll_7s {E : WE} {V : VT} {A : Nat → Prop} {H0 : Heap} {M : Mem} (Cx : CX E RX6 cX6_tradeAll 5 3 71) {B' : Blk} (hret : RetV E V A H0 cX6_tradeAll (jb M 12 B')) {k7 : Int32 → Blk → Option Blk} (hk7 : ∀ {H : Heap} {locs : List Loc} {ls : Array Slot} {B : Blk} {l1 : Int32}, Wd V A H0 (jb M 12 B) (eS E) H locs → lv_has ls 5 [(0, .ref (vA V 12 0)), (1, .int l1)] → k7 l1 B = some B' → Wq E H locs 7 ls []) {H : Heap} {locs : List Loc} {ls : Array Slot} {l1 : Int32} {B : Blk} (hW : Wd V A H0 (jb M 12 B) (eS E) H locs) (hl : lv_has ls 5 [(0, .ref (vA V 12 0)), (1, .int l1)]) (hF : FX6_tradeAll_7s k7 l1 B = some B') : Wq E H locs 7 ls [] := by
  unfold FX6_tradeAll_7s at hF
  refine q_iload_n Cx dX6_tradeAll_7 rfl (lv_at hl 1 rfl) ?_
  refine q_aload_n Cx dX6_tradeAll_8 rfl (lv_at hl 0 rfl) ?_
  refine q_get (v := .ref (vA V 12 1)) Cx hW oZ ic6 0 (by decide) rfl wd_714 dX6_tradeAll_9 ?_
  refine q_iconst (v := (0 : Int32)) Cx dX6_tradeAll_12 (by decide) ?_
  obtain ⟨h5, v4, e6, hF⟩ := ld_some hF
  refine qb_iald Cx hW az_1 h5 e6 dX6_tradeAll_13 ?_
  refine q_icmp_ge (tgt := 34) Cx dX6_tradeAll_14 (by decide) (fun c7 => ?_) (fun c7 => ?_)
  · have hF := (if_pos c7).symm.trans hF
    refine q_iconst (v := (0 : Int32)) Cx dX6_tradeAll_34 (by decide) ?_
    refine q_istore_n (lv' := [(1, .int (0 : Int32)), (0, .ref (vA V 12 0))]) Cx dX6_tradeAll_35 rfl hl (by decide) rfl (fun ls hl => ?_)
    exact wX6_tradeAll_36 Cx hret fu hW (lv_sub hl [1, 0] rfl) hF
  · have hF := (if_neg c7).symm.trans hF
    refine q_aload_n Cx dX6_tradeAll_17 rfl (lv_at hl 0 rfl) ?_
    refine q_get (v := .ref (vA V 12 10)) Cx hW oZ ic6 14 (by decide) rfl wd_728 dX6_tradeAll_18 ?_
    refine q_iload_n Cx dX6_tradeAll_21 rfl (lv_at hl 1 rfl) ?_
    refine q_aload_n Cx dX6_tradeAll_22 rfl (lv_at hl 0 rfl) ?_
    refine q_iload_n Cx dX6_tradeAll_23 rfl (lv_at hl 1 rfl) ?_
    obtain ⟨r44, e45, hF⟩ := c1_some hF
    refine q_callI (as := [.int l1]) (rest := [.int l1, .ref (vA V 12 10)]) Cx (kX6_late e45) okX6_late ovX6_late wd_856 ⟨rfl, rfl, by decide, by decide⟩ hW oZ ic6 rfl hl.1 (Nat.le_of_ble_eq_true rfl) rfl dX6_tradeAll_24 (fun H locs hW => ?_)
    obtain ⟨h47, B46, e48, hF⟩ := stb_some hF
    refine qb_iast Cx hW az_10 h47 e48 dX6_tradeAll_27 (fun H locs hW => ?_)
    obtain ⟨x49, e50, hF⟩ := lt1_some hF
    refine q_iinc (k := 1) (v := x49) (lv' := [(1, .int x49), (0, .ref (vA V 12 0))]) Cx dX6_tradeAll_28 hl rfl e50.symm (by decide) rfl (fun ls hl => ?_)
    refine q_goto (tgt := 7) Cx dX6_tradeAll_31 (by decide) ?_
    exact hk7 hW (lv_sub hl [1, 0] rfl) hF
def FX6_tradeAll_7 : Nat → Int32 → Blk → Option Blk
  | 0 => fun _ _ => none
  | n + 1 => FX6_tradeAll_7s (FX6_tradeAll_7 n)
set_option maxRecDepth 100000 in
theorem wX6_tradeAll_7 {E : WE} {V : VT} {A : Nat → Prop} {H0 : Heap} {M : Mem} (Cx : CX E RX6 cX6_tradeAll 5 3 71) {B' : Blk} (hret : RetV E V A H0 cX6_tradeAll (jb M 12 B')) : ∀ (n : Nat) {H : Heap} {locs : List Loc} {ls : Array Slot} {l1 : Int32} {B : Blk}, Wd V A H0 (jb M 12 B) (eS E) H locs → lv_has ls 5 [(0, .ref (vA V 12 0)), (1, .int l1)] → FX6_tradeAll_7 n l1 B = some B' → Wq E H locs 7 ls [] := by
  intro n
  induction n with
  | zero => intro _ _ _ _ _ hW hl hF; cases hF
  | succ n ih => intro _ _ _ _ _ hW hl hF; exact wX6_tradeAll_7s Cx hret ih hW hl hF
def FX6_tradeAll (B : Blk) : Option Blk :=
  c2 (FX6_reckon B) fun r1 B3 =>
  FX6_tradeAll_7 fu (0 : Int32) B3
set_option maxRecDepth 100000 in
set_option maxHeartbeats 4000000 in
theorem wX6_tradeAll {E : WE} {V : VT} {A : Nat → Prop} {H0 : Heap} {M : Mem} (Cx : CX E RX6 cX6_tradeAll 5 3 71) {B' : Blk} (hret : RetV E V A H0 cX6_tradeAll (jb M 12 B')) {H : Heap} {locs : List Loc} {ls : Array Slot} {B : Blk} (hW : Wd V A H0 (jb M 12 B) (eS E) H locs) (hl : lv_has ls 5 [(0, .ref (vA V 12 0))]) (hF : FX6_tradeAll B = some B') : Wq E H locs 0 ls [] := by
  unfold FX6_tradeAll at hF
  refine q_aload_n Cx dX6_tradeAll_0 rfl (lv_at hl 0 rfl) ?_
  obtain ⟨r1, B3, e2, hF⟩ := c2_some hF
  refine q_callI (as := []) (rest := []) Cx (kX6_reckon e2) okX6_reckon ovX6_reckon wd_820 ⟨rfl, rfl, by decide, by decide⟩ hW oZ ic6 rfl hl.1 (Nat.le_of_ble_eq_true rfl) rfl dX6_tradeAll_1 (fun H locs hW => ?_)
  refine q_pop Cx dX6_tradeAll_4 rfl ?_
  refine q_iconst (v := (0 : Int32)) Cx dX6_tradeAll_5 (by decide) ?_
  refine q_istore_n (lv' := [(1, .int (0 : Int32)), (0, .ref (vA V 12 0))]) Cx dX6_tradeAll_6 rfl hl (by decide) rfl (fun ls hl => ?_)
  exact wX6_tradeAll_7 Cx hret fu hW (lv_sub hl [1, 0] rfl) hF
set_option maxRecDepth 100000 in
theorem kX6_tradeAll {l : Launch} {V : VT} {M : Mem} {B : Blk} {B' : Blk} (hF : FX6_tradeAll B = some B') : MetV l V yX6_tradeAll cX6_tradeAll 5 ({ frames := 3, cells := 0, slots := 0, locals := 71 } : Room) [.ref (vA V 12 0)] (jb M 12 B) (jb M 12 B') := metV_of (by decide) (Nat.le_of_ble_eq_true rfl) (fun E H0 _ Cx hret H locs ls hW hl => wX6_tradeAll Cx hret hW hl hF)
theorem dX6_trade_0 : decode cX6_trade 0 = .ok (.aload_n 0, 1) := by decide +kernel
theorem dX6_trade_1 : decode cX6_trade 1 = .ok (.invokevirtual 60, 3) := by decide +kernel
theorem dX6_trade_4 : decode cX6_trade 4 = .ok (.aload_n 0, 1) := by decide +kernel
theorem dX6_trade_5 : decode cX6_trade 5 = .ok (.getfield 7, 3) := by decide +kernel
theorem dX6_trade_8 : decode cX6_trade 8 = .ok (.iconst 3, 1) := by decide +kernel
theorem dX6_trade_9 : decode cX6_trade 9 = .ok (.iaload, 1) := by decide +kernel
theorem dX6_trade_10 : decode cX6_trade 10 = .ok (.istore_n 1, 1) := by decide +kernel
theorem dX6_trade_11 : decode cX6_trade 11 = .ok (.aload_n 0, 1) := by decide +kernel
theorem dX6_trade_12 : decode cX6_trade 12 = .ok (.invokevirtual 130, 3) := by decide +kernel
theorem dX6_trade_15 : decode cX6_trade 15 = .ok (.aload_n 0, 1) := by decide +kernel
theorem dX6_trade_16 : decode cX6_trade 16 = .ok (.getfield 7, 3) := by decide +kernel
theorem dX6_trade_19 : decode cX6_trade 19 = .ok (.iconst 3, 1) := by decide +kernel
theorem dX6_trade_20 : decode cX6_trade 20 = .ok (.iaload, 1) := by decide +kernel
theorem dX6_trade_21 : decode cX6_trade 21 = .ok (.iload_n 1, 1) := by decide +kernel
theorem dX6_trade_22 : decode cX6_trade 22 = .ok (.isub, 1) := by decide +kernel
theorem dX6_trade_23 : decode cX6_trade 23 = .ok (.ireturn, 1) := by decide +kernel
theorem okX6_trade : CalOK yX6_trade cX6_trade 2 (some .int) 0 := ⟨wd_73, wd_851, by decide +kernel⟩
theorem ovX6_trade : VirOK yX6_trade := ⟨wd_849, wd_850⟩
def FX6_trade (B : Blk) : Option (Int32 × Blk) :=
  c1 (FX6_record B) fun B3 =>
  ld (B3 1) 356 (3 : Int32) fun v4 =>
  c1 (FX6_tradeAll B3) fun B9 =>
  ld (B9 1) 356 (3 : Int32) fun v10 =>
  some ((v10 - v4), B9)
set_option maxRecDepth 100000 in
set_option maxHeartbeats 4000000 in
theorem wX6_trade {E : WE} {V : VT} {A : Nat → Prop} {H0 : Heap} {M : Mem} (Cx : CX E RX6 cX6_trade 2 4 95) {r : Int32} {B' : Blk} (hret : RetI E V A H0 cX6_trade .int r (jb M 12 B')) {H : Heap} {locs : List Loc} {ls : Array Slot} {B : Blk} (hW : Wd V A H0 (jb M 12 B) (eS E) H locs) (hl : lv_has ls 2 [(0, .ref (vA V 12 0))]) (hF : FX6_trade B = some (r, B')) : Wq E H locs 0 ls [] := by
  unfold FX6_trade at hF
  refine q_aload_n Cx dX6_trade_0 rfl (lv_at hl 0 rfl) ?_
  obtain ⟨B3, e2, hF⟩ := c1_some hF
  refine q_callV (as := []) (rest := []) Cx (kX6_record e2) okX6_record ovX6_record wd_787 ⟨rfl, rfl, by decide, by decide⟩ hW oZ ic6 rfl hl.1 (Nat.le_of_ble_eq_true rfl) rfl dX6_trade_1 (fun H locs hW => ?_)
  refine q_aload_n Cx dX6_trade_4 rfl (lv_at hl 0 rfl) ?_
  refine q_get (v := .ref (vA V 12 1)) Cx hW oZ ic6 0 (by decide) rfl wd_714 dX6_trade_5 ?_
  refine q_iconst (v := (3 : Int32)) Cx dX6_trade_8 (by decide) ?_
  obtain ⟨h5, v4, e6, hF⟩ := ld_some hF
  refine qb_iald Cx hW az_1 h5 e6 dX6_trade_9 ?_
  refine q_istore_n (lv' := [(1, .int v4), (0, .ref (vA V 12 0))]) Cx dX6_trade_10 rfl hl (by decide) rfl (fun ls hl => ?_)
  refine q_aload_n Cx dX6_trade_11 rfl (lv_at hl 1 rfl) ?_
  obtain ⟨B9, e8, hF⟩ := c1_some hF
  refine q_callV (as := []) (rest := []) Cx (kX6_tradeAll e8) okX6_tradeAll ovX6_tradeAll wd_852 ⟨rfl, rfl, by decide, by decide⟩ hW oZ ic6 rfl hl.1 (Nat.le_of_ble_eq_true rfl) rfl dX6_trade_12 (fun H locs hW => ?_)
  refine q_aload_n Cx dX6_trade_15 rfl (lv_at hl 1 rfl) ?_
  refine q_get (v := .ref (vA V 12 1)) Cx hW oZ ic6 0 (by decide) rfl wd_714 dX6_trade_16 ?_
  refine q_iconst (v := (3 : Int32)) Cx dX6_trade_19 (by decide) ?_
  obtain ⟨h11, v10, e12, hF⟩ := ld_some hF
  refine qb_iald Cx hW az_1 h11 e12 dX6_trade_20 ?_
  refine q_iload_n Cx dX6_trade_21 rfl (lv_at hl 0 rfl) ?_
  refine q_isub Cx dX6_trade_22 ?_
  obtain ⟨rfl, rfl⟩ := Prod.mk.inj (Option.some.inj hF)
  exact hret _ _ _ _ dX6_trade_23 (nI32 _) hW
set_option maxRecDepth 100000 in
theorem kX6_trade {l : Launch} {V : VT} {M : Mem} {B : Blk} {r : Int32} {B' : Blk} (hF : FX6_trade B = some (r, B')) : MetI l V yX6_trade cX6_trade 2 .int ({ frames := 4, cells := 0, slots := 0, locals := 95 } : Room) [.ref (vA V 12 0)] r (jb M 12 B) (jb M 12 B') := metI_of (by decide) (Nat.le_of_ble_eq_true rfl) (fun E H0 _ Cx hret H locs ls hW hl => wX6_trade Cx hret hW hl hF)
theorem dX6_isContract_0 : decode cX6_isContract 0 = .ok (.iload_n 1, 1) := by decide +kernel
theorem dX6_isContract_1 : decode cX6_isContract 1 = .ok (.ifCond .lt 17, 3) := by decide +kernel
theorem dX6_isContract_4 : decode cX6_isContract 4 = .ok (.iload_n 1, 1) := by decide +kernel
theorem dX6_isContract_5 : decode cX6_isContract 5 = .ok (.aload_n 0, 1) := by decide +kernel
theorem dX6_isContract_6 : decode cX6_isContract 6 = .ok (.getfield 7, 3) := by decide +kernel
theorem dX6_isContract_9 : decode cX6_isContract 9 = .ok (.iconst 3, 1) := by decide +kernel
theorem dX6_isContract_10 : decode cX6_isContract 10 = .ok (.iaload, 1) := by decide +kernel
theorem dX6_isContract_11 : decode cX6_isContract 11 = .ok (.if_icmp .ge 7, 3) := by decide +kernel
theorem dX6_isContract_14 : decode cX6_isContract 14 = .ok (.iconst 1, 1) := by decide +kernel
theorem dX6_isContract_15 : decode cX6_isContract 15 = .ok (.goto 4, 3) := by decide +kernel
theorem dX6_isContract_18 : decode cX6_isContract 18 = .ok (.iconst 0, 1) := by decide +kernel
theorem dX6_isContract_19 : decode cX6_isContract 19 = .ok (.ireturn, 1) := by decide +kernel
theorem okX6_isContract : CalOK yX6_isContract cX6_isContract 2 (some .boolean) 1 := ⟨wd_73, wd_894, by decide +kernel⟩
theorem ovX6_isContract : VirOK yX6_isContract := ⟨wd_893, wd_42⟩
def FX6_isContract (B : Blk) (l1 : Int32) : Option Int32 :=
  if l1 < 0 then
    some (0 : Int32)
  else
    ld (B 1) 356 (3 : Int32) fun v2 =>
    if v2 ≤ l1 then
      some (0 : Int32)
    else
      some (1 : Int32)
set_option maxRecDepth 100000 in
set_option maxHeartbeats 4000000 in
theorem wX6_isContract {E : WE} {V : VT} {A : Nat → Prop} {H0 : Heap} {M : Mem} (Cx : CX E RX6 cX6_isContract 2 0 0) {r : Int32} {B : Blk} (hret : RetI E V A H0 cX6_isContract .boolean r (jb M 12 B)) {H : Heap} {locs : List Loc} {ls : Array Slot} {l1 : Int32} (hW : Wd V A H0 (jb M 12 B) (eS E) H locs) (hl : lv_has ls 2 [(0, .ref (vA V 12 0)), (1, .int l1)]) (hF : FX6_isContract B l1 = some r) : Wq E H locs 0 ls [] := by
  unfold FX6_isContract at hF
  refine q_iload_n Cx dX6_isContract_0 rfl (lv_at hl 1 rfl) ?_
  refine q_if_lt (tgt := 18) Cx dX6_isContract_1 (by decide) (fun c1 => ?_) (fun c1 => ?_)
  · have hF := (if_pos c1).symm.trans hF
    refine q_iconst (v := (0 : Int32)) Cx dX6_isContract_18 (by decide) ?_
    obtain rfl := Option.some.inj hF
    exact hret _ _ _ _ dX6_isContract_19 (by rfl) hW
  · have hF := (if_neg c1).symm.trans hF
    refine q_iload_n Cx dX6_isContract_4 rfl (lv_at hl 1 rfl) ?_
    refine q_aload_n Cx dX6_isContract_5 rfl (lv_at hl 0 rfl) ?_
    refine q_get (v := .ref (vA V 12 1)) Cx hW oZ ic6 0 (by decide) rfl wd_714 dX6_isContract_6 ?_
    refine q_iconst (v := (3 : Int32)) Cx dX6_isContract_9 (by decide) ?_
    obtain ⟨h3, v2, e4, hF⟩ := ld_some hF
    refine qb_iald Cx hW az_1 h3 e4 dX6_isContract_10 ?_
    refine q_icmp_ge (tgt := 18) Cx dX6_isContract_11 (by decide) (fun c5 => ?_) (fun c5 => ?_)
    · have hF := (if_pos c5).symm.trans hF
      refine q_iconst (v := (0 : Int32)) Cx dX6_isContract_18 (by decide) ?_
      obtain rfl := Option.some.inj hF
      exact hret _ _ _ _ dX6_isContract_19 (by rfl) hW
    · have hF := (if_neg c5).symm.trans hF
      refine q_iconst (v := (1 : Int32)) Cx dX6_isContract_14 (by decide) ?_
      refine q_goto (tgt := 19) Cx dX6_isContract_15 (by decide) ?_
      obtain rfl := Option.some.inj hF
      exact hret _ _ _ _ dX6_isContract_19 (by rfl) hW
set_option maxRecDepth 100000 in
theorem kX6_isContract {l : Launch} {V : VT} {M : Mem} {B : Blk} {l1 : Int32} {r : Int32} (hF : FX6_isContract B l1 = some r) : MetI l V yX6_isContract cX6_isContract 2 .boolean ({ frames := 0, cells := 0, slots := 0, locals := 0 } : Room) [.ref (vA V 12 0), .int l1] r (jb M 12 B) (jb M 12 B) := metI_of (by decide) (Nat.le_of_ble_eq_true rfl) (fun E H0 _ Cx hret H locs ls hW hl => wX6_isContract Cx hret hW hl hF)
theorem dX6_dropContract_0 : decode cX6_dropContract 0 = .ok (.aload_n 0, 1) := by decide +kernel
theorem dX6_dropContract_1 : decode cX6_dropContract 1 = .ok (.getfield 7, 3) := by decide +kernel
theorem dX6_dropContract_4 : decode cX6_dropContract 4 = .ok (.iconst 3, 1) := by decide +kernel
theorem dX6_dropContract_5 : decode cX6_dropContract 5 = .ok (.dup2, 1) := by decide +kernel
theorem dX6_dropContract_6 : decode cX6_dropContract 6 = .ok (.iaload, 1) := by decide +kernel
theorem dX6_dropContract_7 : decode cX6_dropContract 7 = .ok (.iconst 1, 1) := by decide +kernel
theorem dX6_dropContract_8 : decode cX6_dropContract 8 = .ok (.isub, 1) := by decide +kernel
theorem dX6_dropContract_9 : decode cX6_dropContract 9 = .ok (.iastore, 1) := by decide +kernel
theorem dX6_dropContract_10 : decode cX6_dropContract 10 = .ok (.iload_n 1, 1) := by decide +kernel
theorem dX6_dropContract_11 : decode cX6_dropContract 11 = .ok (.istore_n 2, 1) := by decide +kernel
theorem dX6_dropContract_12 : decode cX6_dropContract 12 = .ok (.iload_n 2, 1) := by decide +kernel
theorem dX6_dropContract_13 : decode cX6_dropContract 13 = .ok (.aload_n 0, 1) := by decide +kernel
theorem dX6_dropContract_14 : decode cX6_dropContract 14 = .ok (.getfield 7, 3) := by decide +kernel
theorem dX6_dropContract_17 : decode cX6_dropContract 17 = .ok (.iconst 3, 1) := by decide +kernel
theorem dX6_dropContract_18 : decode cX6_dropContract 18 = .ok (.iaload, 1) := by decide +kernel
theorem dX6_dropContract_19 : decode cX6_dropContract 19 = .ok (.if_icmp .ge 97, 3) := by decide +kernel
theorem dX6_dropContract_22 : decode cX6_dropContract 22 = .ok (.aload_n 0, 1) := by decide +kernel
theorem dX6_dropContract_23 : decode cX6_dropContract 23 = .ok (.getfield 7, 3) := by decide +kernel
theorem dX6_dropContract_26 : decode cX6_dropContract 26 = .ok (.sipush 196, 3) := by decide +kernel
theorem dX6_dropContract_29 : decode cX6_dropContract 29 = .ok (.iload_n 2, 1) := by decide +kernel
theorem dX6_dropContract_30 : decode cX6_dropContract 30 = .ok (.iadd, 1) := by decide +kernel
theorem dX6_dropContract_31 : decode cX6_dropContract 31 = .ok (.aload_n 0, 1) := by decide +kernel
theorem dX6_dropContract_32 : decode cX6_dropContract 32 = .ok (.getfield 7, 3) := by decide +kernel
theorem dX6_dropContract_35 : decode cX6_dropContract 35 = .ok (.sipush 196, 3) := by decide +kernel
theorem dX6_dropContract_38 : decode cX6_dropContract 38 = .ok (.iload_n 2, 1) := by decide +kernel
theorem dX6_dropContract_39 : decode cX6_dropContract 39 = .ok (.iadd, 1) := by decide +kernel
theorem dX6_dropContract_40 : decode cX6_dropContract 40 = .ok (.iconst 1, 1) := by decide +kernel
theorem dX6_dropContract_41 : decode cX6_dropContract 41 = .ok (.iadd, 1) := by decide +kernel
theorem dX6_dropContract_42 : decode cX6_dropContract 42 = .ok (.iaload, 1) := by decide +kernel
theorem dX6_dropContract_43 : decode cX6_dropContract 43 = .ok (.iastore, 1) := by decide +kernel
theorem dX6_dropContract_44 : decode cX6_dropContract 44 = .ok (.aload_n 0, 1) := by decide +kernel
theorem dX6_dropContract_45 : decode cX6_dropContract 45 = .ok (.getfield 7, 3) := by decide +kernel
theorem dX6_dropContract_48 : decode cX6_dropContract 48 = .ok (.sipush 236, 3) := by decide +kernel
theorem dX6_dropContract_51 : decode cX6_dropContract 51 = .ok (.iload_n 2, 1) := by decide +kernel
theorem dX6_dropContract_52 : decode cX6_dropContract 52 = .ok (.iadd, 1) := by decide +kernel
theorem dX6_dropContract_53 : decode cX6_dropContract 53 = .ok (.aload_n 0, 1) := by decide +kernel
theorem dX6_dropContract_54 : decode cX6_dropContract 54 = .ok (.getfield 7, 3) := by decide +kernel
theorem dX6_dropContract_57 : decode cX6_dropContract 57 = .ok (.sipush 236, 3) := by decide +kernel
theorem dX6_dropContract_60 : decode cX6_dropContract 60 = .ok (.iload_n 2, 1) := by decide +kernel
theorem dX6_dropContract_61 : decode cX6_dropContract 61 = .ok (.iadd, 1) := by decide +kernel
theorem dX6_dropContract_62 : decode cX6_dropContract 62 = .ok (.iconst 1, 1) := by decide +kernel
theorem dX6_dropContract_63 : decode cX6_dropContract 63 = .ok (.iadd, 1) := by decide +kernel
theorem dX6_dropContract_64 : decode cX6_dropContract 64 = .ok (.iaload, 1) := by decide +kernel
theorem dX6_dropContract_65 : decode cX6_dropContract 65 = .ok (.iastore, 1) := by decide +kernel
theorem dX6_dropContract_66 : decode cX6_dropContract 66 = .ok (.aload_n 0, 1) := by decide +kernel
theorem dX6_dropContract_67 : decode cX6_dropContract 67 = .ok (.getfield 7, 3) := by decide +kernel
theorem dX6_dropContract_70 : decode cX6_dropContract 70 = .ok (.sipush 276, 3) := by decide +kernel
theorem dX6_dropContract_73 : decode cX6_dropContract 73 = .ok (.iload_n 2, 1) := by decide +kernel
theorem dX6_dropContract_74 : decode cX6_dropContract 74 = .ok (.iadd, 1) := by decide +kernel
theorem dX6_dropContract_75 : decode cX6_dropContract 75 = .ok (.aload_n 0, 1) := by decide +kernel
theorem dX6_dropContract_76 : decode cX6_dropContract 76 = .ok (.getfield 7, 3) := by decide +kernel
theorem dX6_dropContract_79 : decode cX6_dropContract 79 = .ok (.sipush 276, 3) := by decide +kernel
theorem dX6_dropContract_82 : decode cX6_dropContract 82 = .ok (.iload_n 2, 1) := by decide +kernel
theorem dX6_dropContract_83 : decode cX6_dropContract 83 = .ok (.iadd, 1) := by decide +kernel
theorem dX6_dropContract_84 : decode cX6_dropContract 84 = .ok (.iconst 1, 1) := by decide +kernel
theorem dX6_dropContract_85 : decode cX6_dropContract 85 = .ok (.iadd, 1) := by decide +kernel
theorem dX6_dropContract_86 : decode cX6_dropContract 86 = .ok (.iaload, 1) := by decide +kernel
theorem dX6_dropContract_87 : decode cX6_dropContract 87 = .ok (.iastore, 1) := by decide +kernel
theorem dX6_dropContract_88 : decode cX6_dropContract 88 = .ok (.aload_n 0, 1) := by decide +kernel
theorem dX6_dropContract_89 : decode cX6_dropContract 89 = .ok (.getfield 7, 3) := by decide +kernel
theorem dX6_dropContract_92 : decode cX6_dropContract 92 = .ok (.sipush 316, 3) := by decide +kernel
theorem dX6_dropContract_95 : decode cX6_dropContract 95 = .ok (.iload_n 2, 1) := by decide +kernel
theorem dX6_dropContract_96 : decode cX6_dropContract 96 = .ok (.iadd, 1) := by decide +kernel
theorem dX6_dropContract_97 : decode cX6_dropContract 97 = .ok (.aload_n 0, 1) := by decide +kernel
theorem dX6_dropContract_98 : decode cX6_dropContract 98 = .ok (.getfield 7, 3) := by decide +kernel
theorem dX6_dropContract_101 : decode cX6_dropContract 101 = .ok (.sipush 316, 3) := by decide +kernel
theorem dX6_dropContract_104 : decode cX6_dropContract 104 = .ok (.iload_n 2, 1) := by decide +kernel
theorem dX6_dropContract_105 : decode cX6_dropContract 105 = .ok (.iadd, 1) := by decide +kernel
theorem dX6_dropContract_106 : decode cX6_dropContract 106 = .ok (.iconst 1, 1) := by decide +kernel
theorem dX6_dropContract_107 : decode cX6_dropContract 107 = .ok (.iadd, 1) := by decide +kernel
theorem dX6_dropContract_108 : decode cX6_dropContract 108 = .ok (.iaload, 1) := by decide +kernel
theorem dX6_dropContract_109 : decode cX6_dropContract 109 = .ok (.iastore, 1) := by decide +kernel
theorem dX6_dropContract_110 : decode cX6_dropContract 110 = .ok (.iinc 2 1, 3) := by decide +kernel
theorem dX6_dropContract_113 : decode cX6_dropContract 113 = .ok (.goto (-101), 3) := by decide +kernel
theorem dX6_dropContract_116 : decode cX6_dropContract 116 = .ok (.return_, 1) := by decide +kernel
theorem okX6_dropContract : CalOK yX6_dropContract cX6_dropContract 3 (none) 1 := ⟨wd_73, wd_898, by decide +kernel⟩
theorem ovX6_dropContract : VirOK yX6_dropContract := ⟨wd_897, wd_43⟩
def FX6_dropContract_12s (k12 : Int32 → Blk → Option Blk) (l2 : Int32) (B : Blk) : Option Blk :=
  ld (B 1) 356 (3 : Int32) fun v7 =>
  if v7 ≤ l2 then
    some B
  else
    ld (B 1) 356 (((196 : Int32) + l2) + (1 : Int32)) fun v11 =>
    stb B 1 356 ((196 : Int32) + l2) v11 fun B14 =>
    ld (B14 1) 356 (((236 : Int32) + l2) + (1 : Int32)) fun v17 =>
    stb B14 1 356 ((236 : Int32) + l2) v17 fun B20 =>
    ld (B20 1) 356 (((276 : Int32) + l2) + (1 : Int32)) fun v23 =>
    stb B20 1 356 ((276 : Int32) + l2) v23 fun B26 =>
    ld (B26 1) 356 (((316 : Int32) + l2) + (1 : Int32)) fun v29 =>
    stb B26 1 356 ((316 : Int32) + l2) v29 fun B32 =>
    lt1 (l2 + (1 : Int32)) fun x35 =>
    k12 x35 B32
set_option maxRecDepth 100000 in
set_option maxHeartbeats 4000000 in
theorem wX6_dropContract_12s {E : WE} {V : VT} {A : Nat → Prop} {H0 : Heap} {M : Mem} (Cx : CX E RX6 cX6_dropContract 3 0 0) {B' : Blk} (hret : RetV E V A H0 cX6_dropContract (jb M 12 B')) {k12 : Int32 → Blk → Option Blk} (hk12 : ∀ {H : Heap} {locs : List Loc} {ls : Array Slot} {B : Blk} {l2 : Int32}, Wd V A H0 (jb M 12 B) (eS E) H locs → lv_has ls 3 [(0, .ref (vA V 12 0)), (2, .int l2)] → k12 l2 B = some B' → Wq E H locs 12 ls []) {H : Heap} {locs : List Loc} {ls : Array Slot} {l2 : Int32} {B : Blk} (hW : Wd V A H0 (jb M 12 B) (eS E) H locs) (hl : lv_has ls 3 [(0, .ref (vA V 12 0)), (2, .int l2)]) (hF : FX6_dropContract_12s k12 l2 B = some B') : Wq E H locs 12 ls [] := by
  unfold FX6_dropContract_12s at hF
  refine q_iload_n Cx dX6_dropContract_12 rfl (lv_at hl 1 rfl) ?_
  refine q_aload_n Cx dX6_dropContract_13 rfl (lv_at hl 0 rfl) ?_
  refine q_get (v := .ref (vA V 12 1)) Cx hW oZ ic6 0 (by decide) rfl wd_714 dX6_dropContract_14 ?_
  refine q_iconst (v := (3 : Int32)) Cx dX6_dropContract_17 (by decide) ?_
  obtain ⟨h8, v7, e9, hF⟩ := ld_some hF
  refine qb_iald Cx hW az_1 h8 e9 dX6_dropContract_18 ?_
  refine q_icmp_ge (tgt := 116) Cx dX6_dropContract_19 (by decide) (fun c10 => ?_) (fun c10 => ?_)
  · have hF := (if_pos c10).symm.trans hF
    obtain rfl := Option.some.inj hF
    exact hret _ _ _ _ dX6_dropContract_116 hW
  · have hF := (if_neg c10).symm.trans hF
    refine q_aload_n Cx dX6_dropContract_22 rfl (lv_at hl 0 rfl) ?_
    refine q_get (v := .ref (vA V 12 1)) Cx hW oZ ic6 0 (by decide) rfl wd_714 dX6_dropContract_23 ?_
    refine q_sipush (v := (196 : Int32)) Cx dX6_dropContract_26 (by decide) ?_
    refine q_iload_n Cx dX6_dropContract_29 rfl (lv_at hl 1 rfl) ?_
    refine q_iadd Cx dX6_dropContract_30 ?_
    refine q_aload_n Cx dX6_dropContract_31 rfl (lv_at hl 0 rfl) ?_
    refine q_get (v := .ref (vA V 12 1)) Cx hW oZ ic6 0 (by decide) rfl wd_714 dX6_dropContract_32 ?_
    refine q_sipush (v := (196 : Int32)) Cx dX6_dropContract_35 (by decide) ?_
    refine q_iload_n Cx dX6_dropContract_38 rfl (lv_at hl 1 rfl) ?_
    refine q_iadd Cx dX6_dropContract_39 ?_
    refine q_iconst (v := (1 : Int32)) Cx dX6_dropContract_40 (by decide) ?_
    refine q_iadd Cx dX6_dropContract_41 ?_
    obtain ⟨h12, v11, e13, hF⟩ := ld_some hF
    refine qb_iald Cx hW az_1 h12 e13 dX6_dropContract_42 ?_
    obtain ⟨h15, B14, e16, hF⟩ := stb_some hF
    refine qb_iast Cx hW az_1 h15 e16 dX6_dropContract_43 (fun H locs hW => ?_)
    refine q_aload_n Cx dX6_dropContract_44 rfl (lv_at hl 0 rfl) ?_
    refine q_get (v := .ref (vA V 12 1)) Cx hW oZ ic6 0 (by decide) rfl wd_714 dX6_dropContract_45 ?_
    refine q_sipush (v := (236 : Int32)) Cx dX6_dropContract_48 (by decide) ?_
    refine q_iload_n Cx dX6_dropContract_51 rfl (lv_at hl 1 rfl) ?_
    refine q_iadd Cx dX6_dropContract_52 ?_
    refine q_aload_n Cx dX6_dropContract_53 rfl (lv_at hl 0 rfl) ?_
    refine q_get (v := .ref (vA V 12 1)) Cx hW oZ ic6 0 (by decide) rfl wd_714 dX6_dropContract_54 ?_
    refine q_sipush (v := (236 : Int32)) Cx dX6_dropContract_57 (by decide) ?_
    refine q_iload_n Cx dX6_dropContract_60 rfl (lv_at hl 1 rfl) ?_
    refine q_iadd Cx dX6_dropContract_61 ?_
    refine q_iconst (v := (1 : Int32)) Cx dX6_dropContract_62 (by decide) ?_
    refine q_iadd Cx dX6_dropContract_63 ?_
    obtain ⟨h18, v17, e19, hF⟩ := ld_some hF
    refine qb_iald Cx hW az_1 h18 e19 dX6_dropContract_64 ?_
    obtain ⟨h21, B20, e22, hF⟩ := stb_some hF
    refine qb_iast Cx hW az_1 h21 e22 dX6_dropContract_65 (fun H locs hW => ?_)
    refine q_aload_n Cx dX6_dropContract_66 rfl (lv_at hl 0 rfl) ?_
    refine q_get (v := .ref (vA V 12 1)) Cx hW oZ ic6 0 (by decide) rfl wd_714 dX6_dropContract_67 ?_
    refine q_sipush (v := (276 : Int32)) Cx dX6_dropContract_70 (by decide) ?_
    refine q_iload_n Cx dX6_dropContract_73 rfl (lv_at hl 1 rfl) ?_
    refine q_iadd Cx dX6_dropContract_74 ?_
    refine q_aload_n Cx dX6_dropContract_75 rfl (lv_at hl 0 rfl) ?_
    refine q_get (v := .ref (vA V 12 1)) Cx hW oZ ic6 0 (by decide) rfl wd_714 dX6_dropContract_76 ?_
    refine q_sipush (v := (276 : Int32)) Cx dX6_dropContract_79 (by decide) ?_
    refine q_iload_n Cx dX6_dropContract_82 rfl (lv_at hl 1 rfl) ?_
    refine q_iadd Cx dX6_dropContract_83 ?_
    refine q_iconst (v := (1 : Int32)) Cx dX6_dropContract_84 (by decide) ?_
    refine q_iadd Cx dX6_dropContract_85 ?_
    obtain ⟨h24, v23, e25, hF⟩ := ld_some hF
    refine qb_iald Cx hW az_1 h24 e25 dX6_dropContract_86 ?_
    obtain ⟨h27, B26, e28, hF⟩ := stb_some hF
    refine qb_iast Cx hW az_1 h27 e28 dX6_dropContract_87 (fun H locs hW => ?_)
    refine q_aload_n Cx dX6_dropContract_88 rfl (lv_at hl 0 rfl) ?_
    refine q_get (v := .ref (vA V 12 1)) Cx hW oZ ic6 0 (by decide) rfl wd_714 dX6_dropContract_89 ?_
    refine q_sipush (v := (316 : Int32)) Cx dX6_dropContract_92 (by decide) ?_
    refine q_iload_n Cx dX6_dropContract_95 rfl (lv_at hl 1 rfl) ?_
    refine q_iadd Cx dX6_dropContract_96 ?_
    refine q_aload_n Cx dX6_dropContract_97 rfl (lv_at hl 0 rfl) ?_
    refine q_get (v := .ref (vA V 12 1)) Cx hW oZ ic6 0 (by decide) rfl wd_714 dX6_dropContract_98 ?_
    refine q_sipush (v := (316 : Int32)) Cx dX6_dropContract_101 (by decide) ?_
    refine q_iload_n Cx dX6_dropContract_104 rfl (lv_at hl 1 rfl) ?_
    refine q_iadd Cx dX6_dropContract_105 ?_
    refine q_iconst (v := (1 : Int32)) Cx dX6_dropContract_106 (by decide) ?_
    refine q_iadd Cx dX6_dropContract_107 ?_
    obtain ⟨h30, v29, e31, hF⟩ := ld_some hF
    refine qb_iald Cx hW az_1 h30 e31 dX6_dropContract_108 ?_
    obtain ⟨h33, B32, e34, hF⟩ := stb_some hF
    refine qb_iast Cx hW az_1 h33 e34 dX6_dropContract_109 (fun H locs hW => ?_)
    obtain ⟨x35, e36, hF⟩ := lt1_some hF
    refine q_iinc (k := 1) (v := x35) (lv' := [(2, .int x35), (0, .ref (vA V 12 0))]) Cx dX6_dropContract_110 hl rfl e36.symm (by decide) rfl (fun ls hl => ?_)
    refine q_goto (tgt := 12) Cx dX6_dropContract_113 (by decide) ?_
    exact hk12 hW (lv_sub hl [1, 0] rfl) hF
def FX6_dropContract_12 : Nat → Int32 → Blk → Option Blk
  | 0 => fun _ _ => none
  | n + 1 => FX6_dropContract_12s (FX6_dropContract_12 n)
set_option maxRecDepth 100000 in
theorem wX6_dropContract_12 {E : WE} {V : VT} {A : Nat → Prop} {H0 : Heap} {M : Mem} (Cx : CX E RX6 cX6_dropContract 3 0 0) {B' : Blk} (hret : RetV E V A H0 cX6_dropContract (jb M 12 B')) : ∀ (n : Nat) {H : Heap} {locs : List Loc} {ls : Array Slot} {l2 : Int32} {B : Blk}, Wd V A H0 (jb M 12 B) (eS E) H locs → lv_has ls 3 [(0, .ref (vA V 12 0)), (2, .int l2)] → FX6_dropContract_12 n l2 B = some B' → Wq E H locs 12 ls [] := by
  intro n
  induction n with
  | zero => intro _ _ _ _ _ hW hl hF; cases hF
  | succ n ih => intro _ _ _ _ _ hW hl hF; exact wX6_dropContract_12s Cx hret ih hW hl hF
def FX6_dropContract (B : Blk) (l1 : Int32) : Option Blk :=
  ld (B 1) 356 (3 : Int32) fun v1 =>
  stb B 1 356 (3 : Int32) (v1 - (1 : Int32)) fun B4 =>
  FX6_dropContract_12 fu l1 B4
set_option maxRecDepth 100000 in
set_option maxHeartbeats 4000000 in
theorem wX6_dropContract {E : WE} {V : VT} {A : Nat → Prop} {H0 : Heap} {M : Mem} (Cx : CX E RX6 cX6_dropContract 3 0 0) {B' : Blk} (hret : RetV E V A H0 cX6_dropContract (jb M 12 B')) {H : Heap} {locs : List Loc} {ls : Array Slot} {l1 : Int32} {B : Blk} (hW : Wd V A H0 (jb M 12 B) (eS E) H locs) (hl : lv_has ls 3 [(0, .ref (vA V 12 0)), (1, .int l1)]) (hF : FX6_dropContract B l1 = some B') : Wq E H locs 0 ls [] := by
  unfold FX6_dropContract at hF
  refine q_aload_n Cx dX6_dropContract_0 rfl (lv_at hl 0 rfl) ?_
  refine q_get (v := .ref (vA V 12 1)) Cx hW oZ ic6 0 (by decide) rfl wd_714 dX6_dropContract_1 ?_
  refine q_iconst (v := (3 : Int32)) Cx dX6_dropContract_4 (by decide) ?_
  refine q_dup2 Cx dX6_dropContract_5 rfl rfl ?_
  obtain ⟨h2, v1, e3, hF⟩ := ld_some hF
  refine qb_iald Cx hW az_1 h2 e3 dX6_dropContract_6 ?_
  refine q_iconst (v := (1 : Int32)) Cx dX6_dropContract_7 (by decide) ?_
  refine q_isub Cx dX6_dropContract_8 ?_
  obtain ⟨h5, B4, e6, hF⟩ := stb_some hF
  refine qb_iast Cx hW az_1 h5 e6 dX6_dropContract_9 (fun H locs hW => ?_)
  refine q_iload_n Cx dX6_dropContract_10 rfl (lv_at hl 1 rfl) ?_
  refine q_istore_n (lv' := [(2, .int l1), (0, .ref (vA V 12 0)), (1, .int l1)]) Cx dX6_dropContract_11 rfl hl (by decide) rfl (fun ls hl => ?_)
  exact wX6_dropContract_12 Cx hret fu hW (lv_sub hl [1, 0] rfl) hF
set_option maxRecDepth 100000 in
theorem kX6_dropContract {l : Launch} {V : VT} {M : Mem} {B : Blk} {l1 : Int32} {B' : Blk} (hF : FX6_dropContract B l1 = some B') : MetV l V yX6_dropContract cX6_dropContract 3 ({ frames := 0, cells := 0, slots := 0, locals := 0 } : Room) [.ref (vA V 12 0), .int l1] (jb M 12 B) (jb M 12 B') := metV_of (by decide) (Nat.le_of_ble_eq_true rfl) (fun E H0 _ Cx hret H locs ls hW hl => wX6_dropContract Cx hret hW hl hF)
theorem dX6_refund_0 : decode cX6_refund 0 = .ok (.aload_n 0, 1) := by decide +kernel
theorem dX6_refund_1 : decode cX6_refund 1 = .ok (.iload_n 1, 1) := by decide +kernel
theorem dX6_refund_2 : decode cX6_refund 2 = .ok (.invokevirtual 133, 3) := by decide +kernel
theorem dX6_refund_5 : decode cX6_refund 5 = .ok (.ifCond .ne 5, 3) := by decide +kernel
theorem dX6_refund_8 : decode cX6_refund 8 = .ok (.iconst (-1), 1) := by decide +kernel
theorem dX6_refund_9 : decode cX6_refund 9 = .ok (.ireturn, 1) := by decide +kernel
theorem dX6_refund_10 : decode cX6_refund 10 = .ok (.iload_n 2, 1) := by decide +kernel
theorem dX6_refund_11 : decode cX6_refund 11 = .ok (.iconst 1, 1) := by decide +kernel
theorem dX6_refund_12 : decode cX6_refund 12 = .ok (.sipush 500, 3) := by decide +kernel
theorem dX6_refund_15 : decode cX6_refund 15 = .ok (.invokestatic 56, 3) := by decide +kernel
theorem dX6_refund_18 : decode cX6_refund 18 = .ok (.ifCond .eq 17, 3) := by decide +kernel
theorem dX6_refund_21 : decode cX6_refund 21 = .ok (.iload_n 2, 1) := by decide +kernel
theorem dX6_refund_22 : decode cX6_refund 22 = .ok (.aload_n 0, 1) := by decide +kernel
theorem dX6_refund_23 : decode cX6_refund 23 = .ok (.getfield 7, 3) := by decide +kernel
theorem dX6_refund_26 : decode cX6_refund 26 = .ok (.sipush 276, 3) := by decide +kernel
theorem dX6_refund_29 : decode cX6_refund 29 = .ok (.iload_n 1, 1) := by decide +kernel
theorem dX6_refund_30 : decode cX6_refund 30 = .ok (.iadd, 1) := by decide +kernel
theorem dX6_refund_31 : decode cX6_refund 31 = .ok (.iaload, 1) := by decide +kernel
theorem dX6_refund_32 : decode cX6_refund 32 = .ok (.if_icmp .le 6, 3) := by decide +kernel
theorem dX6_refund_35 : decode cX6_refund 35 = .ok (.bipush (-2), 2) := by decide +kernel
theorem dX6_refund_37 : decode cX6_refund 37 = .ok (.ireturn, 1) := by decide +kernel
theorem dX6_refund_38 : decode cX6_refund 38 = .ok (.aload_n 0, 1) := by decide +kernel
theorem dX6_refund_39 : decode cX6_refund 39 = .ok (.getfield 7, 3) := by decide +kernel
theorem dX6_refund_42 : decode cX6_refund 42 = .ok (.sipush 196, 3) := by decide +kernel
theorem dX6_refund_45 : decode cX6_refund 45 = .ok (.iload_n 1, 1) := by decide +kernel
theorem dX6_refund_46 : decode cX6_refund 46 = .ok (.iadd, 1) := by decide +kernel
theorem dX6_refund_47 : decode cX6_refund 47 = .ok (.iaload, 1) := by decide +kernel
theorem dX6_refund_48 : decode cX6_refund 48 = .ok (.istore_n 3, 1) := by decide +kernel
theorem dX6_refund_49 : decode cX6_refund 49 = .ok (.aload_n 0, 1) := by decide +kernel
theorem dX6_refund_50 : decode cX6_refund 50 = .ok (.getfield 7, 3) := by decide +kernel
theorem dX6_refund_53 : decode cX6_refund 53 = .ok (.sipush 236, 3) := by decide +kernel
theorem dX6_refund_56 : decode cX6_refund 56 = .ok (.iload_n 1, 1) := by decide +kernel
theorem dX6_refund_57 : decode cX6_refund 57 = .ok (.iadd, 1) := by decide +kernel
theorem dX6_refund_58 : decode cX6_refund 58 = .ok (.iaload, 1) := by decide +kernel
theorem dX6_refund_59 : decode cX6_refund 59 = .ok (.istore 4, 2) := by decide +kernel
theorem dX6_refund_61 : decode cX6_refund 61 = .ok (.iload_n 2, 1) := by decide +kernel
theorem dX6_refund_62 : decode cX6_refund 62 = .ok (.aload_n 0, 1) := by decide +kernel
theorem dX6_refund_63 : decode cX6_refund 63 = .ok (.getfield 7, 3) := by decide +kernel
theorem dX6_refund_66 : decode cX6_refund 66 = .ok (.sipush 316, 3) := by decide +kernel
theorem dX6_refund_69 : decode cX6_refund 69 = .ok (.iload_n 1, 1) := by decide +kernel
theorem dX6_refund_70 : decode cX6_refund 70 = .ok (.iadd, 1) := by decide +kernel
theorem dX6_refund_71 : decode cX6_refund 71 = .ok (.iaload, 1) := by decide +kernel
theorem dX6_refund_72 : decode cX6_refund 72 = .ok (.imul, 1) := by decide +kernel
theorem dX6_refund_73 : decode cX6_refund 73 = .ok (.aload_n 0, 1) := by decide +kernel
theorem dX6_refund_74 : decode cX6_refund 74 = .ok (.getfield 7, 3) := by decide +kernel
theorem dX6_refund_77 : decode cX6_refund 77 = .ok (.iconst 1, 1) := by decide +kernel
theorem dX6_refund_78 : decode cX6_refund 78 = .ok (.iaload, 1) := by decide +kernel
theorem dX6_refund_79 : decode cX6_refund 79 = .ok (.imul, 1) := by decide +kernel
theorem dX6_refund_80 : decode cX6_refund 80 = .ok (.bipush 100, 2) := by decide +kernel
theorem dX6_refund_82 : decode cX6_refund 82 = .ok (.idiv, 1) := by decide +kernel
theorem dX6_refund_83 : decode cX6_refund 83 = .ok (.istore 5, 2) := by decide +kernel
theorem dX6_refund_85 : decode cX6_refund 85 = .ok (.aload_n 0, 1) := by decide +kernel
theorem dX6_refund_86 : decode cX6_refund 86 = .ok (.invokevirtual 77, 3) := by decide +kernel
theorem dX6_refund_89 : decode cX6_refund 89 = .ok (.pop, 1) := by decide +kernel
theorem dX6_refund_90 : decode cX6_refund 90 = .ok (.aload_n 0, 1) := by decide +kernel
theorem dX6_refund_91 : decode cX6_refund 91 = .ok (.getfield 33, 3) := by decide +kernel
theorem dX6_refund_94 : decode cX6_refund 94 = .ok (.iload 4, 2) := by decide +kernel
theorem dX6_refund_96 : decode cX6_refund 96 = .ok (.iaload, 1) := by decide +kernel
theorem dX6_refund_97 : decode cX6_refund 97 = .ok (.aload_n 0, 1) := by decide +kernel
theorem dX6_refund_98 : decode cX6_refund 98 = .ok (.getfield 7, 3) := by decide +kernel
theorem dX6_refund_101 : decode cX6_refund 101 = .ok (.bipush 52, 2) := by decide +kernel
theorem dX6_refund_103 : decode cX6_refund 103 = .ok (.iload 4, 2) := by decide +kernel
theorem dX6_refund_105 : decode cX6_refund 105 = .ok (.iadd, 1) := by decide +kernel
theorem dX6_refund_106 : decode cX6_refund 106 = .ok (.iaload, 1) := by decide +kernel
theorem dX6_refund_107 : decode cX6_refund 107 = .ok (.iload_n 2, 1) := by decide +kernel
theorem dX6_refund_108 : decode cX6_refund 108 = .ok (.isub, 1) := by decide +kernel
theorem dX6_refund_109 : decode cX6_refund 109 = .ok (.if_icmp .gt 17, 3) := by decide +kernel
theorem dX6_refund_112 : decode cX6_refund 112 = .ok (.aload_n 0, 1) := by decide +kernel
theorem dX6_refund_113 : decode cX6_refund 113 = .ok (.getfield 7, 3) := by decide +kernel
theorem dX6_refund_116 : decode cX6_refund 116 = .ok (.bipush 76, 2) := by decide +kernel
theorem dX6_refund_118 : decode cX6_refund 118 = .ok (.iload_n 3, 1) := by decide +kernel
theorem dX6_refund_119 : decode cX6_refund 119 = .ok (.iadd, 1) := by decide +kernel
theorem dX6_refund_120 : decode cX6_refund 120 = .ok (.iaload, 1) := by decide +kernel
theorem dX6_refund_121 : decode cX6_refund 121 = .ok (.iload 5, 2) := by decide +kernel
theorem dX6_refund_123 : decode cX6_refund 123 = .ok (.if_icmp .ge 6, 3) := by decide +kernel
theorem dX6_refund_126 : decode cX6_refund 126 = .ok (.bipush (-5), 2) := by decide +kernel
theorem dX6_refund_128 : decode cX6_refund 128 = .ok (.ireturn, 1) := by decide +kernel
theorem dX6_refund_129 : decode cX6_refund 129 = .ok (.aload_n 0, 1) := by decide +kernel
theorem dX6_refund_130 : decode cX6_refund 130 = .ok (.invokevirtual 60, 3) := by decide +kernel
theorem dX6_refund_133 : decode cX6_refund 133 = .ok (.aload_n 0, 1) := by decide +kernel
theorem dX6_refund_134 : decode cX6_refund 134 = .ok (.getfield 7, 3) := by decide +kernel
theorem dX6_refund_137 : decode cX6_refund 137 = .ok (.bipush 52, 2) := by decide +kernel
theorem dX6_refund_139 : decode cX6_refund 139 = .ok (.iload 4, 2) := by decide +kernel
theorem dX6_refund_141 : decode cX6_refund 141 = .ok (.iadd, 1) := by decide +kernel
theorem dX6_refund_142 : decode cX6_refund 142 = .ok (.dup2, 1) := by decide +kernel
theorem dX6_refund_143 : decode cX6_refund 143 = .ok (.iaload, 1) := by decide +kernel
theorem dX6_refund_144 : decode cX6_refund 144 = .ok (.iload_n 2, 1) := by decide +kernel
theorem dX6_refund_145 : decode cX6_refund 145 = .ok (.isub, 1) := by decide +kernel
theorem dX6_refund_146 : decode cX6_refund 146 = .ok (.iastore, 1) := by decide +kernel
theorem dX6_refund_147 : decode cX6_refund 147 = .ok (.aload_n 0, 1) := by decide +kernel
theorem dX6_refund_148 : decode cX6_refund 148 = .ok (.getfield 7, 3) := by decide +kernel
theorem dX6_refund_151 : decode cX6_refund 151 = .ok (.bipush 52, 2) := by decide +kernel
theorem dX6_refund_153 : decode cX6_refund 153 = .ok (.iload_n 3, 1) := by decide +kernel
theorem dX6_refund_154 : decode cX6_refund 154 = .ok (.iadd, 1) := by decide +kernel
theorem dX6_refund_155 : decode cX6_refund 155 = .ok (.dup2, 1) := by decide +kernel
theorem dX6_refund_156 : decode cX6_refund 156 = .ok (.iaload, 1) := by decide +kernel
theorem dX6_refund_157 : decode cX6_refund 157 = .ok (.iload_n 2, 1) := by decide +kernel
theorem dX6_refund_158 : decode cX6_refund 158 = .ok (.iadd, 1) := by decide +kernel
theorem dX6_refund_159 : decode cX6_refund 159 = .ok (.iastore, 1) := by decide +kernel
theorem dX6_refund_160 : decode cX6_refund 160 = .ok (.aload_n 0, 1) := by decide +kernel
theorem dX6_refund_161 : decode cX6_refund 161 = .ok (.getfield 7, 3) := by decide +kernel
theorem dX6_refund_164 : decode cX6_refund 164 = .ok (.bipush 76, 2) := by decide +kernel
theorem dX6_refund_166 : decode cX6_refund 166 = .ok (.iload_n 3, 1) := by decide +kernel
theorem dX6_refund_167 : decode cX6_refund 167 = .ok (.iadd, 1) := by decide +kernel
theorem dX6_refund_168 : decode cX6_refund 168 = .ok (.dup2, 1) := by decide +kernel
theorem dX6_refund_169 : decode cX6_refund 169 = .ok (.iaload, 1) := by decide +kernel
theorem dX6_refund_170 : decode cX6_refund 170 = .ok (.iload 5, 2) := by decide +kernel
theorem dX6_refund_172 : decode cX6_refund 172 = .ok (.isub, 1) := by decide +kernel
theorem dX6_refund_173 : decode cX6_refund 173 = .ok (.iastore, 1) := by decide +kernel
theorem dX6_refund_174 : decode cX6_refund 174 = .ok (.aload_n 0, 1) := by decide +kernel
theorem dX6_refund_175 : decode cX6_refund 175 = .ok (.getfield 7, 3) := by decide +kernel
theorem dX6_refund_178 : decode cX6_refund 178 = .ok (.bipush 76, 2) := by decide +kernel
theorem dX6_refund_180 : decode cX6_refund 180 = .ok (.iload 4, 2) := by decide +kernel
theorem dX6_refund_182 : decode cX6_refund 182 = .ok (.iadd, 1) := by decide +kernel
theorem dX6_refund_183 : decode cX6_refund 183 = .ok (.dup2, 1) := by decide +kernel
theorem dX6_refund_184 : decode cX6_refund 184 = .ok (.iaload, 1) := by decide +kernel
theorem dX6_refund_185 : decode cX6_refund 185 = .ok (.iload 5, 2) := by decide +kernel
theorem dX6_refund_187 : decode cX6_refund 187 = .ok (.iadd, 1) := by decide +kernel
theorem dX6_refund_188 : decode cX6_refund 188 = .ok (.iastore, 1) := by decide +kernel
theorem dX6_refund_189 : decode cX6_refund 189 = .ok (.aload_n 0, 1) := by decide +kernel
theorem dX6_refund_190 : decode cX6_refund 190 = .ok (.getfield 7, 3) := by decide +kernel
theorem dX6_refund_193 : decode cX6_refund 193 = .ok (.sipush 276, 3) := by decide +kernel
theorem dX6_refund_196 : decode cX6_refund 196 = .ok (.iload_n 1, 1) := by decide +kernel
theorem dX6_refund_197 : decode cX6_refund 197 = .ok (.iadd, 1) := by decide +kernel
theorem dX6_refund_198 : decode cX6_refund 198 = .ok (.dup2, 1) := by decide +kernel
theorem dX6_refund_199 : decode cX6_refund 199 = .ok (.iaload, 1) := by decide +kernel
theorem dX6_refund_200 : decode cX6_refund 200 = .ok (.iload_n 2, 1) := by decide +kernel
theorem dX6_refund_201 : decode cX6_refund 201 = .ok (.isub, 1) := by decide +kernel
theorem dX6_refund_202 : decode cX6_refund 202 = .ok (.iastore, 1) := by decide +kernel
theorem dX6_refund_203 : decode cX6_refund 203 = .ok (.aload_n 0, 1) := by decide +kernel
theorem dX6_refund_204 : decode cX6_refund 204 = .ok (.getfield 7, 3) := by decide +kernel
theorem dX6_refund_207 : decode cX6_refund 207 = .ok (.sipush 276, 3) := by decide +kernel
theorem dX6_refund_210 : decode cX6_refund 210 = .ok (.iload_n 1, 1) := by decide +kernel
theorem dX6_refund_211 : decode cX6_refund 211 = .ok (.iadd, 1) := by decide +kernel
theorem dX6_refund_212 : decode cX6_refund 212 = .ok (.iaload, 1) := by decide +kernel
theorem dX6_refund_213 : decode cX6_refund 213 = .ok (.istore 6, 2) := by decide +kernel
theorem dX6_refund_215 : decode cX6_refund 215 = .ok (.iload 6, 2) := by decide +kernel
theorem dX6_refund_217 : decode cX6_refund 217 = .ok (.ifCond .ne 8, 3) := by decide +kernel
theorem dX6_refund_220 : decode cX6_refund 220 = .ok (.aload_n 0, 1) := by decide +kernel
theorem dX6_refund_221 : decode cX6_refund 221 = .ok (.iload_n 1, 1) := by decide +kernel
theorem dX6_refund_222 : decode cX6_refund 222 = .ok (.invokevirtual 136, 3) := by decide +kernel
theorem dX6_refund_225 : decode cX6_refund 225 = .ok (.iload 6, 2) := by decide +kernel
theorem dX6_refund_227 : decode cX6_refund 227 = .ok (.ireturn, 1) := by decide +kernel
theorem okX6_refund : CalOK yX6_refund cX6_refund 7 (some .int) 2 := ⟨wd_73, wd_890, by decide +kernel⟩
theorem ovX6_refund : VirOK yX6_refund := ⟨wd_888, wd_889⟩
def FX6_refund (B : Blk) (l1 : Int32) (l2 : Int32) : Option (Int32 × Blk) :=
  c1 (FX6_isContract B l1) fun r1 =>
  if r1 = 0 then
    some ((-1 : Int32), B)
  else
    c1 (FX6_in l2 (1 : Int32) (500 : Int32)) fun r4 =>
    if r4 = 0 then
      some ((-2 : Int32), B)
    else
      ld (B 1) 356 ((276 : Int32) + l1) fun v7 =>
      if l2 ≤ v7 then
        ld (B 1) 356 ((196 : Int32) + l1) fun v11 =>
        ld (B 1) 356 ((236 : Int32) + l1) fun v14 =>
        ld (B 1) 356 ((316 : Int32) + l1) fun v17 =>
        ld (B 1) 356 (1 : Int32) fun v20 =>
        lt1 (((l2 * v17) * v20) / (100 : Int32)) fun x23 =>
        c2 (FX6_reckon B) fun r25 B27 =>
        ld (B27 8) 24 v14 fun v28 =>
        ld (B27 1) 356 ((52 : Int32) + v14) fun v31 =>
        if (v31 - l2) < v28 then
          some ((-5 : Int32), B27)
        else
          ld (B27 1) 356 ((76 : Int32) + v11) fun v35 =>
          if x23 ≤ v35 then
            c1 (FX6_record B27) fun B41 =>
            ld (B41 1) 356 ((52 : Int32) + v14) fun v42 =>
            stb B41 1 356 ((52 : Int32) + v14) (v42 - l2) fun B45 =>
            ld (B45 1) 356 ((52 : Int32) + v11) fun v48 =>
            stb B45 1 356 ((52 : Int32) + v11) (v48 + l2) fun B51 =>
            ld (B51 1) 356 ((76 : Int32) + v11) fun v54 =>
            stb B51 1 356 ((76 : Int32) + v11) (v54 - x23) fun B57 =>
            ld (B57 1) 356 ((76 : Int32) + v14) fun v60 =>
            stb B57 1 356 ((76 : Int32) + v14) (v60 + x23) fun B63 =>
            ld (B63 1) 356 ((276 : Int32) + l1) fun v66 =>
            stb B63 1 356 ((276 : Int32) + l1) (v66 - l2) fun B69 =>
            ld (B69 1) 356 ((276 : Int32) + l1) fun v72 =>
            if v72 = 0 then
              c1 (FX6_dropContract B69 l1) fun B78 =>
              some (v72, B78)
            else
              some (v72, B69)
          else
            some ((-5 : Int32), B27)
      else
        some ((-2 : Int32), B)
set_option maxRecDepth 100000 in
set_option maxHeartbeats 4000000 in
theorem wX6_refund {E : WE} {V : VT} {A : Nat → Prop} {H0 : Heap} {M : Mem} (Cx : CX E RX6 cX6_refund 7 2 51) {r : Int32} {B' : Blk} (hret : RetI E V A H0 cX6_refund .int r (jb M 12 B')) {H : Heap} {locs : List Loc} {ls : Array Slot} {l1 : Int32} {l2 : Int32} {B : Blk} (hW : Wd V A H0 (jb M 12 B) (eS E) H locs) (hl : lv_has ls 7 [(0, .ref (vA V 12 0)), (1, .int l1), (2, .int l2)]) (hF : FX6_refund B l1 l2 = some (r, B')) : Wq E H locs 0 ls [] := by
  unfold FX6_refund at hF
  refine q_aload_n Cx dX6_refund_0 rfl (lv_at hl 0 rfl) ?_
  refine q_iload_n Cx dX6_refund_1 rfl (lv_at hl 1 rfl) ?_
  obtain ⟨r1, e2, hF⟩ := c1_some hF
  refine q_callI (as := [.int l1]) (rest := []) Cx (kX6_isContract e2) okX6_isContract ovX6_isContract wd_891 ⟨rfl, rfl, by decide, by decide⟩ hW oZ ic6 rfl hl.1 (Nat.le_of_ble_eq_true rfl) rfl dX6_refund_2 (fun H locs hW => ?_)
  refine q_if_ne (tgt := 10) Cx dX6_refund_5 (by decide) (fun c3 => ?_) (fun c3 => ?_)
  · have hF := (if_neg c3).symm.trans hF
    refine q_iload_n Cx dX6_refund_10 rfl (lv_at hl 2 rfl) ?_
    refine q_iconst (v := (1 : Int32)) Cx dX6_refund_11 (by decide) ?_
    refine q_sipush (v := (500 : Int32)) Cx dX6_refund_12 (by decide) ?_
    obtain ⟨r4, e5, hF⟩ := c1_some hF
    refine q_callSI (as := [.int l2, .int (1 : Int32), .int (500 : Int32)]) (rest := []) Cx (kX6_in e5) okX6_in osX6_in rfl wd_780 ⟨rfl, rfl, by decide, by decide⟩ hW rfl hl.1 (Nat.le_of_ble_eq_true rfl) rfl dX6_refund_15 (fun H locs hW => ?_)
    refine q_if_eq (tgt := 35) Cx dX6_refund_18 (by decide) (fun c6 => ?_) (fun c6 => ?_)
    · have hF := (if_pos c6).symm.trans hF
      refine q_bipush (v := (-2 : Int32)) Cx dX6_refund_35 (by decide) ?_
      obtain ⟨rfl, rfl⟩ := Prod.mk.inj (Option.some.inj hF)
      exact hret _ _ _ _ dX6_refund_37 (nI32 _) hW
    · have hF := (if_neg c6).symm.trans hF
      refine q_iload_n Cx dX6_refund_21 rfl (lv_at hl 2 rfl) ?_
      refine q_aload_n Cx dX6_refund_22 rfl (lv_at hl 0 rfl) ?_
      refine q_get (v := .ref (vA V 12 1)) Cx hW oZ ic6 0 (by decide) rfl wd_714 dX6_refund_23 ?_
      refine q_sipush (v := (276 : Int32)) Cx dX6_refund_26 (by decide) ?_
      refine q_iload_n Cx dX6_refund_29 rfl (lv_at hl 1 rfl) ?_
      refine q_iadd Cx dX6_refund_30 ?_
      obtain ⟨h8, v7, e9, hF⟩ := ld_some hF
      refine qb_iald Cx hW az_1 h8 e9 dX6_refund_31 ?_
      refine q_icmp_le (tgt := 38) Cx dX6_refund_32 (by decide) (fun c10 => ?_) (fun c10 => ?_)
      · have hF := (if_pos c10).symm.trans hF
        refine q_aload_n Cx dX6_refund_38 rfl (lv_at hl 0 rfl) ?_
        refine q_get (v := .ref (vA V 12 1)) Cx hW oZ ic6 0 (by decide) rfl wd_714 dX6_refund_39 ?_
        refine q_sipush (v := (196 : Int32)) Cx dX6_refund_42 (by decide) ?_
        refine q_iload_n Cx dX6_refund_45 rfl (lv_at hl 1 rfl) ?_
        refine q_iadd Cx dX6_refund_46 ?_
        obtain ⟨h12, v11, e13, hF⟩ := ld_some hF
        refine qb_iald Cx hW az_1 h12 e13 dX6_refund_47 ?_
        refine q_istore_n (lv' := [(3, .int v11), (0, .ref (vA V 12 0)), (1, .int l1), (2, .int l2)]) Cx dX6_refund_48 rfl hl (by decide) rfl (fun ls hl => ?_)
        refine q_aload_n Cx dX6_refund_49 rfl (lv_at hl 1 rfl) ?_
        refine q_get (v := .ref (vA V 12 1)) Cx hW oZ ic6 0 (by decide) rfl wd_714 dX6_refund_50 ?_
        refine q_sipush (v := (236 : Int32)) Cx dX6_refund_53 (by decide) ?_
        refine q_iload_n Cx dX6_refund_56 rfl (lv_at hl 2 rfl) ?_
        refine q_iadd Cx dX6_refund_57 ?_
        obtain ⟨h15, v14, e16, hF⟩ := ld_some hF
        refine qb_iald Cx hW az_1 h15 e16 dX6_refund_58 ?_
        refine q_istore (lv' := [(4, .int v14), (3, .int v11), (0, .ref (vA V 12 0)), (1, .int l1), (2, .int l2)]) Cx dX6_refund_59 hl (by decide) rfl (fun ls hl => ?_)
        refine q_iload_n Cx dX6_refund_61 rfl (lv_at hl 4 rfl) ?_
        refine q_aload_n Cx dX6_refund_62 rfl (lv_at hl 2 rfl) ?_
        refine q_get (v := .ref (vA V 12 1)) Cx hW oZ ic6 0 (by decide) rfl wd_714 dX6_refund_63 ?_
        refine q_sipush (v := (316 : Int32)) Cx dX6_refund_66 (by decide) ?_
        refine q_iload_n Cx dX6_refund_69 rfl (lv_at hl 3 rfl) ?_
        refine q_iadd Cx dX6_refund_70 ?_
        obtain ⟨h18, v17, e19, hF⟩ := ld_some hF
        refine qb_iald Cx hW az_1 h18 e19 dX6_refund_71 ?_
        refine q_imul Cx dX6_refund_72 ?_
        refine q_aload_n Cx dX6_refund_73 rfl (lv_at hl 2 rfl) ?_
        refine q_get (v := .ref (vA V 12 1)) Cx hW oZ ic6 0 (by decide) rfl wd_714 dX6_refund_74 ?_
        refine q_iconst (v := (1 : Int32)) Cx dX6_refund_77 (by decide) ?_
        obtain ⟨h21, v20, e22, hF⟩ := ld_some hF
        refine qb_iald Cx hW az_1 h21 e22 dX6_refund_78 ?_
        refine q_imul Cx dX6_refund_79 ?_
        refine q_bipush (v := (100 : Int32)) Cx dX6_refund_80 (by decide) ?_
        refine q_idiv Cx dX6_refund_82 (by decide) ?_
        obtain ⟨x23, e24, hF⟩ := lt1_some hF
        refine q_topi e24 ?_
        refine q_istore (lv' := [(5, .int x23), (4, .int v14), (3, .int v11), (0, .ref (vA V 12 0)), (1, .int l1), (2, .int l2)]) Cx dX6_refund_83 hl (by decide) rfl (fun ls hl => ?_)
        refine q_aload_n Cx dX6_refund_85 rfl (lv_at hl 3 rfl) ?_
        obtain ⟨r25, B27, e26, hF⟩ := c2_some hF
        refine q_callI (as := []) (rest := []) Cx (kX6_reckon e26) okX6_reckon ovX6_reckon wd_820 ⟨rfl, rfl, by decide, by decide⟩ hW oZ ic6 rfl hl.1 (Nat.le_of_ble_eq_true rfl) rfl dX6_refund_86 (fun H locs hW => ?_)
        refine q_pop Cx dX6_refund_89 rfl ?_
        refine q_aload_n Cx dX6_refund_90 rfl (lv_at hl 3 rfl) ?_
        refine q_get (v := .ref (vA V 12 8)) Cx hW oZ ic6 10 (by decide) rfl wd_724 dX6_refund_91 ?_
        refine q_iload Cx dX6_refund_94 (lv_at hl 1 rfl) ?_
        obtain ⟨h29, v28, e30, hF⟩ := ld_some hF
        refine qb_iald Cx hW az_8 h29 e30 dX6_refund_96 ?_
        refine q_aload_n Cx dX6_refund_97 rfl (lv_at hl 3 rfl) ?_
        refine q_get (v := .ref (vA V 12 1)) Cx hW oZ ic6 0 (by decide) rfl wd_714 dX6_refund_98 ?_
        refine q_bipush (v := (52 : Int32)) Cx dX6_refund_101 (by decide) ?_
        refine q_iload Cx dX6_refund_103 (lv_at hl 1 rfl) ?_
        refine q_iadd Cx dX6_refund_105 ?_
        obtain ⟨h32, v31, e33, hF⟩ := ld_some hF
        refine qb_iald Cx hW az_1 h32 e33 dX6_refund_106 ?_
        refine q_iload_n Cx dX6_refund_107 rfl (lv_at hl 5 rfl) ?_
        refine q_isub Cx dX6_refund_108 ?_
        refine q_icmp_gt (tgt := 126) Cx dX6_refund_109 (by decide) (fun c34 => ?_) (fun c34 => ?_)
        · have hF := (if_pos c34).symm.trans hF
          refine q_bipush (v := (-5 : Int32)) Cx dX6_refund_126 (by decide) ?_
          obtain ⟨rfl, rfl⟩ := Prod.mk.inj (Option.some.inj hF)
          exact hret _ _ _ _ dX6_refund_128 (nI32 _) hW
        · have hF := (if_neg c34).symm.trans hF
          refine q_aload_n Cx dX6_refund_112 rfl (lv_at hl 3 rfl) ?_
          refine q_get (v := .ref (vA V 12 1)) Cx hW oZ ic6 0 (by decide) rfl wd_714 dX6_refund_113 ?_
          refine q_bipush (v := (76 : Int32)) Cx dX6_refund_116 (by decide) ?_
          refine q_iload_n Cx dX6_refund_118 rfl (lv_at hl 2 rfl) ?_
          refine q_iadd Cx dX6_refund_119 ?_
          obtain ⟨h36, v35, e37, hF⟩ := ld_some hF
          refine qb_iald Cx hW az_1 h36 e37 dX6_refund_120 ?_
          refine q_iload Cx dX6_refund_121 (lv_at hl 0 rfl) ?_
          refine q_icmp_ge (tgt := 129) Cx dX6_refund_123 (by decide) (fun c38 => ?_) (fun c38 => ?_)
          · have hF := (if_pos c38).symm.trans hF
            refine q_aload_n Cx dX6_refund_129 rfl (lv_at hl 3 rfl) ?_
            obtain ⟨B41, e40, hF⟩ := c1_some hF
            refine q_callV (as := []) (rest := []) Cx (kX6_record e40) okX6_record ovX6_record wd_787 ⟨rfl, rfl, by decide, by decide⟩ hW oZ ic6 rfl hl.1 (Nat.le_of_ble_eq_true rfl) rfl dX6_refund_130 (fun H locs hW => ?_)
            refine q_aload_n Cx dX6_refund_133 rfl (lv_at hl 3 rfl) ?_
            refine q_get (v := .ref (vA V 12 1)) Cx hW oZ ic6 0 (by decide) rfl wd_714 dX6_refund_134 ?_
            refine q_bipush (v := (52 : Int32)) Cx dX6_refund_137 (by decide) ?_
            refine q_iload Cx dX6_refund_139 (lv_at hl 1 rfl) ?_
            refine q_iadd Cx dX6_refund_141 ?_
            refine q_dup2 Cx dX6_refund_142 rfl rfl ?_
            obtain ⟨h43, v42, e44, hF⟩ := ld_some hF
            refine qb_iald Cx hW az_1 h43 e44 dX6_refund_143 ?_
            refine q_iload_n Cx dX6_refund_144 rfl (lv_at hl 5 rfl) ?_
            refine q_isub Cx dX6_refund_145 ?_
            obtain ⟨h46, B45, e47, hF⟩ := stb_some hF
            refine qb_iast Cx hW az_1 h46 e47 dX6_refund_146 (fun H locs hW => ?_)
            refine q_aload_n Cx dX6_refund_147 rfl (lv_at hl 3 rfl) ?_
            refine q_get (v := .ref (vA V 12 1)) Cx hW oZ ic6 0 (by decide) rfl wd_714 dX6_refund_148 ?_
            refine q_bipush (v := (52 : Int32)) Cx dX6_refund_151 (by decide) ?_
            refine q_iload_n Cx dX6_refund_153 rfl (lv_at hl 2 rfl) ?_
            refine q_iadd Cx dX6_refund_154 ?_
            refine q_dup2 Cx dX6_refund_155 rfl rfl ?_
            obtain ⟨h49, v48, e50, hF⟩ := ld_some hF
            refine qb_iald Cx hW az_1 h49 e50 dX6_refund_156 ?_
            refine q_iload_n Cx dX6_refund_157 rfl (lv_at hl 5 rfl) ?_
            refine q_iadd Cx dX6_refund_158 ?_
            obtain ⟨h52, B51, e53, hF⟩ := stb_some hF
            refine qb_iast Cx hW az_1 h52 e53 dX6_refund_159 (fun H locs hW => ?_)
            refine q_aload_n Cx dX6_refund_160 rfl (lv_at hl 3 rfl) ?_
            refine q_get (v := .ref (vA V 12 1)) Cx hW oZ ic6 0 (by decide) rfl wd_714 dX6_refund_161 ?_
            refine q_bipush (v := (76 : Int32)) Cx dX6_refund_164 (by decide) ?_
            refine q_iload_n Cx dX6_refund_166 rfl (lv_at hl 2 rfl) ?_
            refine q_iadd Cx dX6_refund_167 ?_
            refine q_dup2 Cx dX6_refund_168 rfl rfl ?_
            obtain ⟨h55, v54, e56, hF⟩ := ld_some hF
            refine qb_iald Cx hW az_1 h55 e56 dX6_refund_169 ?_
            refine q_iload Cx dX6_refund_170 (lv_at hl 0 rfl) ?_
            refine q_isub Cx dX6_refund_172 ?_
            obtain ⟨h58, B57, e59, hF⟩ := stb_some hF
            refine qb_iast Cx hW az_1 h58 e59 dX6_refund_173 (fun H locs hW => ?_)
            refine q_aload_n Cx dX6_refund_174 rfl (lv_at hl 3 rfl) ?_
            refine q_get (v := .ref (vA V 12 1)) Cx hW oZ ic6 0 (by decide) rfl wd_714 dX6_refund_175 ?_
            refine q_bipush (v := (76 : Int32)) Cx dX6_refund_178 (by decide) ?_
            refine q_iload Cx dX6_refund_180 (lv_at hl 1 rfl) ?_
            refine q_iadd Cx dX6_refund_182 ?_
            refine q_dup2 Cx dX6_refund_183 rfl rfl ?_
            obtain ⟨h61, v60, e62, hF⟩ := ld_some hF
            refine qb_iald Cx hW az_1 h61 e62 dX6_refund_184 ?_
            refine q_iload Cx dX6_refund_185 (lv_at hl 0 rfl) ?_
            refine q_iadd Cx dX6_refund_187 ?_
            obtain ⟨h64, B63, e65, hF⟩ := stb_some hF
            refine qb_iast Cx hW az_1 h64 e65 dX6_refund_188 (fun H locs hW => ?_)
            refine q_aload_n Cx dX6_refund_189 rfl (lv_at hl 3 rfl) ?_
            refine q_get (v := .ref (vA V 12 1)) Cx hW oZ ic6 0 (by decide) rfl wd_714 dX6_refund_190 ?_
            refine q_sipush (v := (276 : Int32)) Cx dX6_refund_193 (by decide) ?_
            refine q_iload_n Cx dX6_refund_196 rfl (lv_at hl 4 rfl) ?_
            refine q_iadd Cx dX6_refund_197 ?_
            refine q_dup2 Cx dX6_refund_198 rfl rfl ?_
            obtain ⟨h67, v66, e68, hF⟩ := ld_some hF
            refine qb_iald Cx hW az_1 h67 e68 dX6_refund_199 ?_
            refine q_iload_n Cx dX6_refund_200 rfl (lv_at hl 5 rfl) ?_
            refine q_isub Cx dX6_refund_201 ?_
            obtain ⟨h70, B69, e71, hF⟩ := stb_some hF
            refine qb_iast Cx hW az_1 h70 e71 dX6_refund_202 (fun H locs hW => ?_)
            refine q_aload_n Cx dX6_refund_203 rfl (lv_at hl 3 rfl) ?_
            refine q_get (v := .ref (vA V 12 1)) Cx hW oZ ic6 0 (by decide) rfl wd_714 dX6_refund_204 ?_
            refine q_sipush (v := (276 : Int32)) Cx dX6_refund_207 (by decide) ?_
            refine q_iload_n Cx dX6_refund_210 rfl (lv_at hl 4 rfl) ?_
            refine q_iadd Cx dX6_refund_211 ?_
            obtain ⟨h73, v72, e74, hF⟩ := ld_some hF
            refine qb_iald Cx hW az_1 h73 e74 dX6_refund_212 ?_
            refine q_istore (lv' := [(6, .int v72), (5, .int x23), (4, .int v14), (3, .int v11), (0, .ref (vA V 12 0)), (1, .int l1), (2, .int l2)]) Cx dX6_refund_213 hl (by decide) rfl (fun ls hl => ?_)
            refine q_iload Cx dX6_refund_215 (lv_at hl 0 rfl) ?_
            refine q_if_ne (tgt := 225) Cx dX6_refund_217 (by decide) (fun c75 => ?_) (fun c75 => ?_)
            · have hF := (if_neg c75).symm.trans hF
              refine q_iload Cx dX6_refund_225 (lv_at hl 0 rfl) ?_
              obtain ⟨rfl, rfl⟩ := Prod.mk.inj (Option.some.inj hF)
              exact hret _ _ _ _ dX6_refund_227 (nI32 _) hW
            · have hF := (if_pos c75).symm.trans hF
              refine q_aload_n Cx dX6_refund_220 rfl (lv_at hl 4 rfl) ?_
              refine q_iload_n Cx dX6_refund_221 rfl (lv_at hl 5 rfl) ?_
              obtain ⟨B78, e77, hF⟩ := c1_some hF
              refine q_callV (as := [.int l1]) (rest := []) Cx (kX6_dropContract e77) okX6_dropContract ovX6_dropContract wd_895 ⟨rfl, rfl, by decide, by decide⟩ hW oZ ic6 rfl hl.1 (Nat.le_of_ble_eq_true rfl) rfl dX6_refund_222 (fun H locs hW => ?_)
              refine q_iload Cx dX6_refund_225 (lv_at hl 0 rfl) ?_
              obtain ⟨rfl, rfl⟩ := Prod.mk.inj (Option.some.inj hF)
              exact hret _ _ _ _ dX6_refund_227 (nI32 _) hW
          · have hF := (if_neg c38).symm.trans hF
            refine q_bipush (v := (-5 : Int32)) Cx dX6_refund_126 (by decide) ?_
            obtain ⟨rfl, rfl⟩ := Prod.mk.inj (Option.some.inj hF)
            exact hret _ _ _ _ dX6_refund_128 (nI32 _) hW
      · have hF := (if_neg c10).symm.trans hF
        refine q_bipush (v := (-2 : Int32)) Cx dX6_refund_35 (by decide) ?_
        obtain ⟨rfl, rfl⟩ := Prod.mk.inj (Option.some.inj hF)
        exact hret _ _ _ _ dX6_refund_37 (nI32 _) hW
  · have hF := (if_pos c3).symm.trans hF
    refine q_iconst (v := (-1 : Int32)) Cx dX6_refund_8 (by decide) ?_
    obtain ⟨rfl, rfl⟩ := Prod.mk.inj (Option.some.inj hF)
    exact hret _ _ _ _ dX6_refund_9 (nI32 _) hW
set_option maxRecDepth 100000 in
theorem kX6_refund {l : Launch} {V : VT} {M : Mem} {B : Blk} {l1 : Int32} {l2 : Int32} {r : Int32} {B' : Blk} (hF : FX6_refund B l1 l2 = some (r, B')) : MetI l V yX6_refund cX6_refund 7 .int ({ frames := 2, cells := 0, slots := 0, locals := 51 } : Room) [.ref (vA V 12 0), .int l1, .int l2] r (jb M 12 B) (jb M 12 B') := metI_of (by decide) (Nat.le_of_ble_eq_true rfl) (fun E H0 _ Cx hret H locs ls hW hl => wX6_refund Cx hret hW hl hF)
theorem dX6_give_0 : decode cX6_give 0 = .ok (.aload_n 0, 1) := by decide +kernel
theorem dX6_give_1 : decode cX6_give 1 = .ok (.iload_n 1, 1) := by decide +kernel
theorem dX6_give_2 : decode cX6_give 2 = .ok (.invokevirtual 89, 3) := by decide +kernel
theorem dX6_give_5 : decode cX6_give 5 = .ok (.ifCond .eq 16, 3) := by decide +kernel
theorem dX6_give_8 : decode cX6_give 8 = .ok (.aload_n 0, 1) := by decide +kernel
theorem dX6_give_9 : decode cX6_give 9 = .ok (.iload_n 2, 1) := by decide +kernel
theorem dX6_give_10 : decode cX6_give 10 = .ok (.invokevirtual 89, 3) := by decide +kernel
theorem dX6_give_13 : decode cX6_give 13 = .ok (.ifCond .eq 8, 3) := by decide +kernel
theorem dX6_give_16 : decode cX6_give 16 = .ok (.iload_n 1, 1) := by decide +kernel
theorem dX6_give_17 : decode cX6_give 17 = .ok (.iload_n 2, 1) := by decide +kernel
theorem dX6_give_18 : decode cX6_give 18 = .ok (.if_icmp .ne 5, 3) := by decide +kernel
theorem dX6_give_21 : decode cX6_give 21 = .ok (.iconst (-1), 1) := by decide +kernel
theorem dX6_give_22 : decode cX6_give 22 = .ok (.ireturn, 1) := by decide +kernel
theorem dX6_give_23 : decode cX6_give 23 = .ok (.iload_n 3, 1) := by decide +kernel
theorem dX6_give_24 : decode cX6_give 24 = .ok (.iconst 1, 1) := by decide +kernel
theorem dX6_give_25 : decode cX6_give 25 = .ok (.ldc 93, 2) := by decide +kernel
theorem dX6_give_27 : decode cX6_give 27 = .ok (.invokestatic 56, 3) := by decide +kernel
theorem dX6_give_30 : decode cX6_give 30 = .ok (.ifCond .ne 6, 3) := by decide +kernel
theorem dX6_give_33 : decode cX6_give 33 = .ok (.bipush (-2), 2) := by decide +kernel
theorem dX6_give_35 : decode cX6_give 35 = .ok (.ireturn, 1) := by decide +kernel
theorem dX6_give_36 : decode cX6_give 36 = .ok (.aload_n 0, 1) := by decide +kernel
theorem dX6_give_37 : decode cX6_give 37 = .ok (.getfield 7, 3) := by decide +kernel
theorem dX6_give_40 : decode cX6_give 40 = .ok (.bipush 76, 2) := by decide +kernel
theorem dX6_give_42 : decode cX6_give 42 = .ok (.iload_n 1, 1) := by decide +kernel
theorem dX6_give_43 : decode cX6_give 43 = .ok (.iadd, 1) := by decide +kernel
theorem dX6_give_44 : decode cX6_give 44 = .ok (.iaload, 1) := by decide +kernel
theorem dX6_give_45 : decode cX6_give 45 = .ok (.iload_n 3, 1) := by decide +kernel
theorem dX6_give_46 : decode cX6_give 46 = .ok (.if_icmp .ge 6, 3) := by decide +kernel
theorem dX6_give_49 : decode cX6_give 49 = .ok (.bipush (-5), 2) := by decide +kernel
theorem dX6_give_51 : decode cX6_give 51 = .ok (.ireturn, 1) := by decide +kernel
theorem dX6_give_52 : decode cX6_give 52 = .ok (.aload_n 0, 1) := by decide +kernel
theorem dX6_give_53 : decode cX6_give 53 = .ok (.invokevirtual 60, 3) := by decide +kernel
theorem dX6_give_56 : decode cX6_give 56 = .ok (.aload_n 0, 1) := by decide +kernel
theorem dX6_give_57 : decode cX6_give 57 = .ok (.getfield 7, 3) := by decide +kernel
theorem dX6_give_60 : decode cX6_give 60 = .ok (.bipush 76, 2) := by decide +kernel
theorem dX6_give_62 : decode cX6_give 62 = .ok (.iload_n 1, 1) := by decide +kernel
theorem dX6_give_63 : decode cX6_give 63 = .ok (.iadd, 1) := by decide +kernel
theorem dX6_give_64 : decode cX6_give 64 = .ok (.dup2, 1) := by decide +kernel
theorem dX6_give_65 : decode cX6_give 65 = .ok (.iaload, 1) := by decide +kernel
theorem dX6_give_66 : decode cX6_give 66 = .ok (.iload_n 3, 1) := by decide +kernel
theorem dX6_give_67 : decode cX6_give 67 = .ok (.isub, 1) := by decide +kernel
theorem dX6_give_68 : decode cX6_give 68 = .ok (.iastore, 1) := by decide +kernel
theorem dX6_give_69 : decode cX6_give 69 = .ok (.aload_n 0, 1) := by decide +kernel
theorem dX6_give_70 : decode cX6_give 70 = .ok (.getfield 7, 3) := by decide +kernel
theorem dX6_give_73 : decode cX6_give 73 = .ok (.bipush 76, 2) := by decide +kernel
theorem dX6_give_75 : decode cX6_give 75 = .ok (.iload_n 2, 1) := by decide +kernel
theorem dX6_give_76 : decode cX6_give 76 = .ok (.iadd, 1) := by decide +kernel
theorem dX6_give_77 : decode cX6_give 77 = .ok (.dup2, 1) := by decide +kernel
theorem dX6_give_78 : decode cX6_give 78 = .ok (.iaload, 1) := by decide +kernel
theorem dX6_give_79 : decode cX6_give 79 = .ok (.iload_n 3, 1) := by decide +kernel
theorem dX6_give_80 : decode cX6_give 80 = .ok (.iadd, 1) := by decide +kernel
theorem dX6_give_81 : decode cX6_give 81 = .ok (.iastore, 1) := by decide +kernel
theorem dX6_give_82 : decode cX6_give 82 = .ok (.aload_n 0, 1) := by decide +kernel
theorem dX6_give_83 : decode cX6_give 83 = .ok (.getfield 7, 3) := by decide +kernel
theorem dX6_give_86 : decode cX6_give 86 = .ok (.bipush 76, 2) := by decide +kernel
theorem dX6_give_88 : decode cX6_give 88 = .ok (.iload_n 1, 1) := by decide +kernel
theorem dX6_give_89 : decode cX6_give 89 = .ok (.iadd, 1) := by decide +kernel
theorem dX6_give_90 : decode cX6_give 90 = .ok (.iaload, 1) := by decide +kernel
theorem dX6_give_91 : decode cX6_give 91 = .ok (.ireturn, 1) := by decide +kernel
theorem okX6_give : CalOK yX6_give cX6_give 4 (some .int) 3 := ⟨wd_73, wd_902, by decide +kernel⟩
theorem ovX6_give : VirOK yX6_give := ⟨wd_900, wd_901⟩
def FX6_give (B : Blk) (l1 : Int32) (l2 : Int32) (l3 : Int32) : Option (Int32 × Blk) :=
  c1 (FX6_isTask B l1) fun r1 =>
  if r1 = 0 then
    some ((-1 : Int32), B)
  else
    c1 (FX6_isTask B l2) fun r4 =>
    if r4 = 0 then
      some ((-1 : Int32), B)
    else
      if l1 = l2 then
        some ((-1 : Int32), B)
      else
        c1 (FX6_in l3 (1 : Int32) (100000 : Int32)) fun r8 =>
        if r8 = 0 then
          some ((-2 : Int32), B)
        else
          ld (B 1) 356 ((76 : Int32) + l1) fun v11 =>
          if l3 ≤ v11 then
            c1 (FX6_record B) fun B17 =>
            ld (B17 1) 356 ((76 : Int32) + l1) fun v18 =>
            stb B17 1 356 ((76 : Int32) + l1) (v18 - l3) fun B21 =>
            ld (B21 1) 356 ((76 : Int32) + l2) fun v24 =>
            stb B21 1 356 ((76 : Int32) + l2) (v24 + l3) fun B27 =>
            ld (B27 1) 356 ((76 : Int32) + l1) fun v30 =>
            some (v30, B27)
          else
            some ((-5 : Int32), B)
set_option maxRecDepth 100000 in
set_option maxHeartbeats 4000000 in
theorem wX6_give {E : WE} {V : VT} {A : Nat → Prop} {H0 : Heap} {M : Mem} (Cx : CX E RX6 cX6_give 4 1 22) {r : Int32} {B' : Blk} (hret : RetI E V A H0 cX6_give .int r (jb M 12 B')) {H : Heap} {locs : List Loc} {ls : Array Slot} {l1 : Int32} {l2 : Int32} {l3 : Int32} {B : Blk} (hW : Wd V A H0 (jb M 12 B) (eS E) H locs) (hl : lv_has ls 4 [(0, .ref (vA V 12 0)), (1, .int l1), (2, .int l2), (3, .int l3)]) (hF : FX6_give B l1 l2 l3 = some (r, B')) : Wq E H locs 0 ls [] := by
  unfold FX6_give at hF
  refine q_aload_n Cx dX6_give_0 rfl (lv_at hl 0 rfl) ?_
  refine q_iload_n Cx dX6_give_1 rfl (lv_at hl 1 rfl) ?_
  obtain ⟨r1, e2, hF⟩ := c1_some hF
  refine q_callI (as := [.int l1]) (rest := []) Cx (kX6_isTask e2) okX6_isTask ovX6_isTask wd_799 ⟨rfl, rfl, by decide, by decide⟩ hW oZ ic6 rfl hl.1 (Nat.le_of_ble_eq_true rfl) rfl dX6_give_2 (fun H locs hW => ?_)
  refine q_if_eq (tgt := 21) Cx dX6_give_5 (by decide) (fun c3 => ?_) (fun c3 => ?_)
  · have hF := (if_pos c3).symm.trans hF
    refine q_iconst (v := (-1 : Int32)) Cx dX6_give_21 (by decide) ?_
    obtain ⟨rfl, rfl⟩ := Prod.mk.inj (Option.some.inj hF)
    exact hret _ _ _ _ dX6_give_22 (nI32 _) hW
  · have hF := (if_neg c3).symm.trans hF
    refine q_aload_n Cx dX6_give_8 rfl (lv_at hl 0 rfl) ?_
    refine q_iload_n Cx dX6_give_9 rfl (lv_at hl 2 rfl) ?_
    obtain ⟨r4, e5, hF⟩ := c1_some hF
    refine q_callI (as := [.int l2]) (rest := []) Cx (kX6_isTask e5) okX6_isTask ovX6_isTask wd_799 ⟨rfl, rfl, by decide, by decide⟩ hW oZ ic6 rfl hl.1 (Nat.le_of_ble_eq_true rfl) rfl dX6_give_10 (fun H locs hW => ?_)
    refine q_if_eq (tgt := 21) Cx dX6_give_13 (by decide) (fun c6 => ?_) (fun c6 => ?_)
    · have hF := (if_pos c6).symm.trans hF
      refine q_iconst (v := (-1 : Int32)) Cx dX6_give_21 (by decide) ?_
      obtain ⟨rfl, rfl⟩ := Prod.mk.inj (Option.some.inj hF)
      exact hret _ _ _ _ dX6_give_22 (nI32 _) hW
    · have hF := (if_neg c6).symm.trans hF
      refine q_iload_n Cx dX6_give_16 rfl (lv_at hl 1 rfl) ?_
      refine q_iload_n Cx dX6_give_17 rfl (lv_at hl 2 rfl) ?_
      refine q_icmp_ne (tgt := 23) Cx dX6_give_18 (by decide) (fun c7 => ?_) (fun c7 => ?_)
      · have hF := (if_neg c7).symm.trans hF
        refine q_iload_n Cx dX6_give_23 rfl (lv_at hl 3 rfl) ?_
        refine q_iconst (v := (1 : Int32)) Cx dX6_give_24 (by decide) ?_
        refine q_ldc (v := (100000 : Int32)) Cx dX6_give_25 wd_803 ?_
        obtain ⟨r8, e9, hF⟩ := c1_some hF
        refine q_callSI (as := [.int l3, .int (1 : Int32), .int (100000 : Int32)]) (rest := []) Cx (kX6_in e9) okX6_in osX6_in rfl wd_780 ⟨rfl, rfl, by decide, by decide⟩ hW rfl hl.1 (Nat.le_of_ble_eq_true rfl) rfl dX6_give_27 (fun H locs hW => ?_)
        refine q_if_ne (tgt := 36) Cx dX6_give_30 (by decide) (fun c10 => ?_) (fun c10 => ?_)
        · have hF := (if_neg c10).symm.trans hF
          refine q_aload_n Cx dX6_give_36 rfl (lv_at hl 0 rfl) ?_
          refine q_get (v := .ref (vA V 12 1)) Cx hW oZ ic6 0 (by decide) rfl wd_714 dX6_give_37 ?_
          refine q_bipush (v := (76 : Int32)) Cx dX6_give_40 (by decide) ?_
          refine q_iload_n Cx dX6_give_42 rfl (lv_at hl 1 rfl) ?_
          refine q_iadd Cx dX6_give_43 ?_
          obtain ⟨h12, v11, e13, hF⟩ := ld_some hF
          refine qb_iald Cx hW az_1 h12 e13 dX6_give_44 ?_
          refine q_iload_n Cx dX6_give_45 rfl (lv_at hl 3 rfl) ?_
          refine q_icmp_ge (tgt := 52) Cx dX6_give_46 (by decide) (fun c14 => ?_) (fun c14 => ?_)
          · have hF := (if_pos c14).symm.trans hF
            refine q_aload_n Cx dX6_give_52 rfl (lv_at hl 0 rfl) ?_
            obtain ⟨B17, e16, hF⟩ := c1_some hF
            refine q_callV (as := []) (rest := []) Cx (kX6_record e16) okX6_record ovX6_record wd_787 ⟨rfl, rfl, by decide, by decide⟩ hW oZ ic6 rfl hl.1 (Nat.le_of_ble_eq_true rfl) rfl dX6_give_53 (fun H locs hW => ?_)
            refine q_aload_n Cx dX6_give_56 rfl (lv_at hl 0 rfl) ?_
            refine q_get (v := .ref (vA V 12 1)) Cx hW oZ ic6 0 (by decide) rfl wd_714 dX6_give_57 ?_
            refine q_bipush (v := (76 : Int32)) Cx dX6_give_60 (by decide) ?_
            refine q_iload_n Cx dX6_give_62 rfl (lv_at hl 1 rfl) ?_
            refine q_iadd Cx dX6_give_63 ?_
            refine q_dup2 Cx dX6_give_64 rfl rfl ?_
            obtain ⟨h19, v18, e20, hF⟩ := ld_some hF
            refine qb_iald Cx hW az_1 h19 e20 dX6_give_65 ?_
            refine q_iload_n Cx dX6_give_66 rfl (lv_at hl 3 rfl) ?_
            refine q_isub Cx dX6_give_67 ?_
            obtain ⟨h22, B21, e23, hF⟩ := stb_some hF
            refine qb_iast Cx hW az_1 h22 e23 dX6_give_68 (fun H locs hW => ?_)
            refine q_aload_n Cx dX6_give_69 rfl (lv_at hl 0 rfl) ?_
            refine q_get (v := .ref (vA V 12 1)) Cx hW oZ ic6 0 (by decide) rfl wd_714 dX6_give_70 ?_
            refine q_bipush (v := (76 : Int32)) Cx dX6_give_73 (by decide) ?_
            refine q_iload_n Cx dX6_give_75 rfl (lv_at hl 2 rfl) ?_
            refine q_iadd Cx dX6_give_76 ?_
            refine q_dup2 Cx dX6_give_77 rfl rfl ?_
            obtain ⟨h25, v24, e26, hF⟩ := ld_some hF
            refine qb_iald Cx hW az_1 h25 e26 dX6_give_78 ?_
            refine q_iload_n Cx dX6_give_79 rfl (lv_at hl 3 rfl) ?_
            refine q_iadd Cx dX6_give_80 ?_
            obtain ⟨h28, B27, e29, hF⟩ := stb_some hF
            refine qb_iast Cx hW az_1 h28 e29 dX6_give_81 (fun H locs hW => ?_)
            refine q_aload_n Cx dX6_give_82 rfl (lv_at hl 0 rfl) ?_
            refine q_get (v := .ref (vA V 12 1)) Cx hW oZ ic6 0 (by decide) rfl wd_714 dX6_give_83 ?_
            refine q_bipush (v := (76 : Int32)) Cx dX6_give_86 (by decide) ?_
            refine q_iload_n Cx dX6_give_88 rfl (lv_at hl 1 rfl) ?_
            refine q_iadd Cx dX6_give_89 ?_
            obtain ⟨h31, v30, e32, hF⟩ := ld_some hF
            refine qb_iald Cx hW az_1 h31 e32 dX6_give_90 ?_
            obtain ⟨rfl, rfl⟩ := Prod.mk.inj (Option.some.inj hF)
            exact hret _ _ _ _ dX6_give_91 (nI32 _) hW
          · have hF := (if_neg c14).symm.trans hF
            refine q_bipush (v := (-5 : Int32)) Cx dX6_give_49 (by decide) ?_
            obtain ⟨rfl, rfl⟩ := Prod.mk.inj (Option.some.inj hF)
            exact hret _ _ _ _ dX6_give_51 (nI32 _) hW
        · have hF := (if_pos c10).symm.trans hF
          refine q_bipush (v := (-2 : Int32)) Cx dX6_give_33 (by decide) ?_
          obtain ⟨rfl, rfl⟩ := Prod.mk.inj (Option.some.inj hF)
          exact hret _ _ _ _ dX6_give_35 (nI32 _) hW
      · have hF := (if_pos c7).symm.trans hF
        refine q_iconst (v := (-1 : Int32)) Cx dX6_give_21 (by decide) ?_
        obtain ⟨rfl, rfl⟩ := Prod.mk.inj (Option.some.inj hF)
        exact hret _ _ _ _ dX6_give_22 (nI32 _) hW
set_option maxRecDepth 100000 in
theorem kX6_give {l : Launch} {V : VT} {M : Mem} {B : Blk} {l1 : Int32} {l2 : Int32} {l3 : Int32} {r : Int32} {B' : Blk} (hF : FX6_give B l1 l2 l3 = some (r, B')) : MetI l V yX6_give cX6_give 4 .int ({ frames := 1, cells := 0, slots := 0, locals := 22 } : Room) [.ref (vA V 12 0), .int l1, .int l2, .int l3] r (jb M 12 B) (jb M 12 B') := metI_of (by decide) (Nat.le_of_ble_eq_true rfl) (fun E H0 _ Cx hret H locs ls hW hl => wX6_give Cx hret hW hl hF)
theorem dX6_hoursBy_0 : decode cX6_hoursBy 0 = .ok (.iconst 0, 1) := by decide +kernel
theorem dX6_hoursBy_1 : decode cX6_hoursBy 1 = .ok (.istore_n 3, 1) := by decide +kernel
theorem dX6_hoursBy_2 : decode cX6_hoursBy 2 = .ok (.iconst 0, 1) := by decide +kernel
theorem dX6_hoursBy_3 : decode cX6_hoursBy 3 = .ok (.istore 4, 2) := by decide +kernel
theorem dX6_hoursBy_5 : decode cX6_hoursBy 5 = .ok (.iload 4, 2) := by decide +kernel
theorem dX6_hoursBy_7 : decode cX6_hoursBy 7 = .ok (.aload_n 0, 1) := by decide +kernel
theorem dX6_hoursBy_8 : decode cX6_hoursBy 8 = .ok (.getfield 7, 3) := by decide +kernel
theorem dX6_hoursBy_11 : decode cX6_hoursBy 11 = .ok (.iconst 3, 1) := by decide +kernel
theorem dX6_hoursBy_12 : decode cX6_hoursBy 12 = .ok (.iaload, 1) := by decide +kernel
theorem dX6_hoursBy_13 : decode cX6_hoursBy 13 = .ok (.if_icmp .ge 40, 3) := by decide +kernel
theorem dX6_hoursBy_16 : decode cX6_hoursBy 16 = .ok (.iload_n 3, 1) := by decide +kernel
theorem dX6_hoursBy_17 : decode cX6_hoursBy 17 = .ok (.aload_n 0, 1) := by decide +kernel
theorem dX6_hoursBy_18 : decode cX6_hoursBy 18 = .ok (.getfield 7, 3) := by decide +kernel
theorem dX6_hoursBy_21 : decode cX6_hoursBy 21 = .ok (.iload_n 1, 1) := by decide +kernel
theorem dX6_hoursBy_22 : decode cX6_hoursBy 22 = .ok (.iload 4, 2) := by decide +kernel
theorem dX6_hoursBy_24 : decode cX6_hoursBy 24 = .ok (.iadd, 1) := by decide +kernel
theorem dX6_hoursBy_25 : decode cX6_hoursBy 25 = .ok (.iaload, 1) := by decide +kernel
theorem dX6_hoursBy_26 : decode cX6_hoursBy 26 = .ok (.iload_n 2, 1) := by decide +kernel
theorem dX6_hoursBy_27 : decode cX6_hoursBy 27 = .ok (.if_icmp .ne 17, 3) := by decide +kernel
theorem dX6_hoursBy_30 : decode cX6_hoursBy 30 = .ok (.aload_n 0, 1) := by decide +kernel
theorem dX6_hoursBy_31 : decode cX6_hoursBy 31 = .ok (.getfield 7, 3) := by decide +kernel
theorem dX6_hoursBy_34 : decode cX6_hoursBy 34 = .ok (.sipush 276, 3) := by decide +kernel
theorem dX6_hoursBy_37 : decode cX6_hoursBy 37 = .ok (.iload 4, 2) := by decide +kernel
theorem dX6_hoursBy_39 : decode cX6_hoursBy 39 = .ok (.iadd, 1) := by decide +kernel
theorem dX6_hoursBy_40 : decode cX6_hoursBy 40 = .ok (.iaload, 1) := by decide +kernel
theorem dX6_hoursBy_41 : decode cX6_hoursBy 41 = .ok (.goto 4, 3) := by decide +kernel
theorem dX6_hoursBy_44 : decode cX6_hoursBy 44 = .ok (.iconst 0, 1) := by decide +kernel
theorem dX6_hoursBy_45 : decode cX6_hoursBy 45 = .ok (.iadd, 1) := by decide +kernel
theorem dX6_hoursBy_46 : decode cX6_hoursBy 46 = .ok (.istore_n 3, 1) := by decide +kernel
theorem dX6_hoursBy_47 : decode cX6_hoursBy 47 = .ok (.iinc 4 1, 3) := by decide +kernel
theorem dX6_hoursBy_50 : decode cX6_hoursBy 50 = .ok (.goto (-45), 3) := by decide +kernel
theorem dX6_hoursBy_53 : decode cX6_hoursBy 53 = .ok (.iload_n 3, 1) := by decide +kernel
theorem dX6_hoursBy_54 : decode cX6_hoursBy 54 = .ok (.ireturn, 1) := by decide +kernel
theorem okX6_hoursBy : CalOK yX6_hoursBy cX6_hoursBy 5 (some .int) 2 := ⟨wd_73, wd_922, by decide +kernel⟩
theorem ovX6_hoursBy : VirOK yX6_hoursBy := ⟨wd_921, wd_47⟩
def FX6_hoursBy_45 (B : Blk) (k5 : Int32 → Int32 → Int32 → Int32 → Option Int32) (l1 : Int32) (l2 : Int32) (l4 : Int32) (s0 : Int32) (s1 : Int32) : Option Int32 :=
  lt1 (s1 + s0) fun x9 =>
  lt1 (l4 + (1 : Int32)) fun x11 =>
  k5 l1 l2 x9 x11
set_option maxRecDepth 100000 in
set_option maxHeartbeats 4000000 in
theorem wX6_hoursBy_45 {E : WE} {V : VT} {A : Nat → Prop} {H0 : Heap} {M : Mem} (Cx : CX E RX6 cX6_hoursBy 5 0 0) {r : Int32} {B : Blk} (hret : RetI E V A H0 cX6_hoursBy .int r (jb M 12 B)) {k5 : Int32 → Int32 → Int32 → Int32 → Option Int32} (hk5 : ∀ {H : Heap} {locs : List Loc} {ls : Array Slot} {l1 : Int32} {l2 : Int32} {l3 : Int32} {l4 : Int32}, Wd V A H0 (jb M 12 B) (eS E) H locs → lv_has ls 5 [(0, .ref (vA V 12 0)), (1, .int l1), (2, .int l2), (3, .int l3), (4, .int l4)] → k5 l1 l2 l3 l4 = some r → Wq E H locs 5 ls []) {H : Heap} {locs : List Loc} {ls : Array Slot} {l1 : Int32} {l2 : Int32} {l4 : Int32} {s0 : Int32} {s1 : Int32} (hW : Wd V A H0 (jb M 12 B) (eS E) H locs) (hl : lv_has ls 5 [(0, .ref (vA V 12 0)), (1, .int l1), (2, .int l2), (4, .int l4)]) (hF : FX6_hoursBy_45 B k5 l1 l2 l4 s0 s1 = some r) : Wq E H locs 45 ls [.int s0, .int s1] := by
  unfold FX6_hoursBy_45 at hF
  refine q_iadd Cx dX6_hoursBy_45 ?_
  obtain ⟨x9, e10, hF⟩ := lt1_some hF
  refine q_topi e10 ?_
  refine q_istore_n (lv' := [(3, .int x9), (0, .ref (vA V 12 0)), (1, .int l1), (2, .int l2), (4, .int l4)]) Cx dX6_hoursBy_46 rfl hl (by decide) rfl (fun ls hl => ?_)
  obtain ⟨x11, e12, hF⟩ := lt1_some hF
  refine q_iinc (k := 4) (v := x11) (lv' := [(4, .int x11), (3, .int x9), (0, .ref (vA V 12 0)), (1, .int l1), (2, .int l2)]) Cx dX6_hoursBy_47 hl rfl e12.symm (by decide) rfl (fun ls hl => ?_)
  refine q_goto (tgt := 5) Cx dX6_hoursBy_50 (by decide) ?_
  exact hk5 hW (lv_sub hl [2, 3, 4, 1, 0] rfl) hF
def FX6_hoursBy_5s (B : Blk) (k5 : Int32 → Int32 → Int32 → Int32 → Option Int32) (l1 : Int32) (l2 : Int32) (l3 : Int32) (l4 : Int32) : Option Int32 :=
  ld (B 1) 356 (3 : Int32) fun v1 =>
  if v1 ≤ l4 then
    some l3
  else
    ld (B 1) 356 (l1 + l4) fun v5 =>
    if v5 = l2 then
      ld (B 1) 356 ((276 : Int32) + l4) fun v13 =>
      FX6_hoursBy_45 B k5 l1 l2 l4 v13 l3
    else
      FX6_hoursBy_45 B k5 l1 l2 l4 (0 : Int32) l3
set_option maxRecDepth 100000 in
set_option maxHeartbeats 4000000 in
theorem wX6_hoursBy_5s {E : WE} {V : VT} {A : Nat → Prop} {H0 : Heap} {M : Mem} (Cx : CX E RX6 cX6_hoursBy 5 0 0) {r : Int32} {B : Blk} (hret : RetI E V A H0 cX6_hoursBy .int r (jb M 12 B)) {k5 : Int32 → Int32 → Int32 → Int32 → Option Int32} (hk5 : ∀ {H : Heap} {locs : List Loc} {ls : Array Slot} {l1 : Int32} {l2 : Int32} {l3 : Int32} {l4 : Int32}, Wd V A H0 (jb M 12 B) (eS E) H locs → lv_has ls 5 [(0, .ref (vA V 12 0)), (1, .int l1), (2, .int l2), (3, .int l3), (4, .int l4)] → k5 l1 l2 l3 l4 = some r → Wq E H locs 5 ls []) {H : Heap} {locs : List Loc} {ls : Array Slot} {l1 : Int32} {l2 : Int32} {l3 : Int32} {l4 : Int32} (hW : Wd V A H0 (jb M 12 B) (eS E) H locs) (hl : lv_has ls 5 [(0, .ref (vA V 12 0)), (1, .int l1), (2, .int l2), (3, .int l3), (4, .int l4)]) (hF : FX6_hoursBy_5s B k5 l1 l2 l3 l4 = some r) : Wq E H locs 5 ls [] := by
  unfold FX6_hoursBy_5s at hF
  refine q_iload Cx dX6_hoursBy_5 (lv_at hl 4 rfl) ?_
  refine q_aload_n Cx dX6_hoursBy_7 rfl (lv_at hl 0 rfl) ?_
  refine q_get (v := .ref (vA V 12 1)) Cx hW oZ ic6 0 (by decide) rfl wd_714 dX6_hoursBy_8 ?_
  refine q_iconst (v := (3 : Int32)) Cx dX6_hoursBy_11 (by decide) ?_
  obtain ⟨h2, v1, e3, hF⟩ := ld_some hF
  refine qb_iald Cx hW az_1 h2 e3 dX6_hoursBy_12 ?_
  refine q_icmp_ge (tgt := 53) Cx dX6_hoursBy_13 (by decide) (fun c4 => ?_) (fun c4 => ?_)
  · have hF := (if_pos c4).symm.trans hF
    refine q_iload_n Cx dX6_hoursBy_53 rfl (lv_at hl 3 rfl) ?_
    obtain rfl := Option.some.inj hF
    exact hret _ _ _ _ dX6_hoursBy_54 (nI32 _) hW
  · have hF := (if_neg c4).symm.trans hF
    refine q_iload_n Cx dX6_hoursBy_16 rfl (lv_at hl 3 rfl) ?_
    refine q_aload_n Cx dX6_hoursBy_17 rfl (lv_at hl 0 rfl) ?_
    refine q_get (v := .ref (vA V 12 1)) Cx hW oZ ic6 0 (by decide) rfl wd_714 dX6_hoursBy_18 ?_
    refine q_iload_n Cx dX6_hoursBy_21 rfl (lv_at hl 1 rfl) ?_
    refine q_iload Cx dX6_hoursBy_22 (lv_at hl 4 rfl) ?_
    refine q_iadd Cx dX6_hoursBy_24 ?_
    obtain ⟨h6, v5, e7, hF⟩ := ld_some hF
    refine qb_iald Cx hW az_1 h6 e7 dX6_hoursBy_25 ?_
    refine q_iload_n Cx dX6_hoursBy_26 rfl (lv_at hl 2 rfl) ?_
    refine q_icmp_ne (tgt := 44) Cx dX6_hoursBy_27 (by decide) (fun c8 => ?_) (fun c8 => ?_)
    · have hF := (if_neg c8).symm.trans hF
      refine q_iconst (v := (0 : Int32)) Cx dX6_hoursBy_44 (by decide) ?_
      exact wX6_hoursBy_45 Cx hret hk5 hW (lv_sub hl [0, 1, 2, 4] rfl) hF
    · have hF := (if_pos c8).symm.trans hF
      refine q_aload_n Cx dX6_hoursBy_30 rfl (lv_at hl 0 rfl) ?_
      refine q_get (v := .ref (vA V 12 1)) Cx hW oZ ic6 0 (by decide) rfl wd_714 dX6_hoursBy_31 ?_
      refine q_sipush (v := (276 : Int32)) Cx dX6_hoursBy_34 (by decide) ?_
      refine q_iload Cx dX6_hoursBy_37 (lv_at hl 4 rfl) ?_
      refine q_iadd Cx dX6_hoursBy_39 ?_
      obtain ⟨h14, v13, e15, hF⟩ := ld_some hF
      refine qb_iald Cx hW az_1 h14 e15 dX6_hoursBy_40 ?_
      refine q_goto (tgt := 45) Cx dX6_hoursBy_41 (by decide) ?_
      exact wX6_hoursBy_45 Cx hret hk5 hW (lv_sub hl [0, 1, 2, 4] rfl) hF
def FX6_hoursBy_5 (B : Blk) : Nat → Int32 → Int32 → Int32 → Int32 → Option Int32
  | 0 => fun _ _ _ _ => none
  | n + 1 => FX6_hoursBy_5s B (FX6_hoursBy_5 B n)
set_option maxRecDepth 100000 in
theorem wX6_hoursBy_5 {E : WE} {V : VT} {A : Nat → Prop} {H0 : Heap} {M : Mem} (Cx : CX E RX6 cX6_hoursBy 5 0 0) {r : Int32} {B : Blk} (hret : RetI E V A H0 cX6_hoursBy .int r (jb M 12 B)) : ∀ (n : Nat) {H : Heap} {locs : List Loc} {ls : Array Slot} {l1 : Int32} {l2 : Int32} {l3 : Int32} {l4 : Int32}, Wd V A H0 (jb M 12 B) (eS E) H locs → lv_has ls 5 [(0, .ref (vA V 12 0)), (1, .int l1), (2, .int l2), (3, .int l3), (4, .int l4)] → FX6_hoursBy_5 B n l1 l2 l3 l4 = some r → Wq E H locs 5 ls [] := by
  intro n
  induction n with
  | zero => intro _ _ _ _ _ _ _ hW hl hF; cases hF
  | succ n ih => intro _ _ _ _ _ _ _ hW hl hF; exact wX6_hoursBy_5s Cx hret ih hW hl hF
def FX6_hoursBy (B : Blk) (l1 : Int32) (l2 : Int32) : Option Int32 :=
  FX6_hoursBy_5 B fu l1 l2 (0 : Int32) (0 : Int32)
set_option maxRecDepth 100000 in
set_option maxHeartbeats 4000000 in
theorem wX6_hoursBy {E : WE} {V : VT} {A : Nat → Prop} {H0 : Heap} {M : Mem} (Cx : CX E RX6 cX6_hoursBy 5 0 0) {r : Int32} {B : Blk} (hret : RetI E V A H0 cX6_hoursBy .int r (jb M 12 B)) {H : Heap} {locs : List Loc} {ls : Array Slot} {l1 : Int32} {l2 : Int32} (hW : Wd V A H0 (jb M 12 B) (eS E) H locs) (hl : lv_has ls 5 [(0, .ref (vA V 12 0)), (1, .int l1), (2, .int l2)]) (hF : FX6_hoursBy B l1 l2 = some r) : Wq E H locs 0 ls [] := by
  unfold FX6_hoursBy at hF
  refine q_iconst (v := (0 : Int32)) Cx dX6_hoursBy_0 (by decide) ?_
  refine q_istore_n (lv' := [(3, .int (0 : Int32)), (0, .ref (vA V 12 0)), (1, .int l1), (2, .int l2)]) Cx dX6_hoursBy_1 rfl hl (by decide) rfl (fun ls hl => ?_)
  refine q_iconst (v := (0 : Int32)) Cx dX6_hoursBy_2 (by decide) ?_
  refine q_istore (lv' := [(4, .int (0 : Int32)), (3, .int (0 : Int32)), (0, .ref (vA V 12 0)), (1, .int l1), (2, .int l2)]) Cx dX6_hoursBy_3 hl (by decide) rfl (fun ls hl => ?_)
  exact wX6_hoursBy_5 Cx hret fu hW (lv_sub hl [2, 3, 4, 1, 0] rfl) hF
set_option maxRecDepth 100000 in
theorem kX6_hoursBy {l : Launch} {V : VT} {M : Mem} {B : Blk} {l1 : Int32} {l2 : Int32} {r : Int32} (hF : FX6_hoursBy B l1 l2 = some r) : MetI l V yX6_hoursBy cX6_hoursBy 5 .int ({ frames := 0, cells := 0, slots := 0, locals := 0 } : Room) [.ref (vA V 12 0), .int l1, .int l2] r (jb M 12 B) (jb M 12 B) := metI_of (by decide) (Nat.le_of_ble_eq_true rfl) (fun E H0 _ Cx hret H locs ls hW hl => wX6_hoursBy Cx hret hW hl hF)
theorem dX6_behind_0 : decode cX6_behind 0 = .ok (.iconst 0, 1) := by decide +kernel
theorem dX6_behind_1 : decode cX6_behind 1 = .ok (.istore_n 2, 1) := by decide +kernel
theorem dX6_behind_2 : decode cX6_behind 2 = .ok (.iconst 0, 1) := by decide +kernel
theorem dX6_behind_3 : decode cX6_behind 3 = .ok (.istore_n 3, 1) := by decide +kernel
theorem dX6_behind_4 : decode cX6_behind 4 = .ok (.iload_n 3, 1) := by decide +kernel
theorem dX6_behind_5 : decode cX6_behind 5 = .ok (.aload_n 0, 1) := by decide +kernel
theorem dX6_behind_6 : decode cX6_behind 6 = .ok (.getfield 7, 3) := by decide +kernel
theorem dX6_behind_9 : decode cX6_behind 9 = .ok (.iconst 0, 1) := by decide +kernel
theorem dX6_behind_10 : decode cX6_behind 10 = .ok (.iaload, 1) := by decide +kernel
theorem dX6_behind_11 : decode cX6_behind 11 = .ok (.if_icmp .ge 88, 3) := by decide +kernel
theorem dX6_behind_14 : decode cX6_behind 14 = .ok (.aload_n 0, 1) := by decide +kernel
theorem dX6_behind_15 : decode cX6_behind 15 = .ok (.getfield 7, 3) := by decide +kernel
theorem dX6_behind_18 : decode cX6_behind 18 = .ok (.iconst 4, 1) := by decide +kernel
theorem dX6_behind_19 : decode cX6_behind 19 = .ok (.iload_n 3, 1) := by decide +kernel
theorem dX6_behind_20 : decode cX6_behind 20 = .ok (.iadd, 1) := by decide +kernel
theorem dX6_behind_21 : decode cX6_behind 21 = .ok (.iaload, 1) := by decide +kernel
theorem dX6_behind_22 : decode cX6_behind 22 = .ok (.aload_n 0, 1) := by decide +kernel
theorem dX6_behind_23 : decode cX6_behind 23 = .ok (.getfield 7, 3) := by decide +kernel
theorem dX6_behind_26 : decode cX6_behind 26 = .ok (.iconst 4, 1) := by decide +kernel
theorem dX6_behind_27 : decode cX6_behind 27 = .ok (.iload_n 1, 1) := by decide +kernel
theorem dX6_behind_28 : decode cX6_behind 28 = .ok (.iadd, 1) := by decide +kernel
theorem dX6_behind_29 : decode cX6_behind 29 = .ok (.iaload, 1) := by decide +kernel
theorem dX6_behind_30 : decode cX6_behind 30 = .ok (.if_icmp .ne 32, 3) := by decide +kernel
theorem dX6_behind_33 : decode cX6_behind 33 = .ok (.aload_n 0, 1) := by decide +kernel
theorem dX6_behind_34 : decode cX6_behind 34 = .ok (.getfield 7, 3) := by decide +kernel
theorem dX6_behind_37 : decode cX6_behind 37 = .ok (.sipush 172, 3) := by decide +kernel
theorem dX6_behind_40 : decode cX6_behind 40 = .ok (.iload_n 3, 1) := by decide +kernel
theorem dX6_behind_41 : decode cX6_behind 41 = .ok (.iadd, 1) := by decide +kernel
theorem dX6_behind_42 : decode cX6_behind 42 = .ok (.iaload, 1) := by decide +kernel
theorem dX6_behind_43 : decode cX6_behind 43 = .ok (.aload_n 0, 1) := by decide +kernel
theorem dX6_behind_44 : decode cX6_behind 44 = .ok (.getfield 7, 3) := by decide +kernel
theorem dX6_behind_47 : decode cX6_behind 47 = .ok (.sipush 172, 3) := by decide +kernel
theorem dX6_behind_50 : decode cX6_behind 50 = .ok (.iload_n 1, 1) := by decide +kernel
theorem dX6_behind_51 : decode cX6_behind 51 = .ok (.iadd, 1) := by decide +kernel
theorem dX6_behind_52 : decode cX6_behind 52 = .ok (.iaload, 1) := by decide +kernel
theorem dX6_behind_53 : decode cX6_behind 53 = .ok (.iconst 1, 1) := by decide +kernel
theorem dX6_behind_54 : decode cX6_behind 54 = .ok (.iadd, 1) := by decide +kernel
theorem dX6_behind_55 : decode cX6_behind 55 = .ok (.if_icmp .ne 7, 3) := by decide +kernel
theorem dX6_behind_58 : decode cX6_behind 58 = .ok (.iconst 1, 1) := by decide +kernel
theorem dX6_behind_59 : decode cX6_behind 59 = .ok (.goto 4, 3) := by decide +kernel
theorem dX6_behind_62 : decode cX6_behind 62 = .ok (.iconst 0, 1) := by decide +kernel
theorem dX6_behind_63 : decode cX6_behind 63 = .ok (.istore 4, 2) := by decide +kernel
theorem dX6_behind_65 : decode cX6_behind 65 = .ok (.iload_n 2, 1) := by decide +kernel
theorem dX6_behind_66 : decode cX6_behind 66 = .ok (.iload 4, 2) := by decide +kernel
theorem dX6_behind_68 : decode cX6_behind 68 = .ok (.ifCond .ne 16, 3) := by decide +kernel
theorem dX6_behind_71 : decode cX6_behind 71 = .ok (.aload_n 0, 1) := by decide +kernel
theorem dX6_behind_72 : decode cX6_behind 72 = .ok (.getfield 7, 3) := by decide +kernel
theorem dX6_behind_75 : decode cX6_behind 75 = .ok (.bipush 100, 2) := by decide +kernel
theorem dX6_behind_77 : decode cX6_behind 77 = .ok (.iload_n 3, 1) := by decide +kernel
theorem dX6_behind_78 : decode cX6_behind 78 = .ok (.iadd, 1) := by decide +kernel
theorem dX6_behind_79 : decode cX6_behind 79 = .ok (.iaload, 1) := by decide +kernel
theorem dX6_behind_80 : decode cX6_behind 80 = .ok (.iload_n 1, 1) := by decide +kernel
theorem dX6_behind_81 : decode cX6_behind 81 = .ok (.if_icmp .ne 9, 3) := by decide +kernel
theorem dX6_behind_84 : decode cX6_behind 84 = .ok (.iconst 1, 1) := by decide +kernel
theorem dX6_behind_85 : decode cX6_behind 85 = .ok (.iload_n 3, 1) := by decide +kernel
theorem dX6_behind_86 : decode cX6_behind 86 = .ok (.ishl, 1) := by decide +kernel
theorem dX6_behind_87 : decode cX6_behind 87 = .ok (.goto 4, 3) := by decide +kernel
theorem dX6_behind_90 : decode cX6_behind 90 = .ok (.iconst 0, 1) := by decide +kernel
theorem dX6_behind_91 : decode cX6_behind 91 = .ok (.ior, 1) := by decide +kernel
theorem dX6_behind_92 : decode cX6_behind 92 = .ok (.istore_n 2, 1) := by decide +kernel
theorem dX6_behind_93 : decode cX6_behind 93 = .ok (.iinc 3 1, 3) := by decide +kernel
theorem dX6_behind_96 : decode cX6_behind 96 = .ok (.goto (-92), 3) := by decide +kernel
theorem dX6_behind_99 : decode cX6_behind 99 = .ok (.iload_n 2, 1) := by decide +kernel
theorem dX6_behind_100 : decode cX6_behind 100 = .ok (.ireturn, 1) := by decide +kernel
theorem okX6_behind : CalOK yX6_behind cX6_behind 5 (some .int) 1 := ⟨wd_73, wd_926, by decide +kernel⟩
theorem ovX6_behind : VirOK yX6_behind := ⟨wd_925, wd_48⟩
def FX6_behind_91 (B : Blk) (k4 : Int32 → Int32 → Int32 → Option Int32) (l1 : Int32) (l3 : Int32) (s0 : Int32) (s1 : Int32) : Option Int32 :=
  lt1 (s1 ||| s0) fun x13 =>
  lt1 (l3 + (1 : Int32)) fun x15 =>
  k4 l1 x13 x15
set_option maxRecDepth 100000 in
set_option maxHeartbeats 4000000 in
theorem wX6_behind_91 {E : WE} {V : VT} {A : Nat → Prop} {H0 : Heap} {M : Mem} (Cx : CX E RX6 cX6_behind 5 0 0) {r : Int32} {B : Blk} (hret : RetI E V A H0 cX6_behind .int r (jb M 12 B)) {k4 : Int32 → Int32 → Int32 → Option Int32} (hk4 : ∀ {H : Heap} {locs : List Loc} {ls : Array Slot} {l1 : Int32} {l2 : Int32} {l3 : Int32}, Wd V A H0 (jb M 12 B) (eS E) H locs → lv_has ls 5 [(0, .ref (vA V 12 0)), (1, .int l1), (2, .int l2), (3, .int l3)] → k4 l1 l2 l3 = some r → Wq E H locs 4 ls []) {H : Heap} {locs : List Loc} {ls : Array Slot} {l1 : Int32} {l3 : Int32} {s0 : Int32} {s1 : Int32} (hW : Wd V A H0 (jb M 12 B) (eS E) H locs) (hl : lv_has ls 5 [(0, .ref (vA V 12 0)), (1, .int l1), (3, .int l3)]) (hF : FX6_behind_91 B k4 l1 l3 s0 s1 = some r) : Wq E H locs 91 ls [.int s0, .int s1] := by
  unfold FX6_behind_91 at hF
  refine q_ior Cx dX6_behind_91 ?_
  obtain ⟨x13, e14, hF⟩ := lt1_some hF
  refine q_topi e14 ?_
  refine q_istore_n (lv' := [(2, .int x13), (0, .ref (vA V 12 0)), (1, .int l1), (3, .int l3)]) Cx dX6_behind_92 rfl hl (by decide) rfl (fun ls hl => ?_)
  obtain ⟨x15, e16, hF⟩ := lt1_some hF
  refine q_iinc (k := 3) (v := x15) (lv' := [(3, .int x15), (2, .int x13), (0, .ref (vA V 12 0)), (1, .int l1)]) Cx dX6_behind_93 hl rfl e16.symm (by decide) rfl (fun ls hl => ?_)
  refine q_goto (tgt := 4) Cx dX6_behind_96 (by decide) ?_
  exact hk4 hW (lv_sub hl [2, 3, 1, 0] rfl) hF
def FX6_behind_84 (B : Blk) (k4 : Int32 → Int32 → Int32 → Option Int32) (l1 : Int32) (l3 : Int32) (s0 : Int32) : Option Int32 :=
  FX6_behind_91 B k4 l1 l3 ((1 : Int32) <<< (l3 &&& 31)) s0
set_option maxRecDepth 100000 in
set_option maxHeartbeats 4000000 in
theorem wX6_behind_84 {E : WE} {V : VT} {A : Nat → Prop} {H0 : Heap} {M : Mem} (Cx : CX E RX6 cX6_behind 5 0 0) {r : Int32} {B : Blk} (hret : RetI E V A H0 cX6_behind .int r (jb M 12 B)) {k4 : Int32 → Int32 → Int32 → Option Int32} (hk4 : ∀ {H : Heap} {locs : List Loc} {ls : Array Slot} {l1 : Int32} {l2 : Int32} {l3 : Int32}, Wd V A H0 (jb M 12 B) (eS E) H locs → lv_has ls 5 [(0, .ref (vA V 12 0)), (1, .int l1), (2, .int l2), (3, .int l3)] → k4 l1 l2 l3 = some r → Wq E H locs 4 ls []) {H : Heap} {locs : List Loc} {ls : Array Slot} {l1 : Int32} {l3 : Int32} {s0 : Int32} (hW : Wd V A H0 (jb M 12 B) (eS E) H locs) (hl : lv_has ls 5 [(0, .ref (vA V 12 0)), (1, .int l1), (3, .int l3)]) (hF : FX6_behind_84 B k4 l1 l3 s0 = some r) : Wq E H locs 84 ls [.int s0] := by
  unfold FX6_behind_84 at hF
  refine q_iconst (v := (1 : Int32)) Cx dX6_behind_84 (by decide) ?_
  refine q_iload_n Cx dX6_behind_85 rfl (lv_at hl 2 rfl) ?_
  refine q_ishl Cx dX6_behind_86 ?_
  refine q_goto (tgt := 91) Cx dX6_behind_87 (by decide) ?_
  exact wX6_behind_91 Cx hret hk4 hW (lv_sub hl [0, 1, 2] rfl) hF
def FX6_behind_63 (B : Blk) (k4 : Int32 → Int32 → Int32 → Option Int32) (l1 : Int32) (l2 : Int32) (l3 : Int32) (s0 : Int32) : Option Int32 :=
  if s0 = 0 then
    ld (B 1) 356 ((100 : Int32) + l3) fun v17 =>
    if v17 = l1 then
      FX6_behind_84 B k4 l1 l3 l2
    else
      FX6_behind_91 B k4 l1 l3 (0 : Int32) l2
  else
    FX6_behind_84 B k4 l1 l3 l2
set_option maxRecDepth 100000 in
set_option maxHeartbeats 4000000 in
theorem wX6_behind_63 {E : WE} {V : VT} {A : Nat → Prop} {H0 : Heap} {M : Mem} (Cx : CX E RX6 cX6_behind 5 0 0) {r : Int32} {B : Blk} (hret : RetI E V A H0 cX6_behind .int r (jb M 12 B)) {k4 : Int32 → Int32 → Int32 → Option Int32} (hk4 : ∀ {H : Heap} {locs : List Loc} {ls : Array Slot} {l1 : Int32} {l2 : Int32} {l3 : Int32}, Wd V A H0 (jb M 12 B) (eS E) H locs → lv_has ls 5 [(0, .ref (vA V 12 0)), (1, .int l1), (2, .int l2), (3, .int l3)] → k4 l1 l2 l3 = some r → Wq E H locs 4 ls []) {H : Heap} {locs : List Loc} {ls : Array Slot} {l1 : Int32} {l2 : Int32} {l3 : Int32} {s0 : Int32} (hW : Wd V A H0 (jb M 12 B) (eS E) H locs) (hl : lv_has ls 5 [(0, .ref (vA V 12 0)), (1, .int l1), (2, .int l2), (3, .int l3)]) (hF : FX6_behind_63 B k4 l1 l2 l3 s0 = some r) : Wq E H locs 63 ls [.int s0] := by
  unfold FX6_behind_63 at hF
  refine q_istore (lv' := [(4, .int s0), (0, .ref (vA V 12 0)), (1, .int l1), (2, .int l2), (3, .int l3)]) Cx dX6_behind_63 hl (by decide) rfl (fun ls hl => ?_)
  refine q_iload_n Cx dX6_behind_65 rfl (lv_at hl 3 rfl) ?_
  refine q_iload Cx dX6_behind_66 (lv_at hl 0 rfl) ?_
  refine q_if_ne (tgt := 84) Cx dX6_behind_68 (by decide) (fun c12 => ?_) (fun c12 => ?_)
  · have hF := (if_neg c12).symm.trans hF
    exact wX6_behind_84 Cx hret hk4 hW (lv_sub hl [1, 2, 4] rfl) hF
  · have hF := (if_pos c12).symm.trans hF
    refine q_aload_n Cx dX6_behind_71 rfl (lv_at hl 1 rfl) ?_
    refine q_get (v := .ref (vA V 12 1)) Cx hW oZ ic6 0 (by decide) rfl wd_714 dX6_behind_72 ?_
    refine q_bipush (v := (100 : Int32)) Cx dX6_behind_75 (by decide) ?_
    refine q_iload_n Cx dX6_behind_77 rfl (lv_at hl 4 rfl) ?_
    refine q_iadd Cx dX6_behind_78 ?_
    obtain ⟨h18, v17, e19, hF⟩ := ld_some hF
    refine qb_iald Cx hW az_1 h18 e19 dX6_behind_79 ?_
    refine q_iload_n Cx dX6_behind_80 rfl (lv_at hl 2 rfl) ?_
    refine q_icmp_ne (tgt := 90) Cx dX6_behind_81 (by decide) (fun c20 => ?_) (fun c20 => ?_)
    · have hF := (if_neg c20).symm.trans hF
      refine q_iconst (v := (0 : Int32)) Cx dX6_behind_90 (by decide) ?_
      exact wX6_behind_91 Cx hret hk4 hW (lv_sub hl [1, 2, 4] rfl) hF
    · have hF := (if_pos c20).symm.trans hF
      exact wX6_behind_84 Cx hret hk4 hW (lv_sub hl [1, 2, 4] rfl) hF
def FX6_behind_62 (B : Blk) (k4 : Int32 → Int32 → Int32 → Option Int32) (l1 : Int32) (l2 : Int32) (l3 : Int32) : Option Int32 :=
  FX6_behind_63 B k4 l1 l2 l3 (0 : Int32)
set_option maxRecDepth 100000 in
set_option maxHeartbeats 4000000 in
theorem wX6_behind_62 {E : WE} {V : VT} {A : Nat → Prop} {H0 : Heap} {M : Mem} (Cx : CX E RX6 cX6_behind 5 0 0) {r : Int32} {B : Blk} (hret : RetI E V A H0 cX6_behind .int r (jb M 12 B)) {k4 : Int32 → Int32 → Int32 → Option Int32} (hk4 : ∀ {H : Heap} {locs : List Loc} {ls : Array Slot} {l1 : Int32} {l2 : Int32} {l3 : Int32}, Wd V A H0 (jb M 12 B) (eS E) H locs → lv_has ls 5 [(0, .ref (vA V 12 0)), (1, .int l1), (2, .int l2), (3, .int l3)] → k4 l1 l2 l3 = some r → Wq E H locs 4 ls []) {H : Heap} {locs : List Loc} {ls : Array Slot} {l1 : Int32} {l2 : Int32} {l3 : Int32} (hW : Wd V A H0 (jb M 12 B) (eS E) H locs) (hl : lv_has ls 5 [(0, .ref (vA V 12 0)), (1, .int l1), (2, .int l2), (3, .int l3)]) (hF : FX6_behind_62 B k4 l1 l2 l3 = some r) : Wq E H locs 62 ls [] := by
  unfold FX6_behind_62 at hF
  refine q_iconst (v := (0 : Int32)) Cx dX6_behind_62 (by decide) ?_
  exact wX6_behind_63 Cx hret hk4 hW (lv_sub hl [0, 1, 2, 3] rfl) hF
def FX6_behind_4s (B : Blk) (k4 : Int32 → Int32 → Int32 → Option Int32) (l1 : Int32) (l2 : Int32) (l3 : Int32) : Option Int32 :=
  ld (B 1) 356 (0 : Int32) fun v1 =>
  if v1 ≤ l3 then
    some l2
  else
    ld (B 1) 356 ((4 : Int32) + l3) fun v5 =>
    ld (B 1) 356 ((4 : Int32) + l1) fun v8 =>
    if v5 = v8 then
      ld (B 1) 356 ((172 : Int32) + l3) fun v21 =>
      ld (B 1) 356 ((172 : Int32) + l1) fun v24 =>
      if v21 = (v24 + (1 : Int32)) then
        FX6_behind_63 B k4 l1 l2 l3 (1 : Int32)
      else
        FX6_behind_62 B k4 l1 l2 l3
    else
      FX6_behind_62 B k4 l1 l2 l3
set_option maxRecDepth 100000 in
set_option maxHeartbeats 4000000 in
theorem wX6_behind_4s {E : WE} {V : VT} {A : Nat → Prop} {H0 : Heap} {M : Mem} (Cx : CX E RX6 cX6_behind 5 0 0) {r : Int32} {B : Blk} (hret : RetI E V A H0 cX6_behind .int r (jb M 12 B)) {k4 : Int32 → Int32 → Int32 → Option Int32} (hk4 : ∀ {H : Heap} {locs : List Loc} {ls : Array Slot} {l1 : Int32} {l2 : Int32} {l3 : Int32}, Wd V A H0 (jb M 12 B) (eS E) H locs → lv_has ls 5 [(0, .ref (vA V 12 0)), (1, .int l1), (2, .int l2), (3, .int l3)] → k4 l1 l2 l3 = some r → Wq E H locs 4 ls []) {H : Heap} {locs : List Loc} {ls : Array Slot} {l1 : Int32} {l2 : Int32} {l3 : Int32} (hW : Wd V A H0 (jb M 12 B) (eS E) H locs) (hl : lv_has ls 5 [(0, .ref (vA V 12 0)), (1, .int l1), (2, .int l2), (3, .int l3)]) (hF : FX6_behind_4s B k4 l1 l2 l3 = some r) : Wq E H locs 4 ls [] := by
  unfold FX6_behind_4s at hF
  refine q_iload_n Cx dX6_behind_4 rfl (lv_at hl 3 rfl) ?_
  refine q_aload_n Cx dX6_behind_5 rfl (lv_at hl 0 rfl) ?_
  refine q_get (v := .ref (vA V 12 1)) Cx hW oZ ic6 0 (by decide) rfl wd_714 dX6_behind_6 ?_
  refine q_iconst (v := (0 : Int32)) Cx dX6_behind_9 (by decide) ?_
  obtain ⟨h2, v1, e3, hF⟩ := ld_some hF
  refine qb_iald Cx hW az_1 h2 e3 dX6_behind_10 ?_
  refine q_icmp_ge (tgt := 99) Cx dX6_behind_11 (by decide) (fun c4 => ?_) (fun c4 => ?_)
  · have hF := (if_pos c4).symm.trans hF
    refine q_iload_n Cx dX6_behind_99 rfl (lv_at hl 2 rfl) ?_
    obtain rfl := Option.some.inj hF
    exact hret _ _ _ _ dX6_behind_100 (nI32 _) hW
  · have hF := (if_neg c4).symm.trans hF
    refine q_aload_n Cx dX6_behind_14 rfl (lv_at hl 0 rfl) ?_
    refine q_get (v := .ref (vA V 12 1)) Cx hW oZ ic6 0 (by decide) rfl wd_714 dX6_behind_15 ?_
    refine q_iconst (v := (4 : Int32)) Cx dX6_behind_18 (by decide) ?_
    refine q_iload_n Cx dX6_behind_19 rfl (lv_at hl 3 rfl) ?_
    refine q_iadd Cx dX6_behind_20 ?_
    obtain ⟨h6, v5, e7, hF⟩ := ld_some hF
    refine qb_iald Cx hW az_1 h6 e7 dX6_behind_21 ?_
    refine q_aload_n Cx dX6_behind_22 rfl (lv_at hl 0 rfl) ?_
    refine q_get (v := .ref (vA V 12 1)) Cx hW oZ ic6 0 (by decide) rfl wd_714 dX6_behind_23 ?_
    refine q_iconst (v := (4 : Int32)) Cx dX6_behind_26 (by decide) ?_
    refine q_iload_n Cx dX6_behind_27 rfl (lv_at hl 1 rfl) ?_
    refine q_iadd Cx dX6_behind_28 ?_
    obtain ⟨h9, v8, e10, hF⟩ := ld_some hF
    refine qb_iald Cx hW az_1 h9 e10 dX6_behind_29 ?_
    refine q_icmp_ne (tgt := 62) Cx dX6_behind_30 (by decide) (fun c11 => ?_) (fun c11 => ?_)
    · have hF := (if_neg c11).symm.trans hF
      exact wX6_behind_62 Cx hret hk4 hW (lv_sub hl [0, 1, 2, 3] rfl) hF
    · have hF := (if_pos c11).symm.trans hF
      refine q_aload_n Cx dX6_behind_33 rfl (lv_at hl 0 rfl) ?_
      refine q_get (v := .ref (vA V 12 1)) Cx hW oZ ic6 0 (by decide) rfl wd_714 dX6_behind_34 ?_
      refine q_sipush (v := (172 : Int32)) Cx dX6_behind_37 (by decide) ?_
      refine q_iload_n Cx dX6_behind_40 rfl (lv_at hl 3 rfl) ?_
      refine q_iadd Cx dX6_behind_41 ?_
      obtain ⟨h22, v21, e23, hF⟩ := ld_some hF
      refine qb_iald Cx hW az_1 h22 e23 dX6_behind_42 ?_
      refine q_aload_n Cx dX6_behind_43 rfl (lv_at hl 0 rfl) ?_
      refine q_get (v := .ref (vA V 12 1)) Cx hW oZ ic6 0 (by decide) rfl wd_714 dX6_behind_44 ?_
      refine q_sipush (v := (172 : Int32)) Cx dX6_behind_47 (by decide) ?_
      refine q_iload_n Cx dX6_behind_50 rfl (lv_at hl 1 rfl) ?_
      refine q_iadd Cx dX6_behind_51 ?_
      obtain ⟨h25, v24, e26, hF⟩ := ld_some hF
      refine qb_iald Cx hW az_1 h25 e26 dX6_behind_52 ?_
      refine q_iconst (v := (1 : Int32)) Cx dX6_behind_53 (by decide) ?_
      refine q_iadd Cx dX6_behind_54 ?_
      refine q_icmp_ne (tgt := 62) Cx dX6_behind_55 (by decide) (fun c27 => ?_) (fun c27 => ?_)
      · have hF := (if_neg c27).symm.trans hF
        exact wX6_behind_62 Cx hret hk4 hW (lv_sub hl [0, 1, 2, 3] rfl) hF
      · have hF := (if_pos c27).symm.trans hF
        refine q_iconst (v := (1 : Int32)) Cx dX6_behind_58 (by decide) ?_
        refine q_goto (tgt := 63) Cx dX6_behind_59 (by decide) ?_
        exact wX6_behind_63 Cx hret hk4 hW (lv_sub hl [0, 1, 2, 3] rfl) hF
def FX6_behind_4 (B : Blk) : Nat → Int32 → Int32 → Int32 → Option Int32
  | 0 => fun _ _ _ => none
  | n + 1 => FX6_behind_4s B (FX6_behind_4 B n)
set_option maxRecDepth 100000 in
theorem wX6_behind_4 {E : WE} {V : VT} {A : Nat → Prop} {H0 : Heap} {M : Mem} (Cx : CX E RX6 cX6_behind 5 0 0) {r : Int32} {B : Blk} (hret : RetI E V A H0 cX6_behind .int r (jb M 12 B)) : ∀ (n : Nat) {H : Heap} {locs : List Loc} {ls : Array Slot} {l1 : Int32} {l2 : Int32} {l3 : Int32}, Wd V A H0 (jb M 12 B) (eS E) H locs → lv_has ls 5 [(0, .ref (vA V 12 0)), (1, .int l1), (2, .int l2), (3, .int l3)] → FX6_behind_4 B n l1 l2 l3 = some r → Wq E H locs 4 ls [] := by
  intro n
  induction n with
  | zero => intro _ _ _ _ _ _ hW hl hF; cases hF
  | succ n ih => intro _ _ _ _ _ _ hW hl hF; exact wX6_behind_4s Cx hret ih hW hl hF
def FX6_behind (B : Blk) (l1 : Int32) : Option Int32 :=
  FX6_behind_4 B fu l1 (0 : Int32) (0 : Int32)
set_option maxRecDepth 100000 in
set_option maxHeartbeats 4000000 in
theorem wX6_behind {E : WE} {V : VT} {A : Nat → Prop} {H0 : Heap} {M : Mem} (Cx : CX E RX6 cX6_behind 5 0 0) {r : Int32} {B : Blk} (hret : RetI E V A H0 cX6_behind .int r (jb M 12 B)) {H : Heap} {locs : List Loc} {ls : Array Slot} {l1 : Int32} (hW : Wd V A H0 (jb M 12 B) (eS E) H locs) (hl : lv_has ls 5 [(0, .ref (vA V 12 0)), (1, .int l1)]) (hF : FX6_behind B l1 = some r) : Wq E H locs 0 ls [] := by
  unfold FX6_behind at hF
  refine q_iconst (v := (0 : Int32)) Cx dX6_behind_0 (by decide) ?_
  refine q_istore_n (lv' := [(2, .int (0 : Int32)), (0, .ref (vA V 12 0)), (1, .int l1)]) Cx dX6_behind_1 rfl hl (by decide) rfl (fun ls hl => ?_)
  refine q_iconst (v := (0 : Int32)) Cx dX6_behind_2 (by decide) ?_
  refine q_istore_n (lv' := [(3, .int (0 : Int32)), (2, .int (0 : Int32)), (0, .ref (vA V 12 0)), (1, .int l1)]) Cx dX6_behind_3 rfl hl (by decide) rfl (fun ls hl => ?_)
  exact wX6_behind_4 Cx hret fu hW (lv_sub hl [2, 3, 1, 0] rfl) hF
set_option maxRecDepth 100000 in
theorem kX6_behind {l : Launch} {V : VT} {M : Mem} {B : Blk} {l1 : Int32} {r : Int32} (hF : FX6_behind B l1 = some r) : MetI l V yX6_behind cX6_behind 5 .int ({ frames := 0, cells := 0, slots := 0, locals := 0 } : Room) [.ref (vA V 12 0), .int l1] r (jb M 12 B) (jb M 12 B) := metI_of (by decide) (Nat.le_of_ble_eq_true rfl) (fun E H0 _ Cx hret H locs ls hW hl => wX6_behind Cx hret hW hl hF)
theorem dX6_ofTask_0 : decode cX6_ofTask 0 = .ok (.aload_n 0, 1) := by decide +kernel
theorem dX6_ofTask_1 : decode cX6_ofTask 1 = .ok (.iload_n 1, 1) := by decide +kernel
theorem dX6_ofTask_2 : decode cX6_ofTask 2 = .ok (.invokevirtual 89, 3) := by decide +kernel
theorem dX6_ofTask_5 : decode cX6_ofTask 5 = .ok (.ifCond .ne 5, 3) := by decide +kernel
theorem dX6_ofTask_8 : decode cX6_ofTask 8 = .ok (.iconst (-1), 1) := by decide +kernel
theorem dX6_ofTask_9 : decode cX6_ofTask 9 = .ok (.ireturn, 1) := by decide +kernel
theorem dX6_ofTask_10 : decode cX6_ofTask 10 = .ok (.iload_n 2, 1) := by decide +kernel
theorem dX6_ofTask_11 : decode cX6_ofTask 11 = .ok (.iconst 0, 1) := by decide +kernel
theorem dX6_ofTask_12 : decode cX6_ofTask 12 = .ok (.bipush 13, 2) := by decide +kernel
theorem dX6_ofTask_14 : decode cX6_ofTask 14 = .ok (.invokestatic 56, 3) := by decide +kernel
theorem dX6_ofTask_17 : decode cX6_ofTask 17 = .ok (.ifCond .ne 6, 3) := by decide +kernel
theorem dX6_ofTask_20 : decode cX6_ofTask 20 = .ok (.bipush (-2), 2) := by decide +kernel
theorem dX6_ofTask_22 : decode cX6_ofTask 22 = .ok (.ireturn, 1) := by decide +kernel
theorem dX6_ofTask_23 : decode cX6_ofTask 23 = .ok (.aload_n 0, 1) := by decide +kernel
theorem dX6_ofTask_24 : decode cX6_ofTask 24 = .ok (.invokevirtual 77, 3) := by decide +kernel
theorem dX6_ofTask_27 : decode cX6_ofTask 27 = .ok (.pop, 1) := by decide +kernel
theorem dX6_ofTask_28 : decode cX6_ofTask 28 = .ok (.iload_n 2, 1) := by decide +kernel
theorem dX6_ofTask_29 : decode cX6_ofTask 29 = .ok (.tableswitch 178 0 12 #[67, 76, 86, 96, 107, 114, 121, 127, 133, 139, 149, 160, 169], 67) := by decide +kernel
theorem dX6_ofTask_96 : decode cX6_ofTask 96 = .ok (.aload_n 0, 1) := by decide +kernel
theorem dX6_ofTask_97 : decode cX6_ofTask 97 = .ok (.getfield 7, 3) := by decide +kernel
theorem dX6_ofTask_100 : decode cX6_ofTask 100 = .ok (.iconst 4, 1) := by decide +kernel
theorem dX6_ofTask_101 : decode cX6_ofTask 101 = .ok (.iload_n 1, 1) := by decide +kernel
theorem dX6_ofTask_102 : decode cX6_ofTask 102 = .ok (.iadd, 1) := by decide +kernel
theorem dX6_ofTask_103 : decode cX6_ofTask 103 = .ok (.iaload, 1) := by decide +kernel
theorem dX6_ofTask_104 : decode cX6_ofTask 104 = .ok (.ireturn, 1) := by decide +kernel
theorem dX6_ofTask_105 : decode cX6_ofTask 105 = .ok (.aload_n 0, 1) := by decide +kernel
theorem dX6_ofTask_106 : decode cX6_ofTask 106 = .ok (.getfield 7, 3) := by decide +kernel
theorem dX6_ofTask_109 : decode cX6_ofTask 109 = .ok (.bipush 28, 2) := by decide +kernel
theorem dX6_ofTask_111 : decode cX6_ofTask 111 = .ok (.iload_n 1, 1) := by decide +kernel
theorem dX6_ofTask_112 : decode cX6_ofTask 112 = .ok (.iadd, 1) := by decide +kernel
theorem dX6_ofTask_113 : decode cX6_ofTask 113 = .ok (.iaload, 1) := by decide +kernel
theorem dX6_ofTask_114 : decode cX6_ofTask 114 = .ok (.ireturn, 1) := by decide +kernel
theorem dX6_ofTask_115 : decode cX6_ofTask 115 = .ok (.aload_n 0, 1) := by decide +kernel
theorem dX6_ofTask_116 : decode cX6_ofTask 116 = .ok (.getfield 7, 3) := by decide +kernel
theorem dX6_ofTask_119 : decode cX6_ofTask 119 = .ok (.bipush 100, 2) := by decide +kernel
theorem dX6_ofTask_121 : decode cX6_ofTask 121 = .ok (.iload_n 1, 1) := by decide +kernel
theorem dX6_ofTask_122 : decode cX6_ofTask 122 = .ok (.iadd, 1) := by decide +kernel
theorem dX6_ofTask_123 : decode cX6_ofTask 123 = .ok (.iaload, 1) := by decide +kernel
theorem dX6_ofTask_124 : decode cX6_ofTask 124 = .ok (.ireturn, 1) := by decide +kernel
theorem dX6_ofTask_125 : decode cX6_ofTask 125 = .ok (.aload_n 0, 1) := by decide +kernel
theorem dX6_ofTask_126 : decode cX6_ofTask 126 = .ok (.getfield 7, 3) := by decide +kernel
theorem dX6_ofTask_129 : decode cX6_ofTask 129 = .ok (.sipush 172, 3) := by decide +kernel
theorem dX6_ofTask_132 : decode cX6_ofTask 132 = .ok (.iload_n 1, 1) := by decide +kernel
theorem dX6_ofTask_133 : decode cX6_ofTask 133 = .ok (.iadd, 1) := by decide +kernel
theorem dX6_ofTask_134 : decode cX6_ofTask 134 = .ok (.iaload, 1) := by decide +kernel
theorem dX6_ofTask_135 : decode cX6_ofTask 135 = .ok (.ireturn, 1) := by decide +kernel
theorem dX6_ofTask_136 : decode cX6_ofTask 136 = .ok (.aload_n 0, 1) := by decide +kernel
theorem dX6_ofTask_137 : decode cX6_ofTask 137 = .ok (.getfield 30, 3) := by decide +kernel
theorem dX6_ofTask_140 : decode cX6_ofTask 140 = .ok (.iload_n 1, 1) := by decide +kernel
theorem dX6_ofTask_141 : decode cX6_ofTask 141 = .ok (.iaload, 1) := by decide +kernel
theorem dX6_ofTask_142 : decode cX6_ofTask 142 = .ok (.ireturn, 1) := by decide +kernel
theorem dX6_ofTask_143 : decode cX6_ofTask 143 = .ok (.aload_n 0, 1) := by decide +kernel
theorem dX6_ofTask_144 : decode cX6_ofTask 144 = .ok (.getfield 33, 3) := by decide +kernel
theorem dX6_ofTask_147 : decode cX6_ofTask 147 = .ok (.iload_n 1, 1) := by decide +kernel
theorem dX6_ofTask_148 : decode cX6_ofTask 148 = .ok (.iaload, 1) := by decide +kernel
theorem dX6_ofTask_149 : decode cX6_ofTask 149 = .ok (.ireturn, 1) := by decide +kernel
theorem dX6_ofTask_150 : decode cX6_ofTask 150 = .ok (.aload_n 0, 1) := by decide +kernel
theorem dX6_ofTask_151 : decode cX6_ofTask 151 = .ok (.iload_n 1, 1) := by decide +kernel
theorem dX6_ofTask_152 : decode cX6_ofTask 152 = .ok (.invokevirtual 74, 3) := by decide +kernel
theorem dX6_ofTask_155 : decode cX6_ofTask 155 = .ok (.ireturn, 1) := by decide +kernel
theorem dX6_ofTask_156 : decode cX6_ofTask 156 = .ok (.aload_n 0, 1) := by decide +kernel
theorem dX6_ofTask_157 : decode cX6_ofTask 157 = .ok (.iload_n 1, 1) := by decide +kernel
theorem dX6_ofTask_158 : decode cX6_ofTask 158 = .ok (.invokevirtual 114, 3) := by decide +kernel
theorem dX6_ofTask_161 : decode cX6_ofTask 161 = .ok (.ireturn, 1) := by decide +kernel
theorem dX6_ofTask_162 : decode cX6_ofTask 162 = .ok (.aload_n 0, 1) := by decide +kernel
theorem dX6_ofTask_163 : decode cX6_ofTask 163 = .ok (.iload_n 1, 1) := by decide +kernel
theorem dX6_ofTask_164 : decode cX6_ofTask 164 = .ok (.invokevirtual 139, 3) := by decide +kernel
theorem dX6_ofTask_167 : decode cX6_ofTask 167 = .ok (.ireturn, 1) := by decide +kernel
theorem dX6_ofTask_168 : decode cX6_ofTask 168 = .ok (.aload_n 0, 1) := by decide +kernel
theorem dX6_ofTask_169 : decode cX6_ofTask 169 = .ok (.getfield 7, 3) := by decide +kernel
theorem dX6_ofTask_172 : decode cX6_ofTask 172 = .ok (.bipush 124, 2) := by decide +kernel
theorem dX6_ofTask_174 : decode cX6_ofTask 174 = .ok (.iload_n 1, 1) := by decide +kernel
theorem dX6_ofTask_175 : decode cX6_ofTask 175 = .ok (.iadd, 1) := by decide +kernel
theorem dX6_ofTask_176 : decode cX6_ofTask 176 = .ok (.iaload, 1) := by decide +kernel
theorem dX6_ofTask_177 : decode cX6_ofTask 177 = .ok (.ireturn, 1) := by decide +kernel
theorem dX6_ofTask_178 : decode cX6_ofTask 178 = .ok (.aload_n 0, 1) := by decide +kernel
theorem dX6_ofTask_179 : decode cX6_ofTask 179 = .ok (.getfield 7, 3) := by decide +kernel
theorem dX6_ofTask_182 : decode cX6_ofTask 182 = .ok (.sipush 148, 3) := by decide +kernel
theorem dX6_ofTask_185 : decode cX6_ofTask 185 = .ok (.iload_n 1, 1) := by decide +kernel
theorem dX6_ofTask_186 : decode cX6_ofTask 186 = .ok (.iadd, 1) := by decide +kernel
theorem dX6_ofTask_187 : decode cX6_ofTask 187 = .ok (.iaload, 1) := by decide +kernel
theorem dX6_ofTask_188 : decode cX6_ofTask 188 = .ok (.ireturn, 1) := by decide +kernel
theorem dX6_ofTask_189 : decode cX6_ofTask 189 = .ok (.aload_n 0, 1) := by decide +kernel
theorem dX6_ofTask_190 : decode cX6_ofTask 190 = .ok (.sipush 196, 3) := by decide +kernel
theorem dX6_ofTask_193 : decode cX6_ofTask 193 = .ok (.iload_n 1, 1) := by decide +kernel
theorem dX6_ofTask_194 : decode cX6_ofTask 194 = .ok (.invokevirtual 142, 3) := by decide +kernel
theorem dX6_ofTask_197 : decode cX6_ofTask 197 = .ok (.ireturn, 1) := by decide +kernel
theorem dX6_ofTask_198 : decode cX6_ofTask 198 = .ok (.aload_n 0, 1) := by decide +kernel
theorem dX6_ofTask_199 : decode cX6_ofTask 199 = .ok (.sipush 236, 3) := by decide +kernel
theorem dX6_ofTask_202 : decode cX6_ofTask 202 = .ok (.iload_n 1, 1) := by decide +kernel
theorem dX6_ofTask_203 : decode cX6_ofTask 203 = .ok (.invokevirtual 142, 3) := by decide +kernel
theorem dX6_ofTask_206 : decode cX6_ofTask 206 = .ok (.ireturn, 1) := by decide +kernel
theorem dX6_ofTask_207 : decode cX6_ofTask 207 = .ok (.aload_n 0, 1) := by decide +kernel
theorem dX6_ofTask_208 : decode cX6_ofTask 208 = .ok (.iload_n 1, 1) := by decide +kernel
theorem dX6_ofTask_209 : decode cX6_ofTask 209 = .ok (.invokevirtual 145, 3) := by decide +kernel
theorem dX6_ofTask_212 : decode cX6_ofTask 212 = .ok (.ireturn, 1) := by decide +kernel
theorem okX6_ofTask : CalOK yX6_ofTask cX6_ofTask 3 (some .int) 2 := ⟨wd_73, wd_906, by decide +kernel⟩
theorem ovX6_ofTask : VirOK yX6_ofTask := ⟨wd_904, wd_905⟩
def FX6_ofTask (B : Blk) (l1 : Int32) (l2 : Int32) : Option (Int32 × Blk) :=
  c1 (FX6_isTask B l1) fun r1 =>
  if r1 = 0 then
    some ((-1 : Int32), B)
  else
    c1 (FX6_in l2 (0 : Int32) (13 : Int32)) fun r4 =>
    if r4 = 0 then
      some ((-2 : Int32), B)
    else
      c2 (FX6_reckon B) fun r7 B9 =>
      if l2 = (0 : Int32) then
        ld (B9 1) 356 ((4 : Int32) + l1) fun v11 =>
        some (v11, B9)
      else
        if l2 = (1 : Int32) then
          ld (B9 1) 356 ((28 : Int32) + l1) fun v15 =>
          some (v15, B9)
        else
          if l2 = (2 : Int32) then
            ld (B9 1) 356 ((100 : Int32) + l1) fun v19 =>
            some (v19, B9)
          else
            if l2 = (3 : Int32) then
              ld (B9 1) 356 ((172 : Int32) + l1) fun v23 =>
              some (v23, B9)
            else
              if l2 = (4 : Int32) then
                ld (B9 7) 24 l1 fun v27 =>
                some (v27, B9)
              else
                if l2 = (5 : Int32) then
                  ld (B9 8) 24 l1 fun v31 =>
                  some (v31, B9)
                else
                  if l2 = (6 : Int32) then
                    c1 (FX6_late B9 l1) fun r35 =>
                    some (r35, B9)
                  else
                    if l2 = (7 : Int32) then
                      c1 (FX6_spared B9 l1) fun r38 =>
                      some (r38, B9)
                    else
                      if l2 = (8 : Int32) then
                        c2 (FX6_slack B9 l1) fun r41 B43 =>
                        some (r41, B43)
                      else
                        if l2 = (9 : Int32) then
                          ld (B9 1) 356 ((124 : Int32) + l1) fun v45 =>
                          some (v45, B9)
                        else
                          if l2 = (10 : Int32) then
                            ld (B9 1) 356 ((148 : Int32) + l1) fun v49 =>
                            some (v49, B9)
                          else
                            if l2 = (11 : Int32) then
                              c1 (FX6_hoursBy B9 (196 : Int32) l1) fun r53 =>
                              some (r53, B9)
                            else
                              if l2 = (12 : Int32) then
                                c1 (FX6_hoursBy B9 (236 : Int32) l1) fun r56 =>
                                some (r56, B9)
                              else
                                c1 (FX6_behind B9 l1) fun r58 =>
                                some (r58, B9)
set_option maxRecDepth 100000 in
set_option maxHeartbeats 4000000 in
theorem wX6_ofTask {E : WE} {V : VT} {A : Nat → Prop} {H0 : Heap} {M : Mem} (Cx : CX E RX6 cX6_ofTask 3 4 99) {r : Int32} {B' : Blk} (hret : RetI E V A H0 cX6_ofTask .int r (jb M 12 B')) {H : Heap} {locs : List Loc} {ls : Array Slot} {l1 : Int32} {l2 : Int32} {B : Blk} (hW : Wd V A H0 (jb M 12 B) (eS E) H locs) (hl : lv_has ls 3 [(0, .ref (vA V 12 0)), (1, .int l1), (2, .int l2)]) (hF : FX6_ofTask B l1 l2 = some (r, B')) : Wq E H locs 0 ls [] := by
  unfold FX6_ofTask at hF
  refine q_aload_n Cx dX6_ofTask_0 rfl (lv_at hl 0 rfl) ?_
  refine q_iload_n Cx dX6_ofTask_1 rfl (lv_at hl 1 rfl) ?_
  obtain ⟨r1, e2, hF⟩ := c1_some hF
  refine q_callI (as := [.int l1]) (rest := []) Cx (kX6_isTask e2) okX6_isTask ovX6_isTask wd_799 ⟨rfl, rfl, by decide, by decide⟩ hW oZ ic6 rfl hl.1 (Nat.le_of_ble_eq_true rfl) rfl dX6_ofTask_2 (fun H locs hW => ?_)
  refine q_if_ne (tgt := 10) Cx dX6_ofTask_5 (by decide) (fun c3 => ?_) (fun c3 => ?_)
  · have hF := (if_neg c3).symm.trans hF
    refine q_iload_n Cx dX6_ofTask_10 rfl (lv_at hl 2 rfl) ?_
    refine q_iconst (v := (0 : Int32)) Cx dX6_ofTask_11 (by decide) ?_
    refine q_bipush (v := (13 : Int32)) Cx dX6_ofTask_12 (by decide) ?_
    obtain ⟨r4, e5, hF⟩ := c1_some hF
    refine q_callSI (as := [.int l2, .int (0 : Int32), .int (13 : Int32)]) (rest := []) Cx (kX6_in e5) okX6_in osX6_in rfl wd_780 ⟨rfl, rfl, by decide, by decide⟩ hW rfl hl.1 (Nat.le_of_ble_eq_true rfl) rfl dX6_ofTask_14 (fun H locs hW => ?_)
    refine q_if_ne (tgt := 23) Cx dX6_ofTask_17 (by decide) (fun c6 => ?_) (fun c6 => ?_)
    · have hF := (if_neg c6).symm.trans hF
      refine q_aload_n Cx dX6_ofTask_23 rfl (lv_at hl 0 rfl) ?_
      obtain ⟨r7, B9, e8, hF⟩ := c2_some hF
      refine q_callI (as := []) (rest := []) Cx (kX6_reckon e8) okX6_reckon ovX6_reckon wd_820 ⟨rfl, rfl, by decide, by decide⟩ hW oZ ic6 rfl hl.1 (Nat.le_of_ble_eq_true rfl) rfl dX6_ofTask_24 (fun H locs hW => ?_)
      refine q_pop Cx dX6_ofTask_27 rfl ?_
      refine q_iload_n Cx dX6_ofTask_28 rfl (lv_at hl 2 rfl) ?_
      by_cases c10 : l2 = (0 : Int32)
      · have hF := (if_pos c10).symm.trans hF
        refine q_tableIn (tgt := 96) Cx dX6_ofTask_29 (by rw [c10]; decide) (by rw [c10]; decide) (ho := by rw [c10]; rfl) (by decide) ?_
        refine q_aload_n Cx dX6_ofTask_96 rfl (lv_at hl 0 rfl) ?_
        refine q_get (v := .ref (vA V 12 1)) Cx hW oZ ic6 0 (by decide) rfl wd_714 dX6_ofTask_97 ?_
        refine q_iconst (v := (4 : Int32)) Cx dX6_ofTask_100 (by decide) ?_
        refine q_iload_n Cx dX6_ofTask_101 rfl (lv_at hl 1 rfl) ?_
        refine q_iadd Cx dX6_ofTask_102 ?_
        obtain ⟨h12, v11, e13, hF⟩ := ld_some hF
        refine qb_iald Cx hW az_1 h12 e13 dX6_ofTask_103 ?_
        obtain ⟨rfl, rfl⟩ := Prod.mk.inj (Option.some.inj hF)
        exact hret _ _ _ _ dX6_ofTask_104 (nI32 _) hW
      · have hF := (if_neg c10).symm.trans hF
        by_cases c14 : l2 = (1 : Int32)
        · have hF := (if_pos c14).symm.trans hF
          refine q_tableIn (tgt := 105) Cx dX6_ofTask_29 (by rw [c14]; decide) (by rw [c14]; decide) (ho := by rw [c14]; rfl) (by decide) ?_
          refine q_aload_n Cx dX6_ofTask_105 rfl (lv_at hl 0 rfl) ?_
          refine q_get (v := .ref (vA V 12 1)) Cx hW oZ ic6 0 (by decide) rfl wd_714 dX6_ofTask_106 ?_
          refine q_bipush (v := (28 : Int32)) Cx dX6_ofTask_109 (by decide) ?_
          refine q_iload_n Cx dX6_ofTask_111 rfl (lv_at hl 1 rfl) ?_
          refine q_iadd Cx dX6_ofTask_112 ?_
          obtain ⟨h16, v15, e17, hF⟩ := ld_some hF
          refine qb_iald Cx hW az_1 h16 e17 dX6_ofTask_113 ?_
          obtain ⟨rfl, rfl⟩ := Prod.mk.inj (Option.some.inj hF)
          exact hret _ _ _ _ dX6_ofTask_114 (nI32 _) hW
        · have hF := (if_neg c14).symm.trans hF
          by_cases c18 : l2 = (2 : Int32)
          · have hF := (if_pos c18).symm.trans hF
            refine q_tableIn (tgt := 115) Cx dX6_ofTask_29 (by rw [c18]; decide) (by rw [c18]; decide) (ho := by rw [c18]; rfl) (by decide) ?_
            refine q_aload_n Cx dX6_ofTask_115 rfl (lv_at hl 0 rfl) ?_
            refine q_get (v := .ref (vA V 12 1)) Cx hW oZ ic6 0 (by decide) rfl wd_714 dX6_ofTask_116 ?_
            refine q_bipush (v := (100 : Int32)) Cx dX6_ofTask_119 (by decide) ?_
            refine q_iload_n Cx dX6_ofTask_121 rfl (lv_at hl 1 rfl) ?_
            refine q_iadd Cx dX6_ofTask_122 ?_
            obtain ⟨h20, v19, e21, hF⟩ := ld_some hF
            refine qb_iald Cx hW az_1 h20 e21 dX6_ofTask_123 ?_
            obtain ⟨rfl, rfl⟩ := Prod.mk.inj (Option.some.inj hF)
            exact hret _ _ _ _ dX6_ofTask_124 (nI32 _) hW
          · have hF := (if_neg c18).symm.trans hF
            by_cases c22 : l2 = (3 : Int32)
            · have hF := (if_pos c22).symm.trans hF
              refine q_tableIn (tgt := 125) Cx dX6_ofTask_29 (by rw [c22]; decide) (by rw [c22]; decide) (ho := by rw [c22]; rfl) (by decide) ?_
              refine q_aload_n Cx dX6_ofTask_125 rfl (lv_at hl 0 rfl) ?_
              refine q_get (v := .ref (vA V 12 1)) Cx hW oZ ic6 0 (by decide) rfl wd_714 dX6_ofTask_126 ?_
              refine q_sipush (v := (172 : Int32)) Cx dX6_ofTask_129 (by decide) ?_
              refine q_iload_n Cx dX6_ofTask_132 rfl (lv_at hl 1 rfl) ?_
              refine q_iadd Cx dX6_ofTask_133 ?_
              obtain ⟨h24, v23, e25, hF⟩ := ld_some hF
              refine qb_iald Cx hW az_1 h24 e25 dX6_ofTask_134 ?_
              obtain ⟨rfl, rfl⟩ := Prod.mk.inj (Option.some.inj hF)
              exact hret _ _ _ _ dX6_ofTask_135 (nI32 _) hW
            · have hF := (if_neg c22).symm.trans hF
              by_cases c26 : l2 = (4 : Int32)
              · have hF := (if_pos c26).symm.trans hF
                refine q_tableIn (tgt := 136) Cx dX6_ofTask_29 (by rw [c26]; decide) (by rw [c26]; decide) (ho := by rw [c26]; rfl) (by decide) ?_
                refine q_aload_n Cx dX6_ofTask_136 rfl (lv_at hl 0 rfl) ?_
                refine q_get (v := .ref (vA V 12 7)) Cx hW oZ ic6 9 (by decide) rfl wd_723 dX6_ofTask_137 ?_
                refine q_iload_n Cx dX6_ofTask_140 rfl (lv_at hl 1 rfl) ?_
                obtain ⟨h28, v27, e29, hF⟩ := ld_some hF
                refine qb_iald Cx hW az_7 h28 e29 dX6_ofTask_141 ?_
                obtain ⟨rfl, rfl⟩ := Prod.mk.inj (Option.some.inj hF)
                exact hret _ _ _ _ dX6_ofTask_142 (nI32 _) hW
              · have hF := (if_neg c26).symm.trans hF
                by_cases c30 : l2 = (5 : Int32)
                · have hF := (if_pos c30).symm.trans hF
                  refine q_tableIn (tgt := 143) Cx dX6_ofTask_29 (by rw [c30]; decide) (by rw [c30]; decide) (ho := by rw [c30]; rfl) (by decide) ?_
                  refine q_aload_n Cx dX6_ofTask_143 rfl (lv_at hl 0 rfl) ?_
                  refine q_get (v := .ref (vA V 12 8)) Cx hW oZ ic6 10 (by decide) rfl wd_724 dX6_ofTask_144 ?_
                  refine q_iload_n Cx dX6_ofTask_147 rfl (lv_at hl 1 rfl) ?_
                  obtain ⟨h32, v31, e33, hF⟩ := ld_some hF
                  refine qb_iald Cx hW az_8 h32 e33 dX6_ofTask_148 ?_
                  obtain ⟨rfl, rfl⟩ := Prod.mk.inj (Option.some.inj hF)
                  exact hret _ _ _ _ dX6_ofTask_149 (nI32 _) hW
                · have hF := (if_neg c30).symm.trans hF
                  by_cases c34 : l2 = (6 : Int32)
                  · have hF := (if_pos c34).symm.trans hF
                    refine q_tableIn (tgt := 150) Cx dX6_ofTask_29 (by rw [c34]; decide) (by rw [c34]; decide) (ho := by rw [c34]; rfl) (by decide) ?_
                    refine q_aload_n Cx dX6_ofTask_150 rfl (lv_at hl 0 rfl) ?_
                    refine q_iload_n Cx dX6_ofTask_151 rfl (lv_at hl 1 rfl) ?_
                    obtain ⟨r35, e36, hF⟩ := c1_some hF
                    refine q_callI (as := [.int l1]) (rest := []) Cx (kX6_late e36) okX6_late ovX6_late wd_856 ⟨rfl, rfl, by decide, by decide⟩ hW oZ ic6 rfl hl.1 (Nat.le_of_ble_eq_true rfl) rfl dX6_ofTask_152 (fun H locs hW => ?_)
                    obtain ⟨rfl, rfl⟩ := Prod.mk.inj (Option.some.inj hF)
                    exact hret _ _ _ _ dX6_ofTask_155 (nI32 _) hW
                  · have hF := (if_neg c34).symm.trans hF
                    by_cases c37 : l2 = (7 : Int32)
                    · have hF := (if_pos c37).symm.trans hF
                      refine q_tableIn (tgt := 156) Cx dX6_ofTask_29 (by rw [c37]; decide) (by rw [c37]; decide) (ho := by rw [c37]; rfl) (by decide) ?_
                      refine q_aload_n Cx dX6_ofTask_156 rfl (lv_at hl 0 rfl) ?_
                      refine q_iload_n Cx dX6_ofTask_157 rfl (lv_at hl 1 rfl) ?_
                      obtain ⟨r38, e39, hF⟩ := c1_some hF
                      refine q_callI (as := [.int l1]) (rest := []) Cx (kX6_spared e39) okX6_spared ovX6_spared wd_879 ⟨rfl, rfl, by decide, by decide⟩ hW oZ ic6 rfl hl.1 (Nat.le_of_ble_eq_true rfl) rfl dX6_ofTask_158 (fun H locs hW => ?_)
                      obtain ⟨rfl, rfl⟩ := Prod.mk.inj (Option.some.inj hF)
                      exact hret _ _ _ _ dX6_ofTask_161 (nI32 _) hW
                    · have hF := (if_neg c37).symm.trans hF
                      by_cases c40 : l2 = (8 : Int32)
                      · have hF := (if_pos c40).symm.trans hF
                        refine q_tableIn (tgt := 162) Cx dX6_ofTask_29 (by rw [c40]; decide) (by rw [c40]; decide) (ho := by rw [c40]; rfl) (by decide) ?_
                        refine q_aload_n Cx dX6_ofTask_162 rfl (lv_at hl 0 rfl) ?_
                        refine q_iload_n Cx dX6_ofTask_163 rfl (lv_at hl 1 rfl) ?_
                        obtain ⟨r41, B43, e42, hF⟩ := c2_some hF
                        refine q_callI (as := [.int l1]) (rest := []) Cx (kX6_slack e42) okX6_slack ovX6_slack wd_907 ⟨rfl, rfl, by decide, by decide⟩ hW oZ ic6 rfl hl.1 (Nat.le_of_ble_eq_true rfl) rfl dX6_ofTask_164 (fun H locs hW => ?_)
                        obtain ⟨rfl, rfl⟩ := Prod.mk.inj (Option.some.inj hF)
                        exact hret _ _ _ _ dX6_ofTask_167 (nI32 _) hW
                      · have hF := (if_neg c40).symm.trans hF
                        by_cases c44 : l2 = (9 : Int32)
                        · have hF := (if_pos c44).symm.trans hF
                          refine q_tableIn (tgt := 168) Cx dX6_ofTask_29 (by rw [c44]; decide) (by rw [c44]; decide) (ho := by rw [c44]; rfl) (by decide) ?_
                          refine q_aload_n Cx dX6_ofTask_168 rfl (lv_at hl 0 rfl) ?_
                          refine q_get (v := .ref (vA V 12 1)) Cx hW oZ ic6 0 (by decide) rfl wd_714 dX6_ofTask_169 ?_
                          refine q_bipush (v := (124 : Int32)) Cx dX6_ofTask_172 (by decide) ?_
                          refine q_iload_n Cx dX6_ofTask_174 rfl (lv_at hl 1 rfl) ?_
                          refine q_iadd Cx dX6_ofTask_175 ?_
                          obtain ⟨h46, v45, e47, hF⟩ := ld_some hF
                          refine qb_iald Cx hW az_1 h46 e47 dX6_ofTask_176 ?_
                          obtain ⟨rfl, rfl⟩ := Prod.mk.inj (Option.some.inj hF)
                          exact hret _ _ _ _ dX6_ofTask_177 (nI32 _) hW
                        · have hF := (if_neg c44).symm.trans hF
                          by_cases c48 : l2 = (10 : Int32)
                          · have hF := (if_pos c48).symm.trans hF
                            refine q_tableIn (tgt := 178) Cx dX6_ofTask_29 (by rw [c48]; decide) (by rw [c48]; decide) (ho := by rw [c48]; rfl) (by decide) ?_
                            refine q_aload_n Cx dX6_ofTask_178 rfl (lv_at hl 0 rfl) ?_
                            refine q_get (v := .ref (vA V 12 1)) Cx hW oZ ic6 0 (by decide) rfl wd_714 dX6_ofTask_179 ?_
                            refine q_sipush (v := (148 : Int32)) Cx dX6_ofTask_182 (by decide) ?_
                            refine q_iload_n Cx dX6_ofTask_185 rfl (lv_at hl 1 rfl) ?_
                            refine q_iadd Cx dX6_ofTask_186 ?_
                            obtain ⟨h50, v49, e51, hF⟩ := ld_some hF
                            refine qb_iald Cx hW az_1 h50 e51 dX6_ofTask_187 ?_
                            obtain ⟨rfl, rfl⟩ := Prod.mk.inj (Option.some.inj hF)
                            exact hret _ _ _ _ dX6_ofTask_188 (nI32 _) hW
                          · have hF := (if_neg c48).symm.trans hF
                            by_cases c52 : l2 = (11 : Int32)
                            · have hF := (if_pos c52).symm.trans hF
                              refine q_tableIn (tgt := 189) Cx dX6_ofTask_29 (by rw [c52]; decide) (by rw [c52]; decide) (ho := by rw [c52]; rfl) (by decide) ?_
                              refine q_aload_n Cx dX6_ofTask_189 rfl (lv_at hl 0 rfl) ?_
                              refine q_sipush (v := (196 : Int32)) Cx dX6_ofTask_190 (by decide) ?_
                              refine q_iload_n Cx dX6_ofTask_193 rfl (lv_at hl 1 rfl) ?_
                              obtain ⟨r53, e54, hF⟩ := c1_some hF
                              refine q_callI (as := [.int (196 : Int32), .int l1]) (rest := []) Cx (kX6_hoursBy e54) okX6_hoursBy ovX6_hoursBy wd_919 ⟨rfl, rfl, by decide, by decide⟩ hW oZ ic6 rfl hl.1 (Nat.le_of_ble_eq_true rfl) rfl dX6_ofTask_194 (fun H locs hW => ?_)
                              obtain ⟨rfl, rfl⟩ := Prod.mk.inj (Option.some.inj hF)
                              exact hret _ _ _ _ dX6_ofTask_197 (nI32 _) hW
                            · have hF := (if_neg c52).symm.trans hF
                              by_cases c55 : l2 = (12 : Int32)
                              · have hF := (if_pos c55).symm.trans hF
                                refine q_tableIn (tgt := 198) Cx dX6_ofTask_29 (by rw [c55]; decide) (by rw [c55]; decide) (ho := by rw [c55]; rfl) (by decide) ?_
                                refine q_aload_n Cx dX6_ofTask_198 rfl (lv_at hl 0 rfl) ?_
                                refine q_sipush (v := (236 : Int32)) Cx dX6_ofTask_199 (by decide) ?_
                                refine q_iload_n Cx dX6_ofTask_202 rfl (lv_at hl 1 rfl) ?_
                                obtain ⟨r56, e57, hF⟩ := c1_some hF
                                refine q_callI (as := [.int (236 : Int32), .int l1]) (rest := []) Cx (kX6_hoursBy e57) okX6_hoursBy ovX6_hoursBy wd_919 ⟨rfl, rfl, by decide, by decide⟩ hW oZ ic6 rfl hl.1 (Nat.le_of_ble_eq_true rfl) rfl dX6_ofTask_203 (fun H locs hW => ?_)
                                obtain ⟨rfl, rfl⟩ := Prod.mk.inj (Option.some.inj hF)
                                exact hret _ _ _ _ dX6_ofTask_206 (nI32 _) hW
                              · have hF := (if_neg c55).symm.trans hF
                                refine q_tableOut (tgt := 207) Cx dX6_ofTask_29 (tbl_out (tbl_cons (k := (0 : Int32)) (l1 := 1) (by decide) (by decide) c10 (tbl_cons (k := (1 : Int32)) (l1 := 2) (by decide) (by decide) c14 (tbl_cons (k := (2 : Int32)) (l1 := 3) (by decide) (by decide) c18 (tbl_cons (k := (3 : Int32)) (l1 := 4) (by decide) (by decide) c22 (tbl_cons (k := (4 : Int32)) (l1 := 5) (by decide) (by decide) c26 (tbl_cons (k := (5 : Int32)) (l1 := 6) (by decide) (by decide) c30 (tbl_cons (k := (6 : Int32)) (l1 := 7) (by decide) (by decide) c34 (tbl_cons (k := (7 : Int32)) (l1 := 8) (by decide) (by decide) c37 (tbl_cons (k := (8 : Int32)) (l1 := 9) (by decide) (by decide) c40 (tbl_cons (k := (9 : Int32)) (l1 := 10) (by decide) (by decide) c44 (tbl_cons (k := (10 : Int32)) (l1 := 11) (by decide) (by decide) c48 (tbl_cons (k := (11 : Int32)) (l1 := 12) (by decide) (by decide) c52 (tbl_cons (k := (12 : Int32)) (l1 := 13) (by decide) (by decide) c55 (tbl_nil (by decide)))))))))))))))) (by decide) ?_
                                refine q_aload_n Cx dX6_ofTask_207 rfl (lv_at hl 0 rfl) ?_
                                refine q_iload_n Cx dX6_ofTask_208 rfl (lv_at hl 1 rfl) ?_
                                obtain ⟨r58, e59, hF⟩ := c1_some hF
                                refine q_callI (as := [.int l1]) (rest := []) Cx (kX6_behind e59) okX6_behind ovX6_behind wd_923 ⟨rfl, rfl, by decide, by decide⟩ hW oZ ic6 rfl hl.1 (Nat.le_of_ble_eq_true rfl) rfl dX6_ofTask_209 (fun H locs hW => ?_)
                                obtain ⟨rfl, rfl⟩ := Prod.mk.inj (Option.some.inj hF)
                                exact hret _ _ _ _ dX6_ofTask_212 (nI32 _) hW
    · have hF := (if_pos c6).symm.trans hF
      refine q_bipush (v := (-2 : Int32)) Cx dX6_ofTask_20 (by decide) ?_
      obtain ⟨rfl, rfl⟩ := Prod.mk.inj (Option.some.inj hF)
      exact hret _ _ _ _ dX6_ofTask_22 (nI32 _) hW
  · have hF := (if_pos c3).symm.trans hF
    refine q_iconst (v := (-1 : Int32)) Cx dX6_ofTask_8 (by decide) ?_
    obtain ⟨rfl, rfl⟩ := Prod.mk.inj (Option.some.inj hF)
    exact hret _ _ _ _ dX6_ofTask_9 (nI32 _) hW
set_option maxRecDepth 100000 in
theorem kX6_ofTask {l : Launch} {V : VT} {M : Mem} {B : Blk} {l1 : Int32} {l2 : Int32} {r : Int32} {B' : Blk} (hF : FX6_ofTask B l1 l2 = some (r, B')) : MetI l V yX6_ofTask cX6_ofTask 3 .int ({ frames := 4, cells := 0, slots := 0, locals := 99 } : Room) [.ref (vA V 12 0), .int l1, .int l2] r (jb M 12 B) (jb M 12 B') := metI_of (by decide) (Nat.le_of_ble_eq_true rfl) (fun E H0 _ Cx hret H locs ls hW hl => wX6_ofTask Cx hret hW hl hF)
theorem dX6_due_0 : decode cX6_due 0 = .ok (.aload_n 0, 1) := by decide +kernel
theorem dX6_due_1 : decode cX6_due 1 = .ok (.iload_n 1, 1) := by decide +kernel
theorem dX6_due_2 : decode cX6_due 2 = .ok (.invokevirtual 89, 3) := by decide +kernel
theorem dX6_due_5 : decode cX6_due 5 = .ok (.ifCond .eq 16, 3) := by decide +kernel
theorem dX6_due_8 : decode cX6_due 8 = .ok (.aload_n 0, 1) := by decide +kernel
theorem dX6_due_9 : decode cX6_due 9 = .ok (.getfield 7, 3) := by decide +kernel
theorem dX6_due_12 : decode cX6_due 12 = .ok (.bipush 52, 2) := by decide +kernel
theorem dX6_due_14 : decode cX6_due 14 = .ok (.iload_n 1, 1) := by decide +kernel
theorem dX6_due_15 : decode cX6_due 15 = .ok (.iadd, 1) := by decide +kernel
theorem dX6_due_16 : decode cX6_due 16 = .ok (.iaload, 1) := by decide +kernel
theorem dX6_due_17 : decode cX6_due 17 = .ok (.i2l, 1) := by decide +kernel
theorem dX6_due_18 : decode cX6_due 18 = .ok (.goto 6, 3) := by decide +kernel
theorem dX6_due_21 : decode cX6_due 21 = .ok (.ldc2_w 148, 3) := by decide +kernel
theorem dX6_due_24 : decode cX6_due 24 = .ok (.lreturn, 1) := by decide +kernel
theorem okX6_due : CalOK yX6_due cX6_due 2 (some .long) 1 := ⟨wd_73, wd_930, by decide +kernel⟩
theorem ovX6_due : VirOK yX6_due := ⟨wd_928, wd_929⟩
def FX6_due (B : Blk) (l1 : Int32) : Option Int64 :=
  c1 (FX6_isTask B l1) fun r1 =>
  if r1 = 0 then
    some (-1 : Int64)
  else
    ld (B 1) 356 ((52 : Int32) + l1) fun v4 =>
    some v4.toInt64
set_option maxRecDepth 100000 in
set_option maxHeartbeats 4000000 in
theorem wX6_due {E : WE} {V : VT} {A : Nat → Prop} {H0 : Heap} {M : Mem} (Cx : CX E RX6 cX6_due 2 1 21) {r : Int64} {B : Blk} (hret : RetL E V A H0 cX6_due r (jb M 12 B)) {H : Heap} {locs : List Loc} {ls : Array Slot} {l1 : Int32} (hW : Wd V A H0 (jb M 12 B) (eS E) H locs) (hl : lv_has ls 2 [(0, .ref (vA V 12 0)), (1, .int l1)]) (hF : FX6_due B l1 = some r) : Wq E H locs 0 ls [] := by
  unfold FX6_due at hF
  refine q_aload_n Cx dX6_due_0 rfl (lv_at hl 0 rfl) ?_
  refine q_iload_n Cx dX6_due_1 rfl (lv_at hl 1 rfl) ?_
  obtain ⟨r1, e2, hF⟩ := c1_some hF
  refine q_callI (as := [.int l1]) (rest := []) Cx (kX6_isTask e2) okX6_isTask ovX6_isTask wd_799 ⟨rfl, rfl, by decide, by decide⟩ hW oZ ic6 rfl hl.1 (Nat.le_of_ble_eq_true rfl) rfl dX6_due_2 (fun H locs hW => ?_)
  refine q_if_eq (tgt := 21) Cx dX6_due_5 (by decide) (fun c3 => ?_) (fun c3 => ?_)
  · have hF := (if_pos c3).symm.trans hF
    refine q_ldc2 (v := (-1 : Int64)) Cx dX6_due_21 wd_931 ?_
    obtain rfl := Option.some.inj hF
    exact hret _ _ _ _ dX6_due_24 hW
  · have hF := (if_neg c3).symm.trans hF
    refine q_aload_n Cx dX6_due_8 rfl (lv_at hl 0 rfl) ?_
    refine q_get (v := .ref (vA V 12 1)) Cx hW oZ ic6 0 (by decide) rfl wd_714 dX6_due_9 ?_
    refine q_bipush (v := (52 : Int32)) Cx dX6_due_12 (by decide) ?_
    refine q_iload_n Cx dX6_due_14 rfl (lv_at hl 1 rfl) ?_
    refine q_iadd Cx dX6_due_15 ?_
    obtain ⟨h5, v4, e6, hF⟩ := ld_some hF
    refine qb_iald Cx hW az_1 h5 e6 dX6_due_16 ?_
    refine q_i2l Cx dX6_due_17 ?_
    refine q_goto (tgt := 24) Cx dX6_due_18 (by decide) ?_
    obtain rfl := Option.some.inj hF
    exact hret _ _ _ _ dX6_due_24 hW
set_option maxRecDepth 100000 in
theorem kX6_due {l : Launch} {V : VT} {M : Mem} {B : Blk} {l1 : Int32} {r : Int64} (hF : FX6_due B l1 = some r) : MetL l V yX6_due cX6_due 2 ({ frames := 1, cells := 0, slots := 0, locals := 21 } : Room) [.ref (vA V 12 0), .int l1] r (jb M 12 B) (jb M 12 B) := metL_of (by decide) (Nat.le_of_ble_eq_true rfl) (fun E H0 _ Cx hret H locs ls hW hl => wX6_due Cx hret hW hl hF)
theorem dX6_money_0 : decode cX6_money 0 = .ok (.aload_n 0, 1) := by decide +kernel
theorem dX6_money_1 : decode cX6_money 1 = .ok (.iload_n 1, 1) := by decide +kernel
theorem dX6_money_2 : decode cX6_money 2 = .ok (.invokevirtual 89, 3) := by decide +kernel
theorem dX6_money_5 : decode cX6_money 5 = .ok (.ifCond .eq 15, 3) := by decide +kernel
theorem dX6_money_8 : decode cX6_money 8 = .ok (.aload_n 0, 1) := by decide +kernel
theorem dX6_money_9 : decode cX6_money 9 = .ok (.getfield 7, 3) := by decide +kernel
theorem dX6_money_12 : decode cX6_money 12 = .ok (.bipush 76, 2) := by decide +kernel
theorem dX6_money_14 : decode cX6_money 14 = .ok (.iload_n 1, 1) := by decide +kernel
theorem dX6_money_15 : decode cX6_money 15 = .ok (.iadd, 1) := by decide +kernel
theorem dX6_money_16 : decode cX6_money 16 = .ok (.iaload, 1) := by decide +kernel
theorem dX6_money_17 : decode cX6_money 17 = .ok (.goto 4, 3) := by decide +kernel
theorem dX6_money_20 : decode cX6_money 20 = .ok (.iconst (-1), 1) := by decide +kernel
theorem dX6_money_21 : decode cX6_money 21 = .ok (.ireturn, 1) := by decide +kernel
theorem okX6_money : CalOK yX6_money cX6_money 2 (some .int) 1 := ⟨wd_73, wd_935, by decide +kernel⟩
theorem ovX6_money : VirOK yX6_money := ⟨wd_933, wd_934⟩
def FX6_money (B : Blk) (l1 : Int32) : Option Int32 :=
  c1 (FX6_isTask B l1) fun r1 =>
  if r1 = 0 then
    some (-1 : Int32)
  else
    ld (B 1) 356 ((76 : Int32) + l1) fun v4 =>
    some v4
set_option maxRecDepth 100000 in
set_option maxHeartbeats 4000000 in
theorem wX6_money {E : WE} {V : VT} {A : Nat → Prop} {H0 : Heap} {M : Mem} (Cx : CX E RX6 cX6_money 2 1 21) {r : Int32} {B : Blk} (hret : RetI E V A H0 cX6_money .int r (jb M 12 B)) {H : Heap} {locs : List Loc} {ls : Array Slot} {l1 : Int32} (hW : Wd V A H0 (jb M 12 B) (eS E) H locs) (hl : lv_has ls 2 [(0, .ref (vA V 12 0)), (1, .int l1)]) (hF : FX6_money B l1 = some r) : Wq E H locs 0 ls [] := by
  unfold FX6_money at hF
  refine q_aload_n Cx dX6_money_0 rfl (lv_at hl 0 rfl) ?_
  refine q_iload_n Cx dX6_money_1 rfl (lv_at hl 1 rfl) ?_
  obtain ⟨r1, e2, hF⟩ := c1_some hF
  refine q_callI (as := [.int l1]) (rest := []) Cx (kX6_isTask e2) okX6_isTask ovX6_isTask wd_799 ⟨rfl, rfl, by decide, by decide⟩ hW oZ ic6 rfl hl.1 (Nat.le_of_ble_eq_true rfl) rfl dX6_money_2 (fun H locs hW => ?_)
  refine q_if_eq (tgt := 20) Cx dX6_money_5 (by decide) (fun c3 => ?_) (fun c3 => ?_)
  · have hF := (if_pos c3).symm.trans hF
    refine q_iconst (v := (-1 : Int32)) Cx dX6_money_20 (by decide) ?_
    obtain rfl := Option.some.inj hF
    exact hret _ _ _ _ dX6_money_21 (nI32 _) hW
  · have hF := (if_neg c3).symm.trans hF
    refine q_aload_n Cx dX6_money_8 rfl (lv_at hl 0 rfl) ?_
    refine q_get (v := .ref (vA V 12 1)) Cx hW oZ ic6 0 (by decide) rfl wd_714 dX6_money_9 ?_
    refine q_bipush (v := (76 : Int32)) Cx dX6_money_12 (by decide) ?_
    refine q_iload_n Cx dX6_money_14 rfl (lv_at hl 1 rfl) ?_
    refine q_iadd Cx dX6_money_15 ?_
    obtain ⟨h5, v4, e6, hF⟩ := ld_some hF
    refine qb_iald Cx hW az_1 h5 e6 dX6_money_16 ?_
    refine q_goto (tgt := 21) Cx dX6_money_17 (by decide) ?_
    obtain rfl := Option.some.inj hF
    exact hret _ _ _ _ dX6_money_21 (nI32 _) hW
set_option maxRecDepth 100000 in
theorem kX6_money {l : Launch} {V : VT} {M : Mem} {B : Blk} {l1 : Int32} {r : Int32} (hF : FX6_money B l1 = some r) : MetI l V yX6_money cX6_money 2 .int ({ frames := 1, cells := 0, slots := 0, locals := 21 } : Room) [.ref (vA V 12 0), .int l1] r (jb M 12 B) (jb M 12 B) := metI_of (by decide) (Nat.le_of_ble_eq_true rfl) (fun E H0 _ Cx hret H locs ls hW hl => wX6_money Cx hret hW hl hF)
theorem dX6_at_0 : decode cX6_at 0 = .ok (.iload_n 1, 1) := by decide +kernel
theorem dX6_at_1 : decode cX6_at 1 = .ok (.iconst 0, 1) := by decide +kernel
theorem dX6_at_2 : decode cX6_at 2 = .ok (.iconst 3, 1) := by decide +kernel
theorem dX6_at_3 : decode cX6_at 3 = .ok (.invokestatic 56, 3) := by decide +kernel
theorem dX6_at_6 : decode cX6_at 6 = .ok (.ifCond .eq 12, 3) := by decide +kernel
theorem dX6_at_9 : decode cX6_at 9 = .ok (.aload_n 0, 1) := by decide +kernel
theorem dX6_at_10 : decode cX6_at 10 = .ok (.iload_n 1, 1) := by decide +kernel
theorem dX6_at_11 : decode cX6_at 11 = .ok (.iload_n 2, 1) := by decide +kernel
theorem dX6_at_12 : decode cX6_at 12 = .ok (.invokevirtual 70, 3) := by decide +kernel
theorem dX6_at_15 : decode cX6_at 15 = .ok (.goto 4, 3) := by decide +kernel
theorem dX6_at_18 : decode cX6_at 18 = .ok (.iconst (-1), 1) := by decide +kernel
theorem dX6_at_19 : decode cX6_at 19 = .ok (.ireturn, 1) := by decide +kernel
theorem okX6_at : CalOK yX6_at cX6_at 3 (some .int) 2 := ⟨wd_73, wd_939, by decide +kernel⟩
theorem ovX6_at : VirOK yX6_at := ⟨wd_937, wd_938⟩
def FX6_at (B : Blk) (l1 : Int32) (l2 : Int32) : Option Int32 :=
  c1 (FX6_in l1 (0 : Int32) (3 : Int32)) fun r1 =>
  if r1 = 0 then
    some (-1 : Int32)
  else
    c1 (FX6_taskAt B l1 l2) fun r4 =>
    some r4
set_option maxRecDepth 100000 in
set_option maxHeartbeats 4000000 in
theorem wX6_at {E : WE} {V : VT} {A : Nat → Prop} {H0 : Heap} {M : Mem} (Cx : CX E RX6 cX6_at 3 1 24) {r : Int32} {B : Blk} (hret : RetI E V A H0 cX6_at .int r (jb M 12 B)) {H : Heap} {locs : List Loc} {ls : Array Slot} {l1 : Int32} {l2 : Int32} (hW : Wd V A H0 (jb M 12 B) (eS E) H locs) (hl : lv_has ls 3 [(0, .ref (vA V 12 0)), (1, .int l1), (2, .int l2)]) (hF : FX6_at B l1 l2 = some r) : Wq E H locs 0 ls [] := by
  unfold FX6_at at hF
  refine q_iload_n Cx dX6_at_0 rfl (lv_at hl 1 rfl) ?_
  refine q_iconst (v := (0 : Int32)) Cx dX6_at_1 (by decide) ?_
  refine q_iconst (v := (3 : Int32)) Cx dX6_at_2 (by decide) ?_
  obtain ⟨r1, e2, hF⟩ := c1_some hF
  refine q_callSI (as := [.int l1, .int (0 : Int32), .int (3 : Int32)]) (rest := []) Cx (kX6_in e2) okX6_in osX6_in rfl wd_780 ⟨rfl, rfl, by decide, by decide⟩ hW rfl hl.1 (Nat.le_of_ble_eq_true rfl) rfl dX6_at_3 (fun H locs hW => ?_)
  refine q_if_eq (tgt := 18) Cx dX6_at_6 (by decide) (fun c3 => ?_) (fun c3 => ?_)
  · have hF := (if_pos c3).symm.trans hF
    refine q_iconst (v := (-1 : Int32)) Cx dX6_at_18 (by decide) ?_
    obtain rfl := Option.some.inj hF
    exact hret _ _ _ _ dX6_at_19 (nI32 _) hW
  · have hF := (if_neg c3).symm.trans hF
    refine q_aload_n Cx dX6_at_9 rfl (lv_at hl 0 rfl) ?_
    refine q_iload_n Cx dX6_at_10 rfl (lv_at hl 1 rfl) ?_
    refine q_iload_n Cx dX6_at_11 rfl (lv_at hl 2 rfl) ?_
    obtain ⟨r4, e5, hF⟩ := c1_some hF
    refine q_callI (as := [.int l1, .int l2]) (rest := []) Cx (kX6_taskAt e5) okX6_taskAt ovX6_taskAt wd_828 ⟨rfl, rfl, by decide, by decide⟩ hW oZ ic6 rfl hl.1 (Nat.le_of_ble_eq_true rfl) rfl dX6_at_12 (fun H locs hW => ?_)
    refine q_goto (tgt := 19) Cx dX6_at_15 (by decide) ?_
    obtain rfl := Option.some.inj hF
    exact hret _ _ _ _ dX6_at_19 (nI32 _) hW
set_option maxRecDepth 100000 in
theorem kX6_at {l : Launch} {V : VT} {M : Mem} {B : Blk} {l1 : Int32} {l2 : Int32} {r : Int32} (hF : FX6_at B l1 l2 = some r) : MetI l V yX6_at cX6_at 3 .int ({ frames := 1, cells := 0, slots := 0, locals := 24 } : Room) [.ref (vA V 12 0), .int l1, .int l2] r (jb M 12 B) (jb M 12 B) := metI_of (by decide) (Nat.le_of_ble_eq_true rfl) (fun E H0 _ Cx hret H locs ls hW hl => wX6_at Cx hret hW hl hF)
theorem dX6_ofContract_0 : decode cX6_ofContract 0 = .ok (.aload_n 0, 1) := by decide +kernel
theorem dX6_ofContract_1 : decode cX6_ofContract 1 = .ok (.iload_n 1, 1) := by decide +kernel
theorem dX6_ofContract_2 : decode cX6_ofContract 2 = .ok (.invokevirtual 133, 3) := by decide +kernel
theorem dX6_ofContract_5 : decode cX6_ofContract 5 = .ok (.ifCond .ne 5, 3) := by decide +kernel
theorem dX6_ofContract_8 : decode cX6_ofContract 8 = .ok (.iconst (-1), 1) := by decide +kernel
theorem dX6_ofContract_9 : decode cX6_ofContract 9 = .ok (.ireturn, 1) := by decide +kernel
theorem dX6_ofContract_10 : decode cX6_ofContract 10 = .ok (.iload_n 2, 1) := by decide +kernel
theorem dX6_ofContract_11 : decode cX6_ofContract 11 = .ok (.iconst 0, 1) := by decide +kernel
theorem dX6_ofContract_12 : decode cX6_ofContract 12 = .ok (.iconst 3, 1) := by decide +kernel
theorem dX6_ofContract_13 : decode cX6_ofContract 13 = .ok (.invokestatic 56, 3) := by decide +kernel
theorem dX6_ofContract_16 : decode cX6_ofContract 16 = .ok (.ifCond .ne 6, 3) := by decide +kernel
theorem dX6_ofContract_19 : decode cX6_ofContract 19 = .ok (.bipush (-2), 2) := by decide +kernel
theorem dX6_ofContract_21 : decode cX6_ofContract 21 = .ok (.ireturn, 1) := by decide +kernel
theorem dX6_ofContract_22 : decode cX6_ofContract 22 = .ok (.aload_n 0, 1) := by decide +kernel
theorem dX6_ofContract_23 : decode cX6_ofContract 23 = .ok (.getfield 7, 3) := by decide +kernel
theorem dX6_ofContract_26 : decode cX6_ofContract 26 = .ok (.sipush 196, 3) := by decide +kernel
theorem dX6_ofContract_29 : decode cX6_ofContract 29 = .ok (.bipush 40, 2) := by decide +kernel
theorem dX6_ofContract_31 : decode cX6_ofContract 31 = .ok (.iload_n 2, 1) := by decide +kernel
theorem dX6_ofContract_32 : decode cX6_ofContract 32 = .ok (.imul, 1) := by decide +kernel
theorem dX6_ofContract_33 : decode cX6_ofContract 33 = .ok (.iadd, 1) := by decide +kernel
theorem dX6_ofContract_34 : decode cX6_ofContract 34 = .ok (.iload_n 1, 1) := by decide +kernel
theorem dX6_ofContract_35 : decode cX6_ofContract 35 = .ok (.iadd, 1) := by decide +kernel
theorem dX6_ofContract_36 : decode cX6_ofContract 36 = .ok (.iaload, 1) := by decide +kernel
theorem dX6_ofContract_37 : decode cX6_ofContract 37 = .ok (.ireturn, 1) := by decide +kernel
theorem okX6_ofContract : CalOK yX6_ofContract cX6_ofContract 3 (some .int) 2 := ⟨wd_73, wd_943, by decide +kernel⟩
theorem ovX6_ofContract : VirOK yX6_ofContract := ⟨wd_941, wd_942⟩
def FX6_ofContract (B : Blk) (l1 : Int32) (l2 : Int32) : Option Int32 :=
  c1 (FX6_isContract B l1) fun r1 =>
  if r1 = 0 then
    some (-1 : Int32)
  else
    c1 (FX6_in l2 (0 : Int32) (3 : Int32)) fun r4 =>
    if r4 = 0 then
      some (-2 : Int32)
    else
      ld (B 1) 356 (((196 : Int32) + ((40 : Int32) * l2)) + l1) fun v7 =>
      some v7
set_option maxRecDepth 100000 in
set_option maxHeartbeats 4000000 in
theorem wX6_ofContract {E : WE} {V : VT} {A : Nat → Prop} {H0 : Heap} {M : Mem} (Cx : CX E RX6 cX6_ofContract 3 1 22) {r : Int32} {B : Blk} (hret : RetI E V A H0 cX6_ofContract .int r (jb M 12 B)) {H : Heap} {locs : List Loc} {ls : Array Slot} {l1 : Int32} {l2 : Int32} (hW : Wd V A H0 (jb M 12 B) (eS E) H locs) (hl : lv_has ls 3 [(0, .ref (vA V 12 0)), (1, .int l1), (2, .int l2)]) (hF : FX6_ofContract B l1 l2 = some r) : Wq E H locs 0 ls [] := by
  unfold FX6_ofContract at hF
  refine q_aload_n Cx dX6_ofContract_0 rfl (lv_at hl 0 rfl) ?_
  refine q_iload_n Cx dX6_ofContract_1 rfl (lv_at hl 1 rfl) ?_
  obtain ⟨r1, e2, hF⟩ := c1_some hF
  refine q_callI (as := [.int l1]) (rest := []) Cx (kX6_isContract e2) okX6_isContract ovX6_isContract wd_891 ⟨rfl, rfl, by decide, by decide⟩ hW oZ ic6 rfl hl.1 (Nat.le_of_ble_eq_true rfl) rfl dX6_ofContract_2 (fun H locs hW => ?_)
  refine q_if_ne (tgt := 10) Cx dX6_ofContract_5 (by decide) (fun c3 => ?_) (fun c3 => ?_)
  · have hF := (if_neg c3).symm.trans hF
    refine q_iload_n Cx dX6_ofContract_10 rfl (lv_at hl 2 rfl) ?_
    refine q_iconst (v := (0 : Int32)) Cx dX6_ofContract_11 (by decide) ?_
    refine q_iconst (v := (3 : Int32)) Cx dX6_ofContract_12 (by decide) ?_
    obtain ⟨r4, e5, hF⟩ := c1_some hF
    refine q_callSI (as := [.int l2, .int (0 : Int32), .int (3 : Int32)]) (rest := []) Cx (kX6_in e5) okX6_in osX6_in rfl wd_780 ⟨rfl, rfl, by decide, by decide⟩ hW rfl hl.1 (Nat.le_of_ble_eq_true rfl) rfl dX6_ofContract_13 (fun H locs hW => ?_)
    refine q_if_ne (tgt := 22) Cx dX6_ofContract_16 (by decide) (fun c6 => ?_) (fun c6 => ?_)
    · have hF := (if_neg c6).symm.trans hF
      refine q_aload_n Cx dX6_ofContract_22 rfl (lv_at hl 0 rfl) ?_
      refine q_get (v := .ref (vA V 12 1)) Cx hW oZ ic6 0 (by decide) rfl wd_714 dX6_ofContract_23 ?_
      refine q_sipush (v := (196 : Int32)) Cx dX6_ofContract_26 (by decide) ?_
      refine q_bipush (v := (40 : Int32)) Cx dX6_ofContract_29 (by decide) ?_
      refine q_iload_n Cx dX6_ofContract_31 rfl (lv_at hl 2 rfl) ?_
      refine q_imul Cx dX6_ofContract_32 ?_
      refine q_iadd Cx dX6_ofContract_33 ?_
      refine q_iload_n Cx dX6_ofContract_34 rfl (lv_at hl 1 rfl) ?_
      refine q_iadd Cx dX6_ofContract_35 ?_
      obtain ⟨h8, v7, e9, hF⟩ := ld_some hF
      refine qb_iald Cx hW az_1 h8 e9 dX6_ofContract_36 ?_
      obtain rfl := Option.some.inj hF
      exact hret _ _ _ _ dX6_ofContract_37 (nI32 _) hW
    · have hF := (if_pos c6).symm.trans hF
      refine q_bipush (v := (-2 : Int32)) Cx dX6_ofContract_19 (by decide) ?_
      obtain rfl := Option.some.inj hF
      exact hret _ _ _ _ dX6_ofContract_21 (nI32 _) hW
  · have hF := (if_pos c3).symm.trans hF
    refine q_iconst (v := (-1 : Int32)) Cx dX6_ofContract_8 (by decide) ?_
    obtain rfl := Option.some.inj hF
    exact hret _ _ _ _ dX6_ofContract_9 (nI32 _) hW
set_option maxRecDepth 100000 in
theorem kX6_ofContract {l : Launch} {V : VT} {M : Mem} {B : Blk} {l1 : Int32} {l2 : Int32} {r : Int32} (hF : FX6_ofContract B l1 l2 = some r) : MetI l V yX6_ofContract cX6_ofContract 3 .int ({ frames := 1, cells := 0, slots := 0, locals := 22 } : Room) [.ref (vA V 12 0), .int l1, .int l2] r (jb M 12 B) (jb M 12 B) := metI_of (by decide) (Nat.le_of_ble_eq_true rfl) (fun E H0 _ Cx hret H locs ls hW hl => wX6_ofContract Cx hret hW hl hF)
theorem dX6_offers_0 : decode cX6_offers 0 = .ok (.iconst 0, 1) := by decide +kernel
theorem dX6_offers_1 : decode cX6_offers 1 = .ok (.istore_n 1, 1) := by decide +kernel
theorem dX6_offers_2 : decode cX6_offers 2 = .ok (.iconst 0, 1) := by decide +kernel
theorem dX6_offers_3 : decode cX6_offers 3 = .ok (.istore_n 2, 1) := by decide +kernel
theorem dX6_offers_4 : decode cX6_offers 4 = .ok (.iload_n 2, 1) := by decide +kernel
theorem dX6_offers_5 : decode cX6_offers 5 = .ok (.aload_n 0, 1) := by decide +kernel
theorem dX6_offers_6 : decode cX6_offers 6 = .ok (.getfield 7, 3) := by decide +kernel
theorem dX6_offers_9 : decode cX6_offers 9 = .ok (.iconst 0, 1) := by decide +kernel
theorem dX6_offers_10 : decode cX6_offers 10 = .ok (.iaload, 1) := by decide +kernel
theorem dX6_offers_11 : decode cX6_offers 11 = .ok (.if_icmp .ge 29, 3) := by decide +kernel
theorem dX6_offers_14 : decode cX6_offers 14 = .ok (.iload_n 1, 1) := by decide +kernel
theorem dX6_offers_15 : decode cX6_offers 15 = .ok (.aload_n 0, 1) := by decide +kernel
theorem dX6_offers_16 : decode cX6_offers 16 = .ok (.getfield 7, 3) := by decide +kernel
theorem dX6_offers_19 : decode cX6_offers 19 = .ok (.bipush 124, 2) := by decide +kernel
theorem dX6_offers_21 : decode cX6_offers 21 = .ok (.iload_n 2, 1) := by decide +kernel
theorem dX6_offers_22 : decode cX6_offers 22 = .ok (.iadd, 1) := by decide +kernel
theorem dX6_offers_23 : decode cX6_offers 23 = .ok (.iaload, 1) := by decide +kernel
theorem dX6_offers_24 : decode cX6_offers 24 = .ok (.ifCond .le 7, 3) := by decide +kernel
theorem dX6_offers_27 : decode cX6_offers 27 = .ok (.iconst 1, 1) := by decide +kernel
theorem dX6_offers_28 : decode cX6_offers 28 = .ok (.goto 4, 3) := by decide +kernel
theorem dX6_offers_31 : decode cX6_offers 31 = .ok (.iconst 0, 1) := by decide +kernel
theorem dX6_offers_32 : decode cX6_offers 32 = .ok (.iadd, 1) := by decide +kernel
theorem dX6_offers_33 : decode cX6_offers 33 = .ok (.istore_n 1, 1) := by decide +kernel
theorem dX6_offers_34 : decode cX6_offers 34 = .ok (.iinc 2 1, 3) := by decide +kernel
theorem dX6_offers_37 : decode cX6_offers 37 = .ok (.goto (-33), 3) := by decide +kernel
theorem dX6_offers_40 : decode cX6_offers 40 = .ok (.iload_n 1, 1) := by decide +kernel
theorem dX6_offers_41 : decode cX6_offers 41 = .ok (.ireturn, 1) := by decide +kernel
theorem okX6_offers : CalOK yX6_offers cX6_offers 3 (some .int) 0 := ⟨wd_73, wd_951, by decide +kernel⟩
theorem ovX6_offers : VirOK yX6_offers := ⟨wd_950, wd_49⟩
def FX6_offers_32 (B : Blk) (k4 : Int32 → Int32 → Option Int32) (l2 : Int32) (s0 : Int32) (s1 : Int32) : Option Int32 :=
  lt1 (s1 + s0) fun x9 =>
  lt1 (l2 + (1 : Int32)) fun x11 =>
  k4 x9 x11
set_option maxRecDepth 100000 in
set_option maxHeartbeats 4000000 in
theorem wX6_offers_32 {E : WE} {V : VT} {A : Nat → Prop} {H0 : Heap} {M : Mem} (Cx : CX E RX6 cX6_offers 3 0 0) {r : Int32} {B : Blk} (hret : RetI E V A H0 cX6_offers .int r (jb M 12 B)) {k4 : Int32 → Int32 → Option Int32} (hk4 : ∀ {H : Heap} {locs : List Loc} {ls : Array Slot} {l1 : Int32} {l2 : Int32}, Wd V A H0 (jb M 12 B) (eS E) H locs → lv_has ls 3 [(0, .ref (vA V 12 0)), (1, .int l1), (2, .int l2)] → k4 l1 l2 = some r → Wq E H locs 4 ls []) {H : Heap} {locs : List Loc} {ls : Array Slot} {l2 : Int32} {s0 : Int32} {s1 : Int32} (hW : Wd V A H0 (jb M 12 B) (eS E) H locs) (hl : lv_has ls 3 [(0, .ref (vA V 12 0)), (2, .int l2)]) (hF : FX6_offers_32 B k4 l2 s0 s1 = some r) : Wq E H locs 32 ls [.int s0, .int s1] := by
  unfold FX6_offers_32 at hF
  refine q_iadd Cx dX6_offers_32 ?_
  obtain ⟨x9, e10, hF⟩ := lt1_some hF
  refine q_topi e10 ?_
  refine q_istore_n (lv' := [(1, .int x9), (0, .ref (vA V 12 0)), (2, .int l2)]) Cx dX6_offers_33 rfl hl (by decide) rfl (fun ls hl => ?_)
  obtain ⟨x11, e12, hF⟩ := lt1_some hF
  refine q_iinc (k := 2) (v := x11) (lv' := [(2, .int x11), (1, .int x9), (0, .ref (vA V 12 0))]) Cx dX6_offers_34 hl rfl e12.symm (by decide) rfl (fun ls hl => ?_)
  refine q_goto (tgt := 4) Cx dX6_offers_37 (by decide) ?_
  exact hk4 hW (lv_sub hl [2, 1, 0] rfl) hF
def FX6_offers_4s (B : Blk) (k4 : Int32 → Int32 → Option Int32) (l1 : Int32) (l2 : Int32) : Option Int32 :=
  ld (B 1) 356 (0 : Int32) fun v1 =>
  if v1 ≤ l2 then
    some l1
  else
    ld (B 1) 356 ((124 : Int32) + l2) fun v5 =>
    if v5 ≤ 0 then
      FX6_offers_32 B k4 l2 (0 : Int32) l1
    else
      FX6_offers_32 B k4 l2 (1 : Int32) l1
set_option maxRecDepth 100000 in
set_option maxHeartbeats 4000000 in
theorem wX6_offers_4s {E : WE} {V : VT} {A : Nat → Prop} {H0 : Heap} {M : Mem} (Cx : CX E RX6 cX6_offers 3 0 0) {r : Int32} {B : Blk} (hret : RetI E V A H0 cX6_offers .int r (jb M 12 B)) {k4 : Int32 → Int32 → Option Int32} (hk4 : ∀ {H : Heap} {locs : List Loc} {ls : Array Slot} {l1 : Int32} {l2 : Int32}, Wd V A H0 (jb M 12 B) (eS E) H locs → lv_has ls 3 [(0, .ref (vA V 12 0)), (1, .int l1), (2, .int l2)] → k4 l1 l2 = some r → Wq E H locs 4 ls []) {H : Heap} {locs : List Loc} {ls : Array Slot} {l1 : Int32} {l2 : Int32} (hW : Wd V A H0 (jb M 12 B) (eS E) H locs) (hl : lv_has ls 3 [(0, .ref (vA V 12 0)), (1, .int l1), (2, .int l2)]) (hF : FX6_offers_4s B k4 l1 l2 = some r) : Wq E H locs 4 ls [] := by
  unfold FX6_offers_4s at hF
  refine q_iload_n Cx dX6_offers_4 rfl (lv_at hl 2 rfl) ?_
  refine q_aload_n Cx dX6_offers_5 rfl (lv_at hl 0 rfl) ?_
  refine q_get (v := .ref (vA V 12 1)) Cx hW oZ ic6 0 (by decide) rfl wd_714 dX6_offers_6 ?_
  refine q_iconst (v := (0 : Int32)) Cx dX6_offers_9 (by decide) ?_
  obtain ⟨h2, v1, e3, hF⟩ := ld_some hF
  refine qb_iald Cx hW az_1 h2 e3 dX6_offers_10 ?_
  refine q_icmp_ge (tgt := 40) Cx dX6_offers_11 (by decide) (fun c4 => ?_) (fun c4 => ?_)
  · have hF := (if_pos c4).symm.trans hF
    refine q_iload_n Cx dX6_offers_40 rfl (lv_at hl 1 rfl) ?_
    obtain rfl := Option.some.inj hF
    exact hret _ _ _ _ dX6_offers_41 (nI32 _) hW
  · have hF := (if_neg c4).symm.trans hF
    refine q_iload_n Cx dX6_offers_14 rfl (lv_at hl 1 rfl) ?_
    refine q_aload_n Cx dX6_offers_15 rfl (lv_at hl 0 rfl) ?_
    refine q_get (v := .ref (vA V 12 1)) Cx hW oZ ic6 0 (by decide) rfl wd_714 dX6_offers_16 ?_
    refine q_bipush (v := (124 : Int32)) Cx dX6_offers_19 (by decide) ?_
    refine q_iload_n Cx dX6_offers_21 rfl (lv_at hl 2 rfl) ?_
    refine q_iadd Cx dX6_offers_22 ?_
    obtain ⟨h6, v5, e7, hF⟩ := ld_some hF
    refine qb_iald Cx hW az_1 h6 e7 dX6_offers_23 ?_
    refine q_if_le (tgt := 31) Cx dX6_offers_24 (by decide) (fun c8 => ?_) (fun c8 => ?_)
    · have hF := (if_pos c8).symm.trans hF
      refine q_iconst (v := (0 : Int32)) Cx dX6_offers_31 (by decide) ?_
      exact wX6_offers_32 Cx hret hk4 hW (lv_sub hl [0, 2] rfl) hF
    · have hF := (if_neg c8).symm.trans hF
      refine q_iconst (v := (1 : Int32)) Cx dX6_offers_27 (by decide) ?_
      refine q_goto (tgt := 32) Cx dX6_offers_28 (by decide) ?_
      exact wX6_offers_32 Cx hret hk4 hW (lv_sub hl [0, 2] rfl) hF
def FX6_offers_4 (B : Blk) : Nat → Int32 → Int32 → Option Int32
  | 0 => fun _ _ => none
  | n + 1 => FX6_offers_4s B (FX6_offers_4 B n)
set_option maxRecDepth 100000 in
theorem wX6_offers_4 {E : WE} {V : VT} {A : Nat → Prop} {H0 : Heap} {M : Mem} (Cx : CX E RX6 cX6_offers 3 0 0) {r : Int32} {B : Blk} (hret : RetI E V A H0 cX6_offers .int r (jb M 12 B)) : ∀ (n : Nat) {H : Heap} {locs : List Loc} {ls : Array Slot} {l1 : Int32} {l2 : Int32}, Wd V A H0 (jb M 12 B) (eS E) H locs → lv_has ls 3 [(0, .ref (vA V 12 0)), (1, .int l1), (2, .int l2)] → FX6_offers_4 B n l1 l2 = some r → Wq E H locs 4 ls [] := by
  intro n
  induction n with
  | zero => intro _ _ _ _ _ hW hl hF; cases hF
  | succ n ih => intro _ _ _ _ _ hW hl hF; exact wX6_offers_4s Cx hret ih hW hl hF
def FX6_offers (B : Blk) : Option Int32 :=
  FX6_offers_4 B fu (0 : Int32) (0 : Int32)
set_option maxRecDepth 100000 in
set_option maxHeartbeats 4000000 in
theorem wX6_offers {E : WE} {V : VT} {A : Nat → Prop} {H0 : Heap} {M : Mem} (Cx : CX E RX6 cX6_offers 3 0 0) {r : Int32} {B : Blk} (hret : RetI E V A H0 cX6_offers .int r (jb M 12 B)) {H : Heap} {locs : List Loc} {ls : Array Slot} (hW : Wd V A H0 (jb M 12 B) (eS E) H locs) (hl : lv_has ls 3 [(0, .ref (vA V 12 0))]) (hF : FX6_offers B = some r) : Wq E H locs 0 ls [] := by
  unfold FX6_offers at hF
  refine q_iconst (v := (0 : Int32)) Cx dX6_offers_0 (by decide) ?_
  refine q_istore_n (lv' := [(1, .int (0 : Int32)), (0, .ref (vA V 12 0))]) Cx dX6_offers_1 rfl hl (by decide) rfl (fun ls hl => ?_)
  refine q_iconst (v := (0 : Int32)) Cx dX6_offers_2 (by decide) ?_
  refine q_istore_n (lv' := [(2, .int (0 : Int32)), (1, .int (0 : Int32)), (0, .ref (vA V 12 0))]) Cx dX6_offers_3 rfl hl (by decide) rfl (fun ls hl => ?_)
  exact wX6_offers_4 Cx hret fu hW (lv_sub hl [2, 1, 0] rfl) hF
set_option maxRecDepth 100000 in
theorem kX6_offers {l : Launch} {V : VT} {M : Mem} {B : Blk} {r : Int32} (hF : FX6_offers B = some r) : MetI l V yX6_offers cX6_offers 3 .int ({ frames := 0, cells := 0, slots := 0, locals := 0 } : Room) [.ref (vA V 12 0)] r (jb M 12 B) (jb M 12 B) := metI_of (by decide) (Nat.le_of_ble_eq_true rfl) (fun E H0 _ Cx hret H locs ls hW hl => wX6_offers Cx hret hW hl hF)
theorem dX6_lateSet_0 : decode cX6_lateSet 0 = .ok (.iconst 0, 1) := by decide +kernel
theorem dX6_lateSet_1 : decode cX6_lateSet 1 = .ok (.istore_n 1, 1) := by decide +kernel
theorem dX6_lateSet_2 : decode cX6_lateSet 2 = .ok (.iconst 0, 1) := by decide +kernel
theorem dX6_lateSet_3 : decode cX6_lateSet 3 = .ok (.istore_n 2, 1) := by decide +kernel
theorem dX6_lateSet_4 : decode cX6_lateSet 4 = .ok (.iload_n 2, 1) := by decide +kernel
theorem dX6_lateSet_5 : decode cX6_lateSet 5 = .ok (.aload_n 0, 1) := by decide +kernel
theorem dX6_lateSet_6 : decode cX6_lateSet 6 = .ok (.getfield 7, 3) := by decide +kernel
theorem dX6_lateSet_9 : decode cX6_lateSet 9 = .ok (.iconst 0, 1) := by decide +kernel
theorem dX6_lateSet_10 : decode cX6_lateSet 10 = .ok (.iaload, 1) := by decide +kernel
theorem dX6_lateSet_11 : decode cX6_lateSet 11 = .ok (.if_icmp .ge 27, 3) := by decide +kernel
theorem dX6_lateSet_14 : decode cX6_lateSet 14 = .ok (.iload_n 1, 1) := by decide +kernel
theorem dX6_lateSet_15 : decode cX6_lateSet 15 = .ok (.aload_n 0, 1) := by decide +kernel
theorem dX6_lateSet_16 : decode cX6_lateSet 16 = .ok (.iload_n 2, 1) := by decide +kernel
theorem dX6_lateSet_17 : decode cX6_lateSet 17 = .ok (.invokevirtual 74, 3) := by decide +kernel
theorem dX6_lateSet_20 : decode cX6_lateSet 20 = .ok (.ifCond .le 9, 3) := by decide +kernel
theorem dX6_lateSet_23 : decode cX6_lateSet 23 = .ok (.iconst 1, 1) := by decide +kernel
theorem dX6_lateSet_24 : decode cX6_lateSet 24 = .ok (.iload_n 2, 1) := by decide +kernel
theorem dX6_lateSet_25 : decode cX6_lateSet 25 = .ok (.ishl, 1) := by decide +kernel
theorem dX6_lateSet_26 : decode cX6_lateSet 26 = .ok (.goto 4, 3) := by decide +kernel
theorem dX6_lateSet_29 : decode cX6_lateSet 29 = .ok (.iconst 0, 1) := by decide +kernel
theorem dX6_lateSet_30 : decode cX6_lateSet 30 = .ok (.ior, 1) := by decide +kernel
theorem dX6_lateSet_31 : decode cX6_lateSet 31 = .ok (.istore_n 1, 1) := by decide +kernel
theorem dX6_lateSet_32 : decode cX6_lateSet 32 = .ok (.iinc 2 1, 3) := by decide +kernel
theorem dX6_lateSet_35 : decode cX6_lateSet 35 = .ok (.goto (-31), 3) := by decide +kernel
theorem dX6_lateSet_38 : decode cX6_lateSet 38 = .ok (.iload_n 1, 1) := by decide +kernel
theorem dX6_lateSet_39 : decode cX6_lateSet 39 = .ok (.ireturn, 1) := by decide +kernel
theorem okX6_lateSet : CalOK yX6_lateSet cX6_lateSet 3 (some .int) 0 := ⟨wd_73, wd_955, by decide +kernel⟩
theorem ovX6_lateSet : VirOK yX6_lateSet := ⟨wd_954, wd_50⟩
def FX6_lateSet_30 (B : Blk) (k4 : Int32 → Int32 → Option Int32) (l2 : Int32) (s0 : Int32) (s1 : Int32) : Option Int32 :=
  lt1 (s1 ||| s0) fun x8 =>
  lt1 (l2 + (1 : Int32)) fun x10 =>
  k4 x8 x10
set_option maxRecDepth 100000 in
set_option maxHeartbeats 4000000 in
theorem wX6_lateSet_30 {E : WE} {V : VT} {A : Nat → Prop} {H0 : Heap} {M : Mem} (Cx : CX E RX6 cX6_lateSet 3 1 22) {r : Int32} {B : Blk} (hret : RetI E V A H0 cX6_lateSet .int r (jb M 12 B)) {k4 : Int32 → Int32 → Option Int32} (hk4 : ∀ {H : Heap} {locs : List Loc} {ls : Array Slot} {l1 : Int32} {l2 : Int32}, Wd V A H0 (jb M 12 B) (eS E) H locs → lv_has ls 3 [(0, .ref (vA V 12 0)), (1, .int l1), (2, .int l2)] → k4 l1 l2 = some r → Wq E H locs 4 ls []) {H : Heap} {locs : List Loc} {ls : Array Slot} {l2 : Int32} {s0 : Int32} {s1 : Int32} (hW : Wd V A H0 (jb M 12 B) (eS E) H locs) (hl : lv_has ls 3 [(0, .ref (vA V 12 0)), (2, .int l2)]) (hF : FX6_lateSet_30 B k4 l2 s0 s1 = some r) : Wq E H locs 30 ls [.int s0, .int s1] := by
  unfold FX6_lateSet_30 at hF
  refine q_ior Cx dX6_lateSet_30 ?_
  obtain ⟨x8, e9, hF⟩ := lt1_some hF
  refine q_topi e9 ?_
  refine q_istore_n (lv' := [(1, .int x8), (0, .ref (vA V 12 0)), (2, .int l2)]) Cx dX6_lateSet_31 rfl hl (by decide) rfl (fun ls hl => ?_)
  obtain ⟨x10, e11, hF⟩ := lt1_some hF
  refine q_iinc (k := 2) (v := x10) (lv' := [(2, .int x10), (1, .int x8), (0, .ref (vA V 12 0))]) Cx dX6_lateSet_32 hl rfl e11.symm (by decide) rfl (fun ls hl => ?_)
  refine q_goto (tgt := 4) Cx dX6_lateSet_35 (by decide) ?_
  exact hk4 hW (lv_sub hl [2, 1, 0] rfl) hF
def FX6_lateSet_4s (B : Blk) (k4 : Int32 → Int32 → Option Int32) (l1 : Int32) (l2 : Int32) : Option Int32 :=
  ld (B 1) 356 (0 : Int32) fun v1 =>
  if v1 ≤ l2 then
    some l1
  else
    c1 (FX6_late B l2) fun r5 =>
    if r5 ≤ 0 then
      FX6_lateSet_30 B k4 l2 (0 : Int32) l1
    else
      FX6_lateSet_30 B k4 l2 ((1 : Int32) <<< (l2 &&& 31)) l1
set_option maxRecDepth 100000 in
set_option maxHeartbeats 4000000 in
theorem wX6_lateSet_4s {E : WE} {V : VT} {A : Nat → Prop} {H0 : Heap} {M : Mem} (Cx : CX E RX6 cX6_lateSet 3 1 22) {r : Int32} {B : Blk} (hret : RetI E V A H0 cX6_lateSet .int r (jb M 12 B)) {k4 : Int32 → Int32 → Option Int32} (hk4 : ∀ {H : Heap} {locs : List Loc} {ls : Array Slot} {l1 : Int32} {l2 : Int32}, Wd V A H0 (jb M 12 B) (eS E) H locs → lv_has ls 3 [(0, .ref (vA V 12 0)), (1, .int l1), (2, .int l2)] → k4 l1 l2 = some r → Wq E H locs 4 ls []) {H : Heap} {locs : List Loc} {ls : Array Slot} {l1 : Int32} {l2 : Int32} (hW : Wd V A H0 (jb M 12 B) (eS E) H locs) (hl : lv_has ls 3 [(0, .ref (vA V 12 0)), (1, .int l1), (2, .int l2)]) (hF : FX6_lateSet_4s B k4 l1 l2 = some r) : Wq E H locs 4 ls [] := by
  unfold FX6_lateSet_4s at hF
  refine q_iload_n Cx dX6_lateSet_4 rfl (lv_at hl 2 rfl) ?_
  refine q_aload_n Cx dX6_lateSet_5 rfl (lv_at hl 0 rfl) ?_
  refine q_get (v := .ref (vA V 12 1)) Cx hW oZ ic6 0 (by decide) rfl wd_714 dX6_lateSet_6 ?_
  refine q_iconst (v := (0 : Int32)) Cx dX6_lateSet_9 (by decide) ?_
  obtain ⟨h2, v1, e3, hF⟩ := ld_some hF
  refine qb_iald Cx hW az_1 h2 e3 dX6_lateSet_10 ?_
  refine q_icmp_ge (tgt := 38) Cx dX6_lateSet_11 (by decide) (fun c4 => ?_) (fun c4 => ?_)
  · have hF := (if_pos c4).symm.trans hF
    refine q_iload_n Cx dX6_lateSet_38 rfl (lv_at hl 1 rfl) ?_
    obtain rfl := Option.some.inj hF
    exact hret _ _ _ _ dX6_lateSet_39 (nI32 _) hW
  · have hF := (if_neg c4).symm.trans hF
    refine q_iload_n Cx dX6_lateSet_14 rfl (lv_at hl 1 rfl) ?_
    refine q_aload_n Cx dX6_lateSet_15 rfl (lv_at hl 0 rfl) ?_
    refine q_iload_n Cx dX6_lateSet_16 rfl (lv_at hl 2 rfl) ?_
    obtain ⟨r5, e6, hF⟩ := c1_some hF
    refine q_callI (as := [.int l2]) (rest := [.int l1]) Cx (kX6_late e6) okX6_late ovX6_late wd_856 ⟨rfl, rfl, by decide, by decide⟩ hW oZ ic6 rfl hl.1 (Nat.le_of_ble_eq_true rfl) rfl dX6_lateSet_17 (fun H locs hW => ?_)
    refine q_if_le (tgt := 29) Cx dX6_lateSet_20 (by decide) (fun c7 => ?_) (fun c7 => ?_)
    · have hF := (if_pos c7).symm.trans hF
      refine q_iconst (v := (0 : Int32)) Cx dX6_lateSet_29 (by decide) ?_
      exact wX6_lateSet_30 Cx hret hk4 hW (lv_sub hl [0, 2] rfl) hF
    · have hF := (if_neg c7).symm.trans hF
      refine q_iconst (v := (1 : Int32)) Cx dX6_lateSet_23 (by decide) ?_
      refine q_iload_n Cx dX6_lateSet_24 rfl (lv_at hl 2 rfl) ?_
      refine q_ishl Cx dX6_lateSet_25 ?_
      refine q_goto (tgt := 30) Cx dX6_lateSet_26 (by decide) ?_
      exact wX6_lateSet_30 Cx hret hk4 hW (lv_sub hl [0, 2] rfl) hF
def FX6_lateSet_4 (B : Blk) : Nat → Int32 → Int32 → Option Int32
  | 0 => fun _ _ => none
  | n + 1 => FX6_lateSet_4s B (FX6_lateSet_4 B n)
set_option maxRecDepth 100000 in
theorem wX6_lateSet_4 {E : WE} {V : VT} {A : Nat → Prop} {H0 : Heap} {M : Mem} (Cx : CX E RX6 cX6_lateSet 3 1 22) {r : Int32} {B : Blk} (hret : RetI E V A H0 cX6_lateSet .int r (jb M 12 B)) : ∀ (n : Nat) {H : Heap} {locs : List Loc} {ls : Array Slot} {l1 : Int32} {l2 : Int32}, Wd V A H0 (jb M 12 B) (eS E) H locs → lv_has ls 3 [(0, .ref (vA V 12 0)), (1, .int l1), (2, .int l2)] → FX6_lateSet_4 B n l1 l2 = some r → Wq E H locs 4 ls [] := by
  intro n
  induction n with
  | zero => intro _ _ _ _ _ hW hl hF; cases hF
  | succ n ih => intro _ _ _ _ _ hW hl hF; exact wX6_lateSet_4s Cx hret ih hW hl hF
def FX6_lateSet (B : Blk) : Option Int32 :=
  FX6_lateSet_4 B fu (0 : Int32) (0 : Int32)
set_option maxRecDepth 100000 in
set_option maxHeartbeats 4000000 in
theorem wX6_lateSet {E : WE} {V : VT} {A : Nat → Prop} {H0 : Heap} {M : Mem} (Cx : CX E RX6 cX6_lateSet 3 1 22) {r : Int32} {B : Blk} (hret : RetI E V A H0 cX6_lateSet .int r (jb M 12 B)) {H : Heap} {locs : List Loc} {ls : Array Slot} (hW : Wd V A H0 (jb M 12 B) (eS E) H locs) (hl : lv_has ls 3 [(0, .ref (vA V 12 0))]) (hF : FX6_lateSet B = some r) : Wq E H locs 0 ls [] := by
  unfold FX6_lateSet at hF
  refine q_iconst (v := (0 : Int32)) Cx dX6_lateSet_0 (by decide) ?_
  refine q_istore_n (lv' := [(1, .int (0 : Int32)), (0, .ref (vA V 12 0))]) Cx dX6_lateSet_1 rfl hl (by decide) rfl (fun ls hl => ?_)
  refine q_iconst (v := (0 : Int32)) Cx dX6_lateSet_2 (by decide) ?_
  refine q_istore_n (lv' := [(2, .int (0 : Int32)), (1, .int (0 : Int32)), (0, .ref (vA V 12 0))]) Cx dX6_lateSet_3 rfl hl (by decide) rfl (fun ls hl => ?_)
  exact wX6_lateSet_4 Cx hret fu hW (lv_sub hl [2, 1, 0] rfl) hF
set_option maxRecDepth 100000 in
theorem kX6_lateSet {l : Launch} {V : VT} {M : Mem} {B : Blk} {r : Int32} (hF : FX6_lateSet B = some r) : MetI l V yX6_lateSet cX6_lateSet 3 .int ({ frames := 1, cells := 0, slots := 0, locals := 22 } : Room) [.ref (vA V 12 0)] r (jb M 12 B) (jb M 12 B) := metI_of (by decide) (Nat.le_of_ble_eq_true rfl) (fun E H0 _ Cx hret H locs ls hW hl => wX6_lateSet Cx hret hW hl hF)
theorem dX6_endOfAll_0 : decode cX6_endOfAll 0 = .ok (.iconst 0, 1) := by decide +kernel
theorem dX6_endOfAll_1 : decode cX6_endOfAll 1 = .ok (.istore_n 1, 1) := by decide +kernel
theorem dX6_endOfAll_2 : decode cX6_endOfAll 2 = .ok (.iconst 0, 1) := by decide +kernel
theorem dX6_endOfAll_3 : decode cX6_endOfAll 3 = .ok (.istore_n 2, 1) := by decide +kernel
theorem dX6_endOfAll_4 : decode cX6_endOfAll 4 = .ok (.iload_n 2, 1) := by decide +kernel
theorem dX6_endOfAll_5 : decode cX6_endOfAll 5 = .ok (.aload_n 0, 1) := by decide +kernel
theorem dX6_endOfAll_6 : decode cX6_endOfAll 6 = .ok (.getfield 7, 3) := by decide +kernel
theorem dX6_endOfAll_9 : decode cX6_endOfAll 9 = .ok (.iconst 0, 1) := by decide +kernel
theorem dX6_endOfAll_10 : decode cX6_endOfAll 10 = .ok (.iaload, 1) := by decide +kernel
theorem dX6_endOfAll_11 : decode cX6_endOfAll 11 = .ok (.if_icmp .ge 30, 3) := by decide +kernel
theorem dX6_endOfAll_14 : decode cX6_endOfAll 14 = .ok (.aload_n 0, 1) := by decide +kernel
theorem dX6_endOfAll_15 : decode cX6_endOfAll 15 = .ok (.getfield 33, 3) := by decide +kernel
theorem dX6_endOfAll_18 : decode cX6_endOfAll 18 = .ok (.iload_n 2, 1) := by decide +kernel
theorem dX6_endOfAll_19 : decode cX6_endOfAll 19 = .ok (.iaload, 1) := by decide +kernel
theorem dX6_endOfAll_20 : decode cX6_endOfAll 20 = .ok (.iload_n 1, 1) := by decide +kernel
theorem dX6_endOfAll_21 : decode cX6_endOfAll 21 = .ok (.if_icmp .le 12, 3) := by decide +kernel
theorem dX6_endOfAll_24 : decode cX6_endOfAll 24 = .ok (.aload_n 0, 1) := by decide +kernel
theorem dX6_endOfAll_25 : decode cX6_endOfAll 25 = .ok (.getfield 33, 3) := by decide +kernel
theorem dX6_endOfAll_28 : decode cX6_endOfAll 28 = .ok (.iload_n 2, 1) := by decide +kernel
theorem dX6_endOfAll_29 : decode cX6_endOfAll 29 = .ok (.iaload, 1) := by decide +kernel
theorem dX6_endOfAll_30 : decode cX6_endOfAll 30 = .ok (.goto 4, 3) := by decide +kernel
theorem dX6_endOfAll_33 : decode cX6_endOfAll 33 = .ok (.iload_n 1, 1) := by decide +kernel
theorem dX6_endOfAll_34 : decode cX6_endOfAll 34 = .ok (.istore_n 1, 1) := by decide +kernel
theorem dX6_endOfAll_35 : decode cX6_endOfAll 35 = .ok (.iinc 2 1, 3) := by decide +kernel
theorem dX6_endOfAll_38 : decode cX6_endOfAll 38 = .ok (.goto (-34), 3) := by decide +kernel
theorem dX6_endOfAll_41 : decode cX6_endOfAll 41 = .ok (.iload_n 1, 1) := by decide +kernel
theorem dX6_endOfAll_42 : decode cX6_endOfAll 42 = .ok (.ireturn, 1) := by decide +kernel
theorem okX6_endOfAll : CalOK yX6_endOfAll cX6_endOfAll 3 (some .int) 0 := ⟨wd_73, wd_959, by decide +kernel⟩
theorem ovX6_endOfAll : VirOK yX6_endOfAll := ⟨wd_958, wd_51⟩
def FX6_endOfAll_4s (B : Blk) (k4 : Int32 → Int32 → Option Int32) (l1 : Int32) (l2 : Int32) : Option Int32 :=
  ld (B 1) 356 (0 : Int32) fun v1 =>
  if v1 ≤ l2 then
    some l1
  else
    ld (B 8) 24 l2 fun v5 =>
    if v5 ≤ l1 then
      lt1 (l2 + (1 : Int32)) fun x9 =>
      k4 l1 x9
    else
      ld (B 8) 24 l2 fun v11 =>
      lt1 (l2 + (1 : Int32)) fun x14 =>
      k4 v11 x14
set_option maxRecDepth 100000 in
set_option maxHeartbeats 4000000 in
theorem wX6_endOfAll_4s {E : WE} {V : VT} {A : Nat → Prop} {H0 : Heap} {M : Mem} (Cx : CX E RX6 cX6_endOfAll 3 0 0) {r : Int32} {B : Blk} (hret : RetI E V A H0 cX6_endOfAll .int r (jb M 12 B)) {k4 : Int32 → Int32 → Option Int32} (hk4 : ∀ {H : Heap} {locs : List Loc} {ls : Array Slot} {l1 : Int32} {l2 : Int32}, Wd V A H0 (jb M 12 B) (eS E) H locs → lv_has ls 3 [(0, .ref (vA V 12 0)), (1, .int l1), (2, .int l2)] → k4 l1 l2 = some r → Wq E H locs 4 ls []) {H : Heap} {locs : List Loc} {ls : Array Slot} {l1 : Int32} {l2 : Int32} (hW : Wd V A H0 (jb M 12 B) (eS E) H locs) (hl : lv_has ls 3 [(0, .ref (vA V 12 0)), (1, .int l1), (2, .int l2)]) (hF : FX6_endOfAll_4s B k4 l1 l2 = some r) : Wq E H locs 4 ls [] := by
  unfold FX6_endOfAll_4s at hF
  refine q_iload_n Cx dX6_endOfAll_4 rfl (lv_at hl 2 rfl) ?_
  refine q_aload_n Cx dX6_endOfAll_5 rfl (lv_at hl 0 rfl) ?_
  refine q_get (v := .ref (vA V 12 1)) Cx hW oZ ic6 0 (by decide) rfl wd_714 dX6_endOfAll_6 ?_
  refine q_iconst (v := (0 : Int32)) Cx dX6_endOfAll_9 (by decide) ?_
  obtain ⟨h2, v1, e3, hF⟩ := ld_some hF
  refine qb_iald Cx hW az_1 h2 e3 dX6_endOfAll_10 ?_
  refine q_icmp_ge (tgt := 41) Cx dX6_endOfAll_11 (by decide) (fun c4 => ?_) (fun c4 => ?_)
  · have hF := (if_pos c4).symm.trans hF
    refine q_iload_n Cx dX6_endOfAll_41 rfl (lv_at hl 1 rfl) ?_
    obtain rfl := Option.some.inj hF
    exact hret _ _ _ _ dX6_endOfAll_42 (nI32 _) hW
  · have hF := (if_neg c4).symm.trans hF
    refine q_aload_n Cx dX6_endOfAll_14 rfl (lv_at hl 0 rfl) ?_
    refine q_get (v := .ref (vA V 12 8)) Cx hW oZ ic6 10 (by decide) rfl wd_724 dX6_endOfAll_15 ?_
    refine q_iload_n Cx dX6_endOfAll_18 rfl (lv_at hl 2 rfl) ?_
    obtain ⟨h6, v5, e7, hF⟩ := ld_some hF
    refine qb_iald Cx hW az_8 h6 e7 dX6_endOfAll_19 ?_
    refine q_iload_n Cx dX6_endOfAll_20 rfl (lv_at hl 1 rfl) ?_
    refine q_icmp_le (tgt := 33) Cx dX6_endOfAll_21 (by decide) (fun c8 => ?_) (fun c8 => ?_)
    · have hF := (if_pos c8).symm.trans hF
      refine q_iload_n Cx dX6_endOfAll_33 rfl (lv_at hl 1 rfl) ?_
      refine q_istore_n (lv' := [(1, .int l1), (0, .ref (vA V 12 0)), (2, .int l2)]) Cx dX6_endOfAll_34 rfl hl (by decide) rfl (fun ls hl => ?_)
      obtain ⟨x9, e10, hF⟩ := lt1_some hF
      refine q_iinc (k := 2) (v := x9) (lv' := [(2, .int x9), (1, .int l1), (0, .ref (vA V 12 0))]) Cx dX6_endOfAll_35 hl rfl e10.symm (by decide) rfl (fun ls hl => ?_)
      refine q_goto (tgt := 4) Cx dX6_endOfAll_38 (by decide) ?_
      exact hk4 hW (lv_sub hl [2, 1, 0] rfl) hF
    · have hF := (if_neg c8).symm.trans hF
      refine q_aload_n Cx dX6_endOfAll_24 rfl (lv_at hl 0 rfl) ?_
      refine q_get (v := .ref (vA V 12 8)) Cx hW oZ ic6 10 (by decide) rfl wd_724 dX6_endOfAll_25 ?_
      refine q_iload_n Cx dX6_endOfAll_28 rfl (lv_at hl 2 rfl) ?_
      obtain ⟨h12, v11, e13, hF⟩ := ld_some hF
      refine qb_iald Cx hW az_8 h12 e13 dX6_endOfAll_29 ?_
      refine q_goto (tgt := 34) Cx dX6_endOfAll_30 (by decide) ?_
      refine q_istore_n (lv' := [(1, .int v11), (0, .ref (vA V 12 0)), (2, .int l2)]) Cx dX6_endOfAll_34 rfl hl (by decide) rfl (fun ls hl => ?_)
      obtain ⟨x14, e15, hF⟩ := lt1_some hF
      refine q_iinc (k := 2) (v := x14) (lv' := [(2, .int x14), (1, .int v11), (0, .ref (vA V 12 0))]) Cx dX6_endOfAll_35 hl rfl e15.symm (by decide) rfl (fun ls hl => ?_)
      refine q_goto (tgt := 4) Cx dX6_endOfAll_38 (by decide) ?_
      exact hk4 hW (lv_sub hl [2, 1, 0] rfl) hF
def FX6_endOfAll_4 (B : Blk) : Nat → Int32 → Int32 → Option Int32
  | 0 => fun _ _ => none
  | n + 1 => FX6_endOfAll_4s B (FX6_endOfAll_4 B n)
set_option maxRecDepth 100000 in
theorem wX6_endOfAll_4 {E : WE} {V : VT} {A : Nat → Prop} {H0 : Heap} {M : Mem} (Cx : CX E RX6 cX6_endOfAll 3 0 0) {r : Int32} {B : Blk} (hret : RetI E V A H0 cX6_endOfAll .int r (jb M 12 B)) : ∀ (n : Nat) {H : Heap} {locs : List Loc} {ls : Array Slot} {l1 : Int32} {l2 : Int32}, Wd V A H0 (jb M 12 B) (eS E) H locs → lv_has ls 3 [(0, .ref (vA V 12 0)), (1, .int l1), (2, .int l2)] → FX6_endOfAll_4 B n l1 l2 = some r → Wq E H locs 4 ls [] := by
  intro n
  induction n with
  | zero => intro _ _ _ _ _ hW hl hF; cases hF
  | succ n ih => intro _ _ _ _ _ hW hl hF; exact wX6_endOfAll_4s Cx hret ih hW hl hF
def FX6_endOfAll (B : Blk) : Option Int32 :=
  FX6_endOfAll_4 B fu (0 : Int32) (0 : Int32)
set_option maxRecDepth 100000 in
set_option maxHeartbeats 4000000 in
theorem wX6_endOfAll {E : WE} {V : VT} {A : Nat → Prop} {H0 : Heap} {M : Mem} (Cx : CX E RX6 cX6_endOfAll 3 0 0) {r : Int32} {B : Blk} (hret : RetI E V A H0 cX6_endOfAll .int r (jb M 12 B)) {H : Heap} {locs : List Loc} {ls : Array Slot} (hW : Wd V A H0 (jb M 12 B) (eS E) H locs) (hl : lv_has ls 3 [(0, .ref (vA V 12 0))]) (hF : FX6_endOfAll B = some r) : Wq E H locs 0 ls [] := by
  unfold FX6_endOfAll at hF
  refine q_iconst (v := (0 : Int32)) Cx dX6_endOfAll_0 (by decide) ?_
  refine q_istore_n (lv' := [(1, .int (0 : Int32)), (0, .ref (vA V 12 0))]) Cx dX6_endOfAll_1 rfl hl (by decide) rfl (fun ls hl => ?_)
  refine q_iconst (v := (0 : Int32)) Cx dX6_endOfAll_2 (by decide) ?_
  refine q_istore_n (lv' := [(2, .int (0 : Int32)), (1, .int (0 : Int32)), (0, .ref (vA V 12 0))]) Cx dX6_endOfAll_3 rfl hl (by decide) rfl (fun ls hl => ?_)
  exact wX6_endOfAll_4 Cx hret fu hW (lv_sub hl [2, 1, 0] rfl) hF
set_option maxRecDepth 100000 in
theorem kX6_endOfAll {l : Launch} {V : VT} {M : Mem} {B : Blk} {r : Int32} (hF : FX6_endOfAll B = some r) : MetI l V yX6_endOfAll cX6_endOfAll 3 .int ({ frames := 0, cells := 0, slots := 0, locals := 0 } : Room) [.ref (vA V 12 0)] r (jb M 12 B) (jb M 12 B) := metI_of (by decide) (Nat.le_of_ble_eq_true rfl) (fun E H0 _ Cx hret H locs ls hW hl => wX6_endOfAll Cx hret hW hl hF)
theorem dX6_sumOf_0 : decode cX6_sumOf 0 = .ok (.iconst 0, 1) := by decide +kernel
theorem dX6_sumOf_1 : decode cX6_sumOf 1 = .ok (.istore_n 3, 1) := by decide +kernel
theorem dX6_sumOf_2 : decode cX6_sumOf 2 = .ok (.iconst 0, 1) := by decide +kernel
theorem dX6_sumOf_3 : decode cX6_sumOf 3 = .ok (.istore 4, 2) := by decide +kernel
theorem dX6_sumOf_5 : decode cX6_sumOf 5 = .ok (.iload 4, 2) := by decide +kernel
theorem dX6_sumOf_7 : decode cX6_sumOf 7 = .ok (.iload_n 2, 1) := by decide +kernel
theorem dX6_sumOf_8 : decode cX6_sumOf 8 = .ok (.if_icmp .ge 21, 3) := by decide +kernel
theorem dX6_sumOf_11 : decode cX6_sumOf 11 = .ok (.iload_n 3, 1) := by decide +kernel
theorem dX6_sumOf_12 : decode cX6_sumOf 12 = .ok (.aload_n 0, 1) := by decide +kernel
theorem dX6_sumOf_13 : decode cX6_sumOf 13 = .ok (.getfield 7, 3) := by decide +kernel
theorem dX6_sumOf_16 : decode cX6_sumOf 16 = .ok (.iload_n 1, 1) := by decide +kernel
theorem dX6_sumOf_17 : decode cX6_sumOf 17 = .ok (.iload 4, 2) := by decide +kernel
theorem dX6_sumOf_19 : decode cX6_sumOf 19 = .ok (.iadd, 1) := by decide +kernel
theorem dX6_sumOf_20 : decode cX6_sumOf 20 = .ok (.iaload, 1) := by decide +kernel
theorem dX6_sumOf_21 : decode cX6_sumOf 21 = .ok (.iadd, 1) := by decide +kernel
theorem dX6_sumOf_22 : decode cX6_sumOf 22 = .ok (.istore_n 3, 1) := by decide +kernel
theorem dX6_sumOf_23 : decode cX6_sumOf 23 = .ok (.iinc 4 1, 3) := by decide +kernel
theorem dX6_sumOf_26 : decode cX6_sumOf 26 = .ok (.goto (-21), 3) := by decide +kernel
theorem dX6_sumOf_29 : decode cX6_sumOf 29 = .ok (.iload_n 3, 1) := by decide +kernel
theorem dX6_sumOf_30 : decode cX6_sumOf 30 = .ok (.ireturn, 1) := by decide +kernel
theorem okX6_sumOf : CalOK yX6_sumOf cX6_sumOf 5 (some .int) 2 := ⟨wd_73, wd_963, by decide +kernel⟩
theorem ovX6_sumOf : VirOK yX6_sumOf := ⟨wd_962, wd_52⟩
def FX6_sumOf_5s (B : Blk) (k5 : Int32 → Int32 → Int32 → Int32 → Option Int32) (l1 : Int32) (l2 : Int32) (l3 : Int32) (l4 : Int32) : Option Int32 :=
  if l2 ≤ l4 then
    some l3
  else
    ld (B 1) 356 (l1 + l4) fun v2 =>
    lt1 (l3 + v2) fun x5 =>
    lt1 (l4 + (1 : Int32)) fun x7 =>
    k5 l1 l2 x5 x7
set_option maxRecDepth 100000 in
set_option maxHeartbeats 4000000 in
theorem wX6_sumOf_5s {E : WE} {V : VT} {A : Nat → Prop} {H0 : Heap} {M : Mem} (Cx : CX E RX6 cX6_sumOf 5 0 0) {r : Int32} {B : Blk} (hret : RetI E V A H0 cX6_sumOf .int r (jb M 12 B)) {k5 : Int32 → Int32 → Int32 → Int32 → Option Int32} (hk5 : ∀ {H : Heap} {locs : List Loc} {ls : Array Slot} {l1 : Int32} {l2 : Int32} {l3 : Int32} {l4 : Int32}, Wd V A H0 (jb M 12 B) (eS E) H locs → lv_has ls 5 [(0, .ref (vA V 12 0)), (1, .int l1), (2, .int l2), (3, .int l3), (4, .int l4)] → k5 l1 l2 l3 l4 = some r → Wq E H locs 5 ls []) {H : Heap} {locs : List Loc} {ls : Array Slot} {l1 : Int32} {l2 : Int32} {l3 : Int32} {l4 : Int32} (hW : Wd V A H0 (jb M 12 B) (eS E) H locs) (hl : lv_has ls 5 [(0, .ref (vA V 12 0)), (1, .int l1), (2, .int l2), (3, .int l3), (4, .int l4)]) (hF : FX6_sumOf_5s B k5 l1 l2 l3 l4 = some r) : Wq E H locs 5 ls [] := by
  unfold FX6_sumOf_5s at hF
  refine q_iload Cx dX6_sumOf_5 (lv_at hl 4 rfl) ?_
  refine q_iload_n Cx dX6_sumOf_7 rfl (lv_at hl 2 rfl) ?_
  refine q_icmp_ge (tgt := 29) Cx dX6_sumOf_8 (by decide) (fun c1 => ?_) (fun c1 => ?_)
  · have hF := (if_pos c1).symm.trans hF
    refine q_iload_n Cx dX6_sumOf_29 rfl (lv_at hl 3 rfl) ?_
    obtain rfl := Option.some.inj hF
    exact hret _ _ _ _ dX6_sumOf_30 (nI32 _) hW
  · have hF := (if_neg c1).symm.trans hF
    refine q_iload_n Cx dX6_sumOf_11 rfl (lv_at hl 3 rfl) ?_
    refine q_aload_n Cx dX6_sumOf_12 rfl (lv_at hl 0 rfl) ?_
    refine q_get (v := .ref (vA V 12 1)) Cx hW oZ ic6 0 (by decide) rfl wd_714 dX6_sumOf_13 ?_
    refine q_iload_n Cx dX6_sumOf_16 rfl (lv_at hl 1 rfl) ?_
    refine q_iload Cx dX6_sumOf_17 (lv_at hl 4 rfl) ?_
    refine q_iadd Cx dX6_sumOf_19 ?_
    obtain ⟨h3, v2, e4, hF⟩ := ld_some hF
    refine qb_iald Cx hW az_1 h3 e4 dX6_sumOf_20 ?_
    refine q_iadd Cx dX6_sumOf_21 ?_
    obtain ⟨x5, e6, hF⟩ := lt1_some hF
    refine q_topi e6 ?_
    refine q_istore_n (lv' := [(3, .int x5), (0, .ref (vA V 12 0)), (1, .int l1), (2, .int l2), (4, .int l4)]) Cx dX6_sumOf_22 rfl hl (by decide) rfl (fun ls hl => ?_)
    obtain ⟨x7, e8, hF⟩ := lt1_some hF
    refine q_iinc (k := 4) (v := x7) (lv' := [(4, .int x7), (3, .int x5), (0, .ref (vA V 12 0)), (1, .int l1), (2, .int l2)]) Cx dX6_sumOf_23 hl rfl e8.symm (by decide) rfl (fun ls hl => ?_)
    refine q_goto (tgt := 5) Cx dX6_sumOf_26 (by decide) ?_
    exact hk5 hW (lv_sub hl [2, 3, 4, 1, 0] rfl) hF
def FX6_sumOf_5 (B : Blk) : Nat → Int32 → Int32 → Int32 → Int32 → Option Int32
  | 0 => fun _ _ _ _ => none
  | n + 1 => FX6_sumOf_5s B (FX6_sumOf_5 B n)
set_option maxRecDepth 100000 in
theorem wX6_sumOf_5 {E : WE} {V : VT} {A : Nat → Prop} {H0 : Heap} {M : Mem} (Cx : CX E RX6 cX6_sumOf 5 0 0) {r : Int32} {B : Blk} (hret : RetI E V A H0 cX6_sumOf .int r (jb M 12 B)) : ∀ (n : Nat) {H : Heap} {locs : List Loc} {ls : Array Slot} {l1 : Int32} {l2 : Int32} {l3 : Int32} {l4 : Int32}, Wd V A H0 (jb M 12 B) (eS E) H locs → lv_has ls 5 [(0, .ref (vA V 12 0)), (1, .int l1), (2, .int l2), (3, .int l3), (4, .int l4)] → FX6_sumOf_5 B n l1 l2 l3 l4 = some r → Wq E H locs 5 ls [] := by
  intro n
  induction n with
  | zero => intro _ _ _ _ _ _ _ hW hl hF; cases hF
  | succ n ih => intro _ _ _ _ _ _ _ hW hl hF; exact wX6_sumOf_5s Cx hret ih hW hl hF
def FX6_sumOf (B : Blk) (l1 : Int32) (l2 : Int32) : Option Int32 :=
  FX6_sumOf_5 B fu l1 l2 (0 : Int32) (0 : Int32)
set_option maxRecDepth 100000 in
set_option maxHeartbeats 4000000 in
theorem wX6_sumOf {E : WE} {V : VT} {A : Nat → Prop} {H0 : Heap} {M : Mem} (Cx : CX E RX6 cX6_sumOf 5 0 0) {r : Int32} {B : Blk} (hret : RetI E V A H0 cX6_sumOf .int r (jb M 12 B)) {H : Heap} {locs : List Loc} {ls : Array Slot} {l1 : Int32} {l2 : Int32} (hW : Wd V A H0 (jb M 12 B) (eS E) H locs) (hl : lv_has ls 5 [(0, .ref (vA V 12 0)), (1, .int l1), (2, .int l2)]) (hF : FX6_sumOf B l1 l2 = some r) : Wq E H locs 0 ls [] := by
  unfold FX6_sumOf at hF
  refine q_iconst (v := (0 : Int32)) Cx dX6_sumOf_0 (by decide) ?_
  refine q_istore_n (lv' := [(3, .int (0 : Int32)), (0, .ref (vA V 12 0)), (1, .int l1), (2, .int l2)]) Cx dX6_sumOf_1 rfl hl (by decide) rfl (fun ls hl => ?_)
  refine q_iconst (v := (0 : Int32)) Cx dX6_sumOf_2 (by decide) ?_
  refine q_istore (lv' := [(4, .int (0 : Int32)), (3, .int (0 : Int32)), (0, .ref (vA V 12 0)), (1, .int l1), (2, .int l2)]) Cx dX6_sumOf_3 hl (by decide) rfl (fun ls hl => ?_)
  exact wX6_sumOf_5 Cx hret fu hW (lv_sub hl [2, 3, 4, 1, 0] rfl) hF
set_option maxRecDepth 100000 in
theorem kX6_sumOf {l : Launch} {V : VT} {M : Mem} {B : Blk} {l1 : Int32} {l2 : Int32} {r : Int32} (hF : FX6_sumOf B l1 l2 = some r) : MetI l V yX6_sumOf cX6_sumOf 5 .int ({ frames := 0, cells := 0, slots := 0, locals := 0 } : Room) [.ref (vA V 12 0), .int l1, .int l2] r (jb M 12 B) (jb M 12 B) := metI_of (by decide) (Nat.le_of_ble_eq_true rfl) (fun E H0 _ Cx hret H locs ls hW hl => wX6_sumOf Cx hret hW hl hF)
theorem dX6_count_0 : decode cX6_count 0 = .ok (.iload_n 1, 1) := by decide +kernel
theorem dX6_count_1 : decode cX6_count 1 = .ok (.iconst 0, 1) := by decide +kernel
theorem dX6_count_2 : decode cX6_count 2 = .ok (.bipush 15, 2) := by decide +kernel
theorem dX6_count_4 : decode cX6_count 4 = .ok (.invokestatic 56, 3) := by decide +kernel
theorem dX6_count_7 : decode cX6_count 7 = .ok (.ifCond .ne 6, 3) := by decide +kernel
theorem dX6_count_10 : decode cX6_count 10 = .ok (.bipush (-2), 2) := by decide +kernel
theorem dX6_count_12 : decode cX6_count 12 = .ok (.ireturn, 1) := by decide +kernel
theorem dX6_count_13 : decode cX6_count 13 = .ok (.aload_n 0, 1) := by decide +kernel
theorem dX6_count_14 : decode cX6_count 14 = .ok (.invokevirtual 77, 3) := by decide +kernel
theorem dX6_count_17 : decode cX6_count 17 = .ok (.pop, 1) := by decide +kernel
theorem dX6_count_18 : decode cX6_count 18 = .ok (.iload_n 1, 1) := by decide +kernel
theorem dX6_count_19 : decode cX6_count 19 = .ok (.tableswitch 124 0 9 #[53, 60, 67, 72, 77, 82, 87, 100, 114, 119], 53) := by decide +kernel
theorem dX6_count_72 : decode cX6_count 72 = .ok (.aload_n 0, 1) := by decide +kernel
theorem dX6_count_73 : decode cX6_count 73 = .ok (.getfield 7, 3) := by decide +kernel
theorem dX6_count_76 : decode cX6_count 76 = .ok (.iconst 0, 1) := by decide +kernel
theorem dX6_count_77 : decode cX6_count 77 = .ok (.iaload, 1) := by decide +kernel
theorem dX6_count_78 : decode cX6_count 78 = .ok (.ireturn, 1) := by decide +kernel
theorem dX6_count_79 : decode cX6_count 79 = .ok (.aload_n 0, 1) := by decide +kernel
theorem dX6_count_80 : decode cX6_count 80 = .ok (.getfield 7, 3) := by decide +kernel
theorem dX6_count_83 : decode cX6_count 83 = .ok (.iconst 3, 1) := by decide +kernel
theorem dX6_count_84 : decode cX6_count 84 = .ok (.iaload, 1) := by decide +kernel
theorem dX6_count_85 : decode cX6_count 85 = .ok (.ireturn, 1) := by decide +kernel
theorem dX6_count_86 : decode cX6_count 86 = .ok (.aload_n 0, 1) := by decide +kernel
theorem dX6_count_87 : decode cX6_count 87 = .ok (.invokevirtual 150, 3) := by decide +kernel
theorem dX6_count_90 : decode cX6_count 90 = .ok (.ireturn, 1) := by decide +kernel
theorem dX6_count_91 : decode cX6_count 91 = .ok (.aload_n 0, 1) := by decide +kernel
theorem dX6_count_92 : decode cX6_count 92 = .ok (.invokevirtual 153, 3) := by decide +kernel
theorem dX6_count_95 : decode cX6_count 95 = .ok (.ireturn, 1) := by decide +kernel
theorem dX6_count_96 : decode cX6_count 96 = .ok (.aload_n 0, 1) := by decide +kernel
theorem dX6_count_97 : decode cX6_count 97 = .ok (.invokevirtual 81, 3) := by decide +kernel
theorem dX6_count_100 : decode cX6_count 100 = .ok (.ireturn, 1) := by decide +kernel
theorem dX6_count_101 : decode cX6_count 101 = .ok (.aload_n 0, 1) := by decide +kernel
theorem dX6_count_102 : decode cX6_count 102 = .ok (.invokevirtual 156, 3) := by decide +kernel
theorem dX6_count_105 : decode cX6_count 105 = .ok (.ireturn, 1) := by decide +kernel
theorem dX6_count_106 : decode cX6_count 106 = .ok (.aload_n 0, 1) := by decide +kernel
theorem dX6_count_107 : decode cX6_count 107 = .ok (.bipush 76, 2) := by decide +kernel
theorem dX6_count_109 : decode cX6_count 109 = .ok (.aload_n 0, 1) := by decide +kernel
theorem dX6_count_110 : decode cX6_count 110 = .ok (.getfield 7, 3) := by decide +kernel
theorem dX6_count_113 : decode cX6_count 113 = .ok (.iconst 0, 1) := by decide +kernel
theorem dX6_count_114 : decode cX6_count 114 = .ok (.iaload, 1) := by decide +kernel
theorem dX6_count_115 : decode cX6_count 115 = .ok (.invokevirtual 159, 3) := by decide +kernel
theorem dX6_count_118 : decode cX6_count 118 = .ok (.ireturn, 1) := by decide +kernel
theorem dX6_count_119 : decode cX6_count 119 = .ok (.aload_n 0, 1) := by decide +kernel
theorem dX6_count_120 : decode cX6_count 120 = .ok (.sipush 276, 3) := by decide +kernel
theorem dX6_count_123 : decode cX6_count 123 = .ok (.aload_n 0, 1) := by decide +kernel
theorem dX6_count_124 : decode cX6_count 124 = .ok (.getfield 7, 3) := by decide +kernel
theorem dX6_count_127 : decode cX6_count 127 = .ok (.iconst 3, 1) := by decide +kernel
theorem dX6_count_128 : decode cX6_count 128 = .ok (.iaload, 1) := by decide +kernel
theorem dX6_count_129 : decode cX6_count 129 = .ok (.invokevirtual 159, 3) := by decide +kernel
theorem dX6_count_132 : decode cX6_count 132 = .ok (.ireturn, 1) := by decide +kernel
theorem dX6_count_133 : decode cX6_count 133 = .ok (.aload_n 0, 1) := by decide +kernel
theorem dX6_count_134 : decode cX6_count 134 = .ok (.getfield 162, 3) := by decide +kernel
theorem dX6_count_137 : decode cX6_count 137 = .ok (.ireturn, 1) := by decide +kernel
theorem dX6_count_138 : decode cX6_count 138 = .ok (.aload_n 0, 1) := by decide +kernel
theorem dX6_count_139 : decode cX6_count 139 = .ok (.getfield 53, 3) := by decide +kernel
theorem dX6_count_142 : decode cX6_count 142 = .ok (.ireturn, 1) := by decide +kernel
theorem dX6_count_143 : decode cX6_count 143 = .ok (.iload_n 1, 1) := by decide +kernel
theorem dX6_count_144 : decode cX6_count 144 = .ok (.bipush 12, 2) := by decide +kernel
theorem dX6_count_146 : decode cX6_count 146 = .ok (.if_icmp .ge 17, 3) := by decide +kernel
theorem dX6_count_149 : decode cX6_count 149 = .ok (.aload_n 0, 1) := by decide +kernel
theorem dX6_count_150 : decode cX6_count 150 = .ok (.getfield 7, 3) := by decide +kernel
theorem dX6_count_153 : decode cX6_count 153 = .ok (.iconst 1, 1) := by decide +kernel
theorem dX6_count_154 : decode cX6_count 154 = .ok (.iload_n 1, 1) := by decide +kernel
theorem dX6_count_155 : decode cX6_count 155 = .ok (.iadd, 1) := by decide +kernel
theorem dX6_count_156 : decode cX6_count 156 = .ok (.bipush 10, 2) := by decide +kernel
theorem dX6_count_158 : decode cX6_count 158 = .ok (.isub, 1) := by decide +kernel
theorem dX6_count_159 : decode cX6_count 159 = .ok (.iaload, 1) := by decide +kernel
theorem dX6_count_160 : decode cX6_count 160 = .ok (.goto 11, 3) := by decide +kernel
theorem dX6_count_163 : decode cX6_count 163 = .ok (.aload_n 0, 1) := by decide +kernel
theorem dX6_count_164 : decode cX6_count 164 = .ok (.iload_n 1, 1) := by decide +kernel
theorem dX6_count_165 : decode cX6_count 165 = .ok (.bipush 12, 2) := by decide +kernel
theorem dX6_count_167 : decode cX6_count 167 = .ok (.isub, 1) := by decide +kernel
theorem dX6_count_168 : decode cX6_count 168 = .ok (.invokevirtual 94, 3) := by decide +kernel
theorem dX6_count_171 : decode cX6_count 171 = .ok (.ireturn, 1) := by decide +kernel
theorem okX6_count : CalOK yX6_count cX6_count 2 (some .int) 1 := ⟨wd_73, wd_947, by decide +kernel⟩
theorem ovX6_count : VirOK yX6_count := ⟨wd_945, wd_946⟩
def FX6_count (B : Blk) (l1 : Int32) : Option (Int32 × Blk) :=
  c1 (FX6_in l1 (0 : Int32) (15 : Int32)) fun r1 =>
  if r1 = 0 then
    some ((-2 : Int32), B)
  else
    c2 (FX6_reckon B) fun r4 B6 =>
    if l1 = (0 : Int32) then
      ld (B6 1) 356 (0 : Int32) fun v8 =>
      some (v8, B6)
    else
      if l1 = (1 : Int32) then
        ld (B6 1) 356 (3 : Int32) fun v12 =>
        some (v12, B6)
      else
        if l1 = (2 : Int32) then
          c1 (FX6_offers B6) fun r16 =>
          some (r16, B6)
        else
          if l1 = (3 : Int32) then
            c1 (FX6_lateSet B6) fun r19 =>
            some (r19, B6)
          else
            if l1 = (4 : Int32) then
              c1 (FX6_lateTogether B6) fun r22 =>
              some (r22, B6)
            else
              if l1 = (5 : Int32) then
                c1 (FX6_endOfAll B6) fun r25 =>
                some (r25, B6)
              else
                if l1 = (6 : Int32) then
                  ld (B6 1) 356 (0 : Int32) fun v28 =>
                  c1 (FX6_sumOf B6 (76 : Int32) v28) fun r31 =>
                  some (r31, B6)
                else
                  if l1 = (7 : Int32) then
                    ld (B6 1) 356 (3 : Int32) fun v34 =>
                    c1 (FX6_sumOf B6 (276 : Int32) v34) fun r37 =>
                    some (r37, B6)
                  else
                    if l1 = (8 : Int32) then
                      some (((B6 0) 8), B6)
                    else
                      if l1 = (9 : Int32) then
                        some (((B6 0) 5), B6)
                      else
                        if (12 : Int32) ≤ l1 then
                          c1 (FX6_manyOn B6 (l1 - (12 : Int32))) fun r42 =>
                          some (r42, B6)
                        else
                          ld (B6 1) 356 (((1 : Int32) + l1) - (10 : Int32)) fun v44 =>
                          some (v44, B6)
set_option maxRecDepth 100000 in
set_option maxHeartbeats 4000000 in
theorem wX6_count {E : WE} {V : VT} {A : Nat → Prop} {H0 : Heap} {M : Mem} (Cx : CX E RX6 cX6_count 2 2 51) {r : Int32} {B' : Blk} (hret : RetI E V A H0 cX6_count .int r (jb M 12 B')) {H : Heap} {locs : List Loc} {ls : Array Slot} {l1 : Int32} {B : Blk} (hW : Wd V A H0 (jb M 12 B) (eS E) H locs) (hl : lv_has ls 2 [(0, .ref (vA V 12 0)), (1, .int l1)]) (hF : FX6_count B l1 = some (r, B')) : Wq E H locs 0 ls [] := by
  unfold FX6_count at hF
  refine q_iload_n Cx dX6_count_0 rfl (lv_at hl 1 rfl) ?_
  refine q_iconst (v := (0 : Int32)) Cx dX6_count_1 (by decide) ?_
  refine q_bipush (v := (15 : Int32)) Cx dX6_count_2 (by decide) ?_
  obtain ⟨r1, e2, hF⟩ := c1_some hF
  refine q_callSI (as := [.int l1, .int (0 : Int32), .int (15 : Int32)]) (rest := []) Cx (kX6_in e2) okX6_in osX6_in rfl wd_780 ⟨rfl, rfl, by decide, by decide⟩ hW rfl hl.1 (Nat.le_of_ble_eq_true rfl) rfl dX6_count_4 (fun H locs hW => ?_)
  refine q_if_ne (tgt := 13) Cx dX6_count_7 (by decide) (fun c3 => ?_) (fun c3 => ?_)
  · have hF := (if_neg c3).symm.trans hF
    refine q_aload_n Cx dX6_count_13 rfl (lv_at hl 0 rfl) ?_
    obtain ⟨r4, B6, e5, hF⟩ := c2_some hF
    refine q_callI (as := []) (rest := []) Cx (kX6_reckon e5) okX6_reckon ovX6_reckon wd_820 ⟨rfl, rfl, by decide, by decide⟩ hW oZ ic6 rfl hl.1 (Nat.le_of_ble_eq_true rfl) rfl dX6_count_14 (fun H locs hW => ?_)
    refine q_pop Cx dX6_count_17 rfl ?_
    refine q_iload_n Cx dX6_count_18 rfl (lv_at hl 1 rfl) ?_
    by_cases c7 : l1 = (0 : Int32)
    · have hF := (if_pos c7).symm.trans hF
      refine q_tableIn (tgt := 72) Cx dX6_count_19 (by rw [c7]; decide) (by rw [c7]; decide) (ho := by rw [c7]; rfl) (by decide) ?_
      refine q_aload_n Cx dX6_count_72 rfl (lv_at hl 0 rfl) ?_
      refine q_get (v := .ref (vA V 12 1)) Cx hW oZ ic6 0 (by decide) rfl wd_714 dX6_count_73 ?_
      refine q_iconst (v := (0 : Int32)) Cx dX6_count_76 (by decide) ?_
      obtain ⟨h9, v8, e10, hF⟩ := ld_some hF
      refine qb_iald Cx hW az_1 h9 e10 dX6_count_77 ?_
      obtain ⟨rfl, rfl⟩ := Prod.mk.inj (Option.some.inj hF)
      exact hret _ _ _ _ dX6_count_78 (nI32 _) hW
    · have hF := (if_neg c7).symm.trans hF
      by_cases c11 : l1 = (1 : Int32)
      · have hF := (if_pos c11).symm.trans hF
        refine q_tableIn (tgt := 79) Cx dX6_count_19 (by rw [c11]; decide) (by rw [c11]; decide) (ho := by rw [c11]; rfl) (by decide) ?_
        refine q_aload_n Cx dX6_count_79 rfl (lv_at hl 0 rfl) ?_
        refine q_get (v := .ref (vA V 12 1)) Cx hW oZ ic6 0 (by decide) rfl wd_714 dX6_count_80 ?_
        refine q_iconst (v := (3 : Int32)) Cx dX6_count_83 (by decide) ?_
        obtain ⟨h13, v12, e14, hF⟩ := ld_some hF
        refine qb_iald Cx hW az_1 h13 e14 dX6_count_84 ?_
        obtain ⟨rfl, rfl⟩ := Prod.mk.inj (Option.some.inj hF)
        exact hret _ _ _ _ dX6_count_85 (nI32 _) hW
      · have hF := (if_neg c11).symm.trans hF
        by_cases c15 : l1 = (2 : Int32)
        · have hF := (if_pos c15).symm.trans hF
          refine q_tableIn (tgt := 86) Cx dX6_count_19 (by rw [c15]; decide) (by rw [c15]; decide) (ho := by rw [c15]; rfl) (by decide) ?_
          refine q_aload_n Cx dX6_count_86 rfl (lv_at hl 0 rfl) ?_
          obtain ⟨r16, e17, hF⟩ := c1_some hF
          refine q_callI (as := []) (rest := []) Cx (kX6_offers e17) okX6_offers ovX6_offers wd_948 ⟨rfl, rfl, by decide, by decide⟩ hW oZ ic6 rfl hl.1 (Nat.le_of_ble_eq_true rfl) rfl dX6_count_87 (fun H locs hW => ?_)
          obtain ⟨rfl, rfl⟩ := Prod.mk.inj (Option.some.inj hF)
          exact hret _ _ _ _ dX6_count_90 (nI32 _) hW
        · have hF := (if_neg c15).symm.trans hF
          by_cases c18 : l1 = (3 : Int32)
          · have hF := (if_pos c18).symm.trans hF
            refine q_tableIn (tgt := 91) Cx dX6_count_19 (by rw [c18]; decide) (by rw [c18]; decide) (ho := by rw [c18]; rfl) (by decide) ?_
            refine q_aload_n Cx dX6_count_91 rfl (lv_at hl 0 rfl) ?_
            obtain ⟨r19, e20, hF⟩ := c1_some hF
            refine q_callI (as := []) (rest := []) Cx (kX6_lateSet e20) okX6_lateSet ovX6_lateSet wd_952 ⟨rfl, rfl, by decide, by decide⟩ hW oZ ic6 rfl hl.1 (Nat.le_of_ble_eq_true rfl) rfl dX6_count_92 (fun H locs hW => ?_)
            obtain ⟨rfl, rfl⟩ := Prod.mk.inj (Option.some.inj hF)
            exact hret _ _ _ _ dX6_count_95 (nI32 _) hW
          · have hF := (if_neg c18).symm.trans hF
            by_cases c21 : l1 = (4 : Int32)
            · have hF := (if_pos c21).symm.trans hF
              refine q_tableIn (tgt := 96) Cx dX6_count_19 (by rw [c21]; decide) (by rw [c21]; decide) (ho := by rw [c21]; rfl) (by decide) ?_
              refine q_aload_n Cx dX6_count_96 rfl (lv_at hl 0 rfl) ?_
              obtain ⟨r22, e23, hF⟩ := c1_some hF
              refine q_callI (as := []) (rest := []) Cx (kX6_lateTogether e23) okX6_lateTogether ovX6_lateTogether wd_915 ⟨rfl, rfl, by decide, by decide⟩ hW oZ ic6 rfl hl.1 (Nat.le_of_ble_eq_true rfl) rfl dX6_count_97 (fun H locs hW => ?_)
              obtain ⟨rfl, rfl⟩ := Prod.mk.inj (Option.some.inj hF)
              exact hret _ _ _ _ dX6_count_100 (nI32 _) hW
            · have hF := (if_neg c21).symm.trans hF
              by_cases c24 : l1 = (5 : Int32)
              · have hF := (if_pos c24).symm.trans hF
                refine q_tableIn (tgt := 101) Cx dX6_count_19 (by rw [c24]; decide) (by rw [c24]; decide) (ho := by rw [c24]; rfl) (by decide) ?_
                refine q_aload_n Cx dX6_count_101 rfl (lv_at hl 0 rfl) ?_
                obtain ⟨r25, e26, hF⟩ := c1_some hF
                refine q_callI (as := []) (rest := []) Cx (kX6_endOfAll e26) okX6_endOfAll ovX6_endOfAll wd_956 ⟨rfl, rfl, by decide, by decide⟩ hW oZ ic6 rfl hl.1 (Nat.le_of_ble_eq_true rfl) rfl dX6_count_102 (fun H locs hW => ?_)
                obtain ⟨rfl, rfl⟩ := Prod.mk.inj (Option.some.inj hF)
                exact hret _ _ _ _ dX6_count_105 (nI32 _) hW
              · have hF := (if_neg c24).symm.trans hF
                by_cases c27 : l1 = (6 : Int32)
                · have hF := (if_pos c27).symm.trans hF
                  refine q_tableIn (tgt := 106) Cx dX6_count_19 (by rw [c27]; decide) (by rw [c27]; decide) (ho := by rw [c27]; rfl) (by decide) ?_
                  refine q_aload_n Cx dX6_count_106 rfl (lv_at hl 0 rfl) ?_
                  refine q_bipush (v := (76 : Int32)) Cx dX6_count_107 (by decide) ?_
                  refine q_aload_n Cx dX6_count_109 rfl (lv_at hl 0 rfl) ?_
                  refine q_get (v := .ref (vA V 12 1)) Cx hW oZ ic6 0 (by decide) rfl wd_714 dX6_count_110 ?_
                  refine q_iconst (v := (0 : Int32)) Cx dX6_count_113 (by decide) ?_
                  obtain ⟨h29, v28, e30, hF⟩ := ld_some hF
                  refine qb_iald Cx hW az_1 h29 e30 dX6_count_114 ?_
                  obtain ⟨r31, e32, hF⟩ := c1_some hF
                  refine q_callI (as := [.int (76 : Int32), .int v28]) (rest := []) Cx (kX6_sumOf e32) okX6_sumOf ovX6_sumOf wd_960 ⟨rfl, rfl, by decide, by decide⟩ hW oZ ic6 rfl hl.1 (Nat.le_of_ble_eq_true rfl) rfl dX6_count_115 (fun H locs hW => ?_)
                  obtain ⟨rfl, rfl⟩ := Prod.mk.inj (Option.some.inj hF)
                  exact hret _ _ _ _ dX6_count_118 (nI32 _) hW
                · have hF := (if_neg c27).symm.trans hF
                  by_cases c33 : l1 = (7 : Int32)
                  · have hF := (if_pos c33).symm.trans hF
                    refine q_tableIn (tgt := 119) Cx dX6_count_19 (by rw [c33]; decide) (by rw [c33]; decide) (ho := by rw [c33]; rfl) (by decide) ?_
                    refine q_aload_n Cx dX6_count_119 rfl (lv_at hl 0 rfl) ?_
                    refine q_sipush (v := (276 : Int32)) Cx dX6_count_120 (by decide) ?_
                    refine q_aload_n Cx dX6_count_123 rfl (lv_at hl 0 rfl) ?_
                    refine q_get (v := .ref (vA V 12 1)) Cx hW oZ ic6 0 (by decide) rfl wd_714 dX6_count_124 ?_
                    refine q_iconst (v := (3 : Int32)) Cx dX6_count_127 (by decide) ?_
                    obtain ⟨h35, v34, e36, hF⟩ := ld_some hF
                    refine qb_iald Cx hW az_1 h35 e36 dX6_count_128 ?_
                    obtain ⟨r37, e38, hF⟩ := c1_some hF
                    refine q_callI (as := [.int (276 : Int32), .int v34]) (rest := []) Cx (kX6_sumOf e38) okX6_sumOf ovX6_sumOf wd_960 ⟨rfl, rfl, by decide, by decide⟩ hW oZ ic6 rfl hl.1 (Nat.le_of_ble_eq_true rfl) rfl dX6_count_129 (fun H locs hW => ?_)
                    obtain ⟨rfl, rfl⟩ := Prod.mk.inj (Option.some.inj hF)
                    exact hret _ _ _ _ dX6_count_132 (nI32 _) hW
                  · have hF := (if_neg c33).symm.trans hF
                    by_cases c39 : l1 = (8 : Int32)
                    · have hF := (if_pos c39).symm.trans hF
                      refine q_tableIn (tgt := 133) Cx dX6_count_19 (by rw [c39]; decide) (by rw [c39]; decide) (ho := by rw [c39]; rfl) (by decide) ?_
                      refine q_aload_n Cx dX6_count_133 rfl (lv_at hl 0 rfl) ?_
                      refine qb_get (v := .int ((B6 0) 8)) Cx hW oZ ic6 8 (by decide) rfl wd_722 dX6_count_134 ?_
                      obtain ⟨rfl, rfl⟩ := Prod.mk.inj (Option.some.inj hF)
                      exact hret _ _ _ _ dX6_count_137 (nI32 _) hW
                    · have hF := (if_neg c39).symm.trans hF
                      by_cases c40 : l1 = (9 : Int32)
                      · have hF := (if_pos c40).symm.trans hF
                        refine q_tableIn (tgt := 138) Cx dX6_count_19 (by rw [c40]; decide) (by rw [c40]; decide) (ho := by rw [c40]; rfl) (by decide) ?_
                        refine q_aload_n Cx dX6_count_138 rfl (lv_at hl 0 rfl) ?_
                        refine qb_get (v := .int ((B6 0) 5)) Cx hW oZ ic6 5 (by decide) rfl wd_719 dX6_count_139 ?_
                        obtain ⟨rfl, rfl⟩ := Prod.mk.inj (Option.some.inj hF)
                        exact hret _ _ _ _ dX6_count_142 (nI32 _) hW
                      · have hF := (if_neg c40).symm.trans hF
                        refine q_tableOut (tgt := 143) Cx dX6_count_19 (tbl_out (tbl_cons (k := (0 : Int32)) (l1 := 1) (by decide) (by decide) c7 (tbl_cons (k := (1 : Int32)) (l1 := 2) (by decide) (by decide) c11 (tbl_cons (k := (2 : Int32)) (l1 := 3) (by decide) (by decide) c15 (tbl_cons (k := (3 : Int32)) (l1 := 4) (by decide) (by decide) c18 (tbl_cons (k := (4 : Int32)) (l1 := 5) (by decide) (by decide) c21 (tbl_cons (k := (5 : Int32)) (l1 := 6) (by decide) (by decide) c24 (tbl_cons (k := (6 : Int32)) (l1 := 7) (by decide) (by decide) c27 (tbl_cons (k := (7 : Int32)) (l1 := 8) (by decide) (by decide) c33 (tbl_cons (k := (8 : Int32)) (l1 := 9) (by decide) (by decide) c39 (tbl_cons (k := (9 : Int32)) (l1 := 10) (by decide) (by decide) c40 (tbl_nil (by decide))))))))))))) (by decide) ?_
                        refine q_iload_n Cx dX6_count_143 rfl (lv_at hl 1 rfl) ?_
                        refine q_bipush (v := (12 : Int32)) Cx dX6_count_144 (by decide) ?_
                        refine q_icmp_ge (tgt := 163) Cx dX6_count_146 (by decide) (fun c41 => ?_) (fun c41 => ?_)
                        · have hF := (if_pos c41).symm.trans hF
                          refine q_aload_n Cx dX6_count_163 rfl (lv_at hl 0 rfl) ?_
                          refine q_iload_n Cx dX6_count_164 rfl (lv_at hl 1 rfl) ?_
                          refine q_bipush (v := (12 : Int32)) Cx dX6_count_165 (by decide) ?_
                          refine q_isub Cx dX6_count_167 ?_
                          obtain ⟨r42, e43, hF⟩ := c1_some hF
                          refine q_callI (as := [.int (l1 - (12 : Int32))]) (rest := []) Cx (kX6_manyOn e43) okX6_manyOn ovX6_manyOn wd_804 ⟨rfl, rfl, by decide, by decide⟩ hW oZ ic6 rfl hl.1 (Nat.le_of_ble_eq_true rfl) rfl dX6_count_168 (fun H locs hW => ?_)
                          obtain ⟨rfl, rfl⟩ := Prod.mk.inj (Option.some.inj hF)
                          exact hret _ _ _ _ dX6_count_171 (nI32 _) hW
                        · have hF := (if_neg c41).symm.trans hF
                          refine q_aload_n Cx dX6_count_149 rfl (lv_at hl 0 rfl) ?_
                          refine q_get (v := .ref (vA V 12 1)) Cx hW oZ ic6 0 (by decide) rfl wd_714 dX6_count_150 ?_
                          refine q_iconst (v := (1 : Int32)) Cx dX6_count_153 (by decide) ?_
                          refine q_iload_n Cx dX6_count_154 rfl (lv_at hl 1 rfl) ?_
                          refine q_iadd Cx dX6_count_155 ?_
                          refine q_bipush (v := (10 : Int32)) Cx dX6_count_156 (by decide) ?_
                          refine q_isub Cx dX6_count_158 ?_
                          obtain ⟨h45, v44, e46, hF⟩ := ld_some hF
                          refine qb_iald Cx hW az_1 h45 e46 dX6_count_159 ?_
                          refine q_goto (tgt := 171) Cx dX6_count_160 (by decide) ?_
                          obtain ⟨rfl, rfl⟩ := Prod.mk.inj (Option.some.inj hF)
                          exact hret _ _ _ _ dX6_count_171 (nI32 _) hW
  · have hF := (if_pos c3).symm.trans hF
    refine q_bipush (v := (-2 : Int32)) Cx dX6_count_10 (by decide) ?_
    obtain ⟨rfl, rfl⟩ := Prod.mk.inj (Option.some.inj hF)
    exact hret _ _ _ _ dX6_count_12 (nI32 _) hW
set_option maxRecDepth 100000 in
theorem kX6_count {l : Launch} {V : VT} {M : Mem} {B : Blk} {l1 : Int32} {r : Int32} {B' : Blk} (hF : FX6_count B l1 = some (r, B')) : MetI l V yX6_count cX6_count 2 .int ({ frames := 2, cells := 0, slots := 0, locals := 51 } : Room) [.ref (vA V 12 0), .int l1] r (jb M 12 B) (jb M 12 B') := metI_of (by decide) (Nat.le_of_ble_eq_true rfl) (fun E H0 _ Cx hret H locs ls hW hl => wX6_count Cx hret hW hl hF)
theorem dX6_wouldBuy_0 : decode cX6_wouldBuy 0 = .ok (.aload_n 0, 1) := by decide +kernel
theorem dX6_wouldBuy_1 : decode cX6_wouldBuy 1 = .ok (.iload_n 1, 1) := by decide +kernel
theorem dX6_wouldBuy_2 : decode cX6_wouldBuy 2 = .ok (.invokevirtual 89, 3) := by decide +kernel
theorem dX6_wouldBuy_5 : decode cX6_wouldBuy 5 = .ok (.ifCond .ne 5, 3) := by decide +kernel
theorem dX6_wouldBuy_8 : decode cX6_wouldBuy 8 = .ok (.iconst (-1), 1) := by decide +kernel
theorem dX6_wouldBuy_9 : decode cX6_wouldBuy 9 = .ok (.ireturn, 1) := by decide +kernel
theorem dX6_wouldBuy_10 : decode cX6_wouldBuy 10 = .ok (.iload_n 2, 1) := by decide +kernel
theorem dX6_wouldBuy_11 : decode cX6_wouldBuy 11 = .ok (.iconst 0, 1) := by decide +kernel
theorem dX6_wouldBuy_12 : decode cX6_wouldBuy 12 = .ok (.iconst 2, 1) := by decide +kernel
theorem dX6_wouldBuy_13 : decode cX6_wouldBuy 13 = .ok (.invokestatic 56, 3) := by decide +kernel
theorem dX6_wouldBuy_16 : decode cX6_wouldBuy 16 = .ok (.ifCond .ne 6, 3) := by decide +kernel
theorem dX6_wouldBuy_19 : decode cX6_wouldBuy 19 = .ok (.bipush (-2), 2) := by decide +kernel
theorem dX6_wouldBuy_21 : decode cX6_wouldBuy 21 = .ok (.ireturn, 1) := by decide +kernel
theorem dX6_wouldBuy_22 : decode cX6_wouldBuy 22 = .ok (.aload_n 0, 1) := by decide +kernel
theorem dX6_wouldBuy_23 : decode cX6_wouldBuy 23 = .ok (.invokevirtual 165, 3) := by decide +kernel
theorem dX6_wouldBuy_26 : decode cX6_wouldBuy 26 = .ok (.aload_n 0, 1) := by decide +kernel
theorem dX6_wouldBuy_27 : decode cX6_wouldBuy 27 = .ok (.invokevirtual 77, 3) := by decide +kernel
theorem dX6_wouldBuy_30 : decode cX6_wouldBuy 30 = .ok (.pop, 1) := by decide +kernel
theorem dX6_wouldBuy_31 : decode cX6_wouldBuy 31 = .ok (.aload_n 0, 1) := by decide +kernel
theorem dX6_wouldBuy_32 : decode cX6_wouldBuy 32 = .ok (.getfield 7, 3) := by decide +kernel
theorem dX6_wouldBuy_35 : decode cX6_wouldBuy 35 = .ok (.iconst 3, 1) := by decide +kernel
theorem dX6_wouldBuy_36 : decode cX6_wouldBuy 36 = .ok (.iaload, 1) := by decide +kernel
theorem dX6_wouldBuy_37 : decode cX6_wouldBuy 37 = .ok (.istore_n 3, 1) := by decide +kernel
theorem dX6_wouldBuy_38 : decode cX6_wouldBuy 38 = .ok (.aload_n 0, 1) := by decide +kernel
theorem dX6_wouldBuy_39 : decode cX6_wouldBuy 39 = .ok (.getfield 7, 3) := by decide +kernel
theorem dX6_wouldBuy_42 : decode cX6_wouldBuy 42 = .ok (.bipush 76, 2) := by decide +kernel
theorem dX6_wouldBuy_44 : decode cX6_wouldBuy 44 = .ok (.iload_n 1, 1) := by decide +kernel
theorem dX6_wouldBuy_45 : decode cX6_wouldBuy 45 = .ok (.iadd, 1) := by decide +kernel
theorem dX6_wouldBuy_46 : decode cX6_wouldBuy 46 = .ok (.iaload, 1) := by decide +kernel
theorem dX6_wouldBuy_47 : decode cX6_wouldBuy 47 = .ok (.istore 4, 2) := by decide +kernel
theorem dX6_wouldBuy_49 : decode cX6_wouldBuy 49 = .ok (.aload_n 0, 1) := by decide +kernel
theorem dX6_wouldBuy_50 : decode cX6_wouldBuy 50 = .ok (.iload_n 1, 1) := by decide +kernel
theorem dX6_wouldBuy_51 : decode cX6_wouldBuy 51 = .ok (.invokevirtual 127, 3) := by decide +kernel
theorem dX6_wouldBuy_54 : decode cX6_wouldBuy 54 = .ok (.iconst 0, 1) := by decide +kernel
theorem dX6_wouldBuy_55 : decode cX6_wouldBuy 55 = .ok (.istore 5, 2) := by decide +kernel
theorem dX6_wouldBuy_57 : decode cX6_wouldBuy 57 = .ok (.iconst 0, 1) := by decide +kernel
theorem dX6_wouldBuy_58 : decode cX6_wouldBuy 58 = .ok (.istore 6, 2) := by decide +kernel
theorem dX6_wouldBuy_60 : decode cX6_wouldBuy 60 = .ok (.iload_n 3, 1) := by decide +kernel
theorem dX6_wouldBuy_61 : decode cX6_wouldBuy 61 = .ok (.istore 7, 2) := by decide +kernel
theorem dX6_wouldBuy_63 : decode cX6_wouldBuy 63 = .ok (.iload 7, 2) := by decide +kernel
theorem dX6_wouldBuy_65 : decode cX6_wouldBuy 65 = .ok (.aload_n 0, 1) := by decide +kernel
theorem dX6_wouldBuy_66 : decode cX6_wouldBuy 66 = .ok (.getfield 7, 3) := by decide +kernel
theorem dX6_wouldBuy_69 : decode cX6_wouldBuy 69 = .ok (.iconst 3, 1) := by decide +kernel
theorem dX6_wouldBuy_70 : decode cX6_wouldBuy 70 = .ok (.iaload, 1) := by decide +kernel
theorem dX6_wouldBuy_71 : decode cX6_wouldBuy 71 = .ok (.if_icmp .ge 43, 3) := by decide +kernel
theorem dX6_wouldBuy_74 : decode cX6_wouldBuy 74 = .ok (.iload 5, 2) := by decide +kernel
theorem dX6_wouldBuy_76 : decode cX6_wouldBuy 76 = .ok (.aload_n 0, 1) := by decide +kernel
theorem dX6_wouldBuy_77 : decode cX6_wouldBuy 77 = .ok (.getfield 7, 3) := by decide +kernel
theorem dX6_wouldBuy_80 : decode cX6_wouldBuy 80 = .ok (.sipush 276, 3) := by decide +kernel
theorem dX6_wouldBuy_83 : decode cX6_wouldBuy 83 = .ok (.iload 7, 2) := by decide +kernel
theorem dX6_wouldBuy_85 : decode cX6_wouldBuy 85 = .ok (.iadd, 1) := by decide +kernel
theorem dX6_wouldBuy_86 : decode cX6_wouldBuy 86 = .ok (.iaload, 1) := by decide +kernel
theorem dX6_wouldBuy_87 : decode cX6_wouldBuy 87 = .ok (.iadd, 1) := by decide +kernel
theorem dX6_wouldBuy_88 : decode cX6_wouldBuy 88 = .ok (.istore 5, 2) := by decide +kernel
theorem dX6_wouldBuy_90 : decode cX6_wouldBuy 90 = .ok (.iload 6, 2) := by decide +kernel
theorem dX6_wouldBuy_92 : decode cX6_wouldBuy 92 = .ok (.iconst 1, 1) := by decide +kernel
theorem dX6_wouldBuy_93 : decode cX6_wouldBuy 93 = .ok (.aload_n 0, 1) := by decide +kernel
theorem dX6_wouldBuy_94 : decode cX6_wouldBuy 94 = .ok (.getfield 7, 3) := by decide +kernel
theorem dX6_wouldBuy_97 : decode cX6_wouldBuy 97 = .ok (.sipush 196, 3) := by decide +kernel
theorem dX6_wouldBuy_100 : decode cX6_wouldBuy 100 = .ok (.iload 7, 2) := by decide +kernel
theorem dX6_wouldBuy_102 : decode cX6_wouldBuy 102 = .ok (.iadd, 1) := by decide +kernel
theorem dX6_wouldBuy_103 : decode cX6_wouldBuy 103 = .ok (.iaload, 1) := by decide +kernel
theorem dX6_wouldBuy_104 : decode cX6_wouldBuy 104 = .ok (.ishl, 1) := by decide +kernel
theorem dX6_wouldBuy_105 : decode cX6_wouldBuy 105 = .ok (.ior, 1) := by decide +kernel
theorem dX6_wouldBuy_106 : decode cX6_wouldBuy 106 = .ok (.istore 6, 2) := by decide +kernel
theorem dX6_wouldBuy_108 : decode cX6_wouldBuy 108 = .ok (.iinc 7 1, 3) := by decide +kernel
theorem dX6_wouldBuy_111 : decode cX6_wouldBuy 111 = .ok (.goto (-48), 3) := by decide +kernel
theorem dX6_wouldBuy_114 : decode cX6_wouldBuy 114 = .ok (.iload 4, 2) := by decide +kernel
theorem dX6_wouldBuy_116 : decode cX6_wouldBuy 116 = .ok (.aload_n 0, 1) := by decide +kernel
theorem dX6_wouldBuy_117 : decode cX6_wouldBuy 117 = .ok (.getfield 7, 3) := by decide +kernel
theorem dX6_wouldBuy_120 : decode cX6_wouldBuy 120 = .ok (.bipush 76, 2) := by decide +kernel
theorem dX6_wouldBuy_122 : decode cX6_wouldBuy 122 = .ok (.iload_n 1, 1) := by decide +kernel
theorem dX6_wouldBuy_123 : decode cX6_wouldBuy 123 = .ok (.iadd, 1) := by decide +kernel
theorem dX6_wouldBuy_124 : decode cX6_wouldBuy 124 = .ok (.iaload, 1) := by decide +kernel
theorem dX6_wouldBuy_125 : decode cX6_wouldBuy 125 = .ok (.isub, 1) := by decide +kernel
theorem dX6_wouldBuy_126 : decode cX6_wouldBuy 126 = .ok (.istore 7, 2) := by decide +kernel
theorem dX6_wouldBuy_128 : decode cX6_wouldBuy 128 = .ok (.aload_n 0, 1) := by decide +kernel
theorem dX6_wouldBuy_129 : decode cX6_wouldBuy 129 = .ok (.invokevirtual 168, 3) := by decide +kernel
theorem dX6_wouldBuy_132 : decode cX6_wouldBuy 132 = .ok (.iload_n 2, 1) := by decide +kernel
theorem dX6_wouldBuy_133 : decode cX6_wouldBuy 133 = .ok (.ifCond .ne 8, 3) := by decide +kernel
theorem dX6_wouldBuy_136 : decode cX6_wouldBuy 136 = .ok (.iload 5, 2) := by decide +kernel
theorem dX6_wouldBuy_138 : decode cX6_wouldBuy 138 = .ok (.goto 15, 3) := by decide +kernel
theorem dX6_wouldBuy_141 : decode cX6_wouldBuy 141 = .ok (.iload_n 2, 1) := by decide +kernel
theorem dX6_wouldBuy_142 : decode cX6_wouldBuy 142 = .ok (.iconst 1, 1) := by decide +kernel
theorem dX6_wouldBuy_143 : decode cX6_wouldBuy 143 = .ok (.if_icmp .ne 8, 3) := by decide +kernel
theorem dX6_wouldBuy_146 : decode cX6_wouldBuy 146 = .ok (.iload 7, 2) := by decide +kernel
theorem dX6_wouldBuy_148 : decode cX6_wouldBuy 148 = .ok (.goto 5, 3) := by decide +kernel
theorem dX6_wouldBuy_151 : decode cX6_wouldBuy 151 = .ok (.iload 6, 2) := by decide +kernel
theorem dX6_wouldBuy_153 : decode cX6_wouldBuy 153 = .ok (.ireturn, 1) := by decide +kernel
theorem okX6_wouldBuy : CalOK yX6_wouldBuy cX6_wouldBuy 8 (some .int) 2 := ⟨wd_73, wd_967, by decide +kernel⟩
theorem ovX6_wouldBuy : VirOK yX6_wouldBuy := ⟨wd_965, wd_966⟩
def FX6_wouldBuy_63s (k63 : Int32 → Int32 → Int32 → Int32 → Int32 → Int32 → Blk → Option (Int32 × Blk)) (l1 : Int32) (l2 : Int32) (l4 : Int32) (l5 : Int32) (l6 : Int32) (l7 : Int32) (B : Blk) : Option (Int32 × Blk) :=
  ld (B 1) 356 (3 : Int32) fun v22 =>
  if v22 ≤ l7 then
    ld (B 1) 356 ((76 : Int32) + l1) fun v26 =>
    lt1 (l4 - v26) fun x29 =>
    c1 (FX6_bringBack B) fun B33 =>
    if l2 = 0 then
      some (l5, B33)
    else
      if l2 = (1 : Int32) then
        some (x29, B33)
      else
        some (l6, B33)
  else
    ld (B 1) 356 ((276 : Int32) + l7) fun v36 =>
    lt1 (l5 + v36) fun x39 =>
    ld (B 1) 356 ((196 : Int32) + l7) fun v41 =>
    lt1 (l6 ||| ((1 : Int32) <<< (v41 &&& 31))) fun x44 =>
    lt1 (l7 + (1 : Int32)) fun x46 =>
    k63 l1 l2 l4 x39 x44 x46 B
set_option maxRecDepth 100000 in
set_option maxHeartbeats 4000000 in
theorem wX6_wouldBuy_63s {E : WE} {V : VT} {A : Nat → Prop} {H0 : Heap} {M : Mem} (Cx : CX E RX6 cX6_wouldBuy 8 3 71) {r : Int32} {B' : Blk} (hret : RetI E V A H0 cX6_wouldBuy .int r (jb M 12 B')) {k63 : Int32 → Int32 → Int32 → Int32 → Int32 → Int32 → Blk → Option (Int32 × Blk)} (hk63 : ∀ {H : Heap} {locs : List Loc} {ls : Array Slot} {B : Blk} {l1 : Int32} {l2 : Int32} {l4 : Int32} {l5 : Int32} {l6 : Int32} {l7 : Int32}, Wd V A H0 (jb M 12 B) (eS E) H locs → lv_has ls 8 [(0, .ref (vA V 12 0)), (1, .int l1), (2, .int l2), (4, .int l4), (5, .int l5), (6, .int l6), (7, .int l7)] → k63 l1 l2 l4 l5 l6 l7 B = some (r, B') → Wq E H locs 63 ls []) {H : Heap} {locs : List Loc} {ls : Array Slot} {l1 : Int32} {l2 : Int32} {l4 : Int32} {l5 : Int32} {l6 : Int32} {l7 : Int32} {B : Blk} (hW : Wd V A H0 (jb M 12 B) (eS E) H locs) (hl : lv_has ls 8 [(0, .ref (vA V 12 0)), (1, .int l1), (2, .int l2), (4, .int l4), (5, .int l5), (6, .int l6), (7, .int l7)]) (hF : FX6_wouldBuy_63s k63 l1 l2 l4 l5 l6 l7 B = some (r, B')) : Wq E H locs 63 ls [] := by
  unfold FX6_wouldBuy_63s at hF
  refine q_iload Cx dX6_wouldBuy_63 (lv_at hl 6 rfl) ?_
  refine q_aload_n Cx dX6_wouldBuy_65 rfl (lv_at hl 0 rfl) ?_
  refine q_get (v := .ref (vA V 12 1)) Cx hW oZ ic6 0 (by decide) rfl wd_714 dX6_wouldBuy_66 ?_
  refine q_iconst (v := (3 : Int32)) Cx dX6_wouldBuy_69 (by decide) ?_
  obtain ⟨h23, v22, e24, hF⟩ := ld_some hF
  refine qb_iald Cx hW az_1 h23 e24 dX6_wouldBuy_70 ?_
  refine q_icmp_ge (tgt := 114) Cx dX6_wouldBuy_71 (by decide) (fun c25 => ?_) (fun c25 => ?_)
  · have hF := (if_pos c25).symm.trans hF
    refine q_iload Cx dX6_wouldBuy_114 (lv_at hl 3 rfl) ?_
    refine q_aload_n Cx dX6_wouldBuy_116 rfl (lv_at hl 0 rfl) ?_
    refine q_get (v := .ref (vA V 12 1)) Cx hW oZ ic6 0 (by decide) rfl wd_714 dX6_wouldBuy_117 ?_
    refine q_bipush (v := (76 : Int32)) Cx dX6_wouldBuy_120 (by decide) ?_
    refine q_iload_n Cx dX6_wouldBuy_122 rfl (lv_at hl 1 rfl) ?_
    refine q_iadd Cx dX6_wouldBuy_123 ?_
    obtain ⟨h27, v26, e28, hF⟩ := ld_some hF
    refine qb_iald Cx hW az_1 h27 e28 dX6_wouldBuy_124 ?_
    refine q_isub Cx dX6_wouldBuy_125 ?_
    obtain ⟨x29, e30, hF⟩ := lt1_some hF
    refine q_topi e30 ?_
    refine q_istore (lv' := [(7, .int x29), (0, .ref (vA V 12 0)), (1, .int l1), (2, .int l2), (4, .int l4), (5, .int l5), (6, .int l6)]) Cx dX6_wouldBuy_126 hl (by decide) rfl (fun ls hl => ?_)
    refine q_aload_n Cx dX6_wouldBuy_128 rfl (lv_at hl 1 rfl) ?_
    obtain ⟨B33, e32, hF⟩ := c1_some hF
    refine q_callV (as := []) (rest := []) Cx (kX6_bringBack e32) okX6_bringBack ovX6_bringBack wd_972 ⟨rfl, rfl, by decide, by decide⟩ hW oZ ic6 rfl hl.1 (Nat.le_of_ble_eq_true rfl) rfl dX6_wouldBuy_129 (fun H locs hW => ?_)
    refine q_iload_n Cx dX6_wouldBuy_132 rfl (lv_at hl 3 rfl) ?_
    refine q_if_ne (tgt := 141) Cx dX6_wouldBuy_133 (by decide) (fun c34 => ?_) (fun c34 => ?_)
    · have hF := (if_neg c34).symm.trans hF
      refine q_iload_n Cx dX6_wouldBuy_141 rfl (lv_at hl 3 rfl) ?_
      refine q_iconst (v := (1 : Int32)) Cx dX6_wouldBuy_142 (by decide) ?_
      refine q_icmp_ne (tgt := 151) Cx dX6_wouldBuy_143 (by decide) (fun c35 => ?_) (fun c35 => ?_)
      · have hF := (if_neg c35).symm.trans hF
        refine q_iload Cx dX6_wouldBuy_151 (lv_at hl 6 rfl) ?_
        obtain ⟨rfl, rfl⟩ := Prod.mk.inj (Option.some.inj hF)
        exact hret _ _ _ _ dX6_wouldBuy_153 (nI32 _) hW
      · have hF := (if_pos c35).symm.trans hF
        refine q_iload Cx dX6_wouldBuy_146 (lv_at hl 0 rfl) ?_
        refine q_goto (tgt := 153) Cx dX6_wouldBuy_148 (by decide) ?_
        obtain ⟨rfl, rfl⟩ := Prod.mk.inj (Option.some.inj hF)
        exact hret _ _ _ _ dX6_wouldBuy_153 (nI32 _) hW
    · have hF := (if_pos c34).symm.trans hF
      refine q_iload Cx dX6_wouldBuy_136 (lv_at hl 5 rfl) ?_
      refine q_goto (tgt := 153) Cx dX6_wouldBuy_138 (by decide) ?_
      obtain ⟨rfl, rfl⟩ := Prod.mk.inj (Option.some.inj hF)
      exact hret _ _ _ _ dX6_wouldBuy_153 (nI32 _) hW
  · have hF := (if_neg c25).symm.trans hF
    refine q_iload Cx dX6_wouldBuy_74 (lv_at hl 4 rfl) ?_
    refine q_aload_n Cx dX6_wouldBuy_76 rfl (lv_at hl 0 rfl) ?_
    refine q_get (v := .ref (vA V 12 1)) Cx hW oZ ic6 0 (by decide) rfl wd_714 dX6_wouldBuy_77 ?_
    refine q_sipush (v := (276 : Int32)) Cx dX6_wouldBuy_80 (by decide) ?_
    refine q_iload Cx dX6_wouldBuy_83 (lv_at hl 6 rfl) ?_
    refine q_iadd Cx dX6_wouldBuy_85 ?_
    obtain ⟨h37, v36, e38, hF⟩ := ld_some hF
    refine qb_iald Cx hW az_1 h37 e38 dX6_wouldBuy_86 ?_
    refine q_iadd Cx dX6_wouldBuy_87 ?_
    obtain ⟨x39, e40, hF⟩ := lt1_some hF
    refine q_topi e40 ?_
    refine q_istore (lv' := [(5, .int x39), (0, .ref (vA V 12 0)), (1, .int l1), (2, .int l2), (4, .int l4), (6, .int l6), (7, .int l7)]) Cx dX6_wouldBuy_88 hl (by decide) rfl (fun ls hl => ?_)
    refine q_iload Cx dX6_wouldBuy_90 (lv_at hl 5 rfl) ?_
    refine q_iconst (v := (1 : Int32)) Cx dX6_wouldBuy_92 (by decide) ?_
    refine q_aload_n Cx dX6_wouldBuy_93 rfl (lv_at hl 1 rfl) ?_
    refine q_get (v := .ref (vA V 12 1)) Cx hW oZ ic6 0 (by decide) rfl wd_714 dX6_wouldBuy_94 ?_
    refine q_sipush (v := (196 : Int32)) Cx dX6_wouldBuy_97 (by decide) ?_
    refine q_iload Cx dX6_wouldBuy_100 (lv_at hl 6 rfl) ?_
    refine q_iadd Cx dX6_wouldBuy_102 ?_
    obtain ⟨h42, v41, e43, hF⟩ := ld_some hF
    refine qb_iald Cx hW az_1 h42 e43 dX6_wouldBuy_103 ?_
    refine q_ishl Cx dX6_wouldBuy_104 ?_
    refine q_ior Cx dX6_wouldBuy_105 ?_
    obtain ⟨x44, e45, hF⟩ := lt1_some hF
    refine q_topi e45 ?_
    refine q_istore (lv' := [(6, .int x44), (5, .int x39), (0, .ref (vA V 12 0)), (1, .int l1), (2, .int l2), (4, .int l4), (7, .int l7)]) Cx dX6_wouldBuy_106 hl (by decide) rfl (fun ls hl => ?_)
    obtain ⟨x46, e47, hF⟩ := lt1_some hF
    refine q_iinc (k := 6) (v := x46) (lv' := [(7, .int x46), (6, .int x44), (5, .int x39), (0, .ref (vA V 12 0)), (1, .int l1), (2, .int l2), (4, .int l4)]) Cx dX6_wouldBuy_108 hl rfl e47.symm (by decide) rfl (fun ls hl => ?_)
    refine q_goto (tgt := 63) Cx dX6_wouldBuy_111 (by decide) ?_
    exact hk63 hW (lv_sub hl [3, 4, 5, 6, 2, 1, 0] rfl) hF
def FX6_wouldBuy_63 : Nat → Int32 → Int32 → Int32 → Int32 → Int32 → Int32 → Blk → Option (Int32 × Blk)
  | 0 => fun _ _ _ _ _ _ _ => none
  | n + 1 => FX6_wouldBuy_63s (FX6_wouldBuy_63 n)
set_option maxRecDepth 100000 in
theorem wX6_wouldBuy_63 {E : WE} {V : VT} {A : Nat → Prop} {H0 : Heap} {M : Mem} (Cx : CX E RX6 cX6_wouldBuy 8 3 71) {r : Int32} {B' : Blk} (hret : RetI E V A H0 cX6_wouldBuy .int r (jb M 12 B')) : ∀ (n : Nat) {H : Heap} {locs : List Loc} {ls : Array Slot} {l1 : Int32} {l2 : Int32} {l4 : Int32} {l5 : Int32} {l6 : Int32} {l7 : Int32} {B : Blk}, Wd V A H0 (jb M 12 B) (eS E) H locs → lv_has ls 8 [(0, .ref (vA V 12 0)), (1, .int l1), (2, .int l2), (4, .int l4), (5, .int l5), (6, .int l6), (7, .int l7)] → FX6_wouldBuy_63 n l1 l2 l4 l5 l6 l7 B = some (r, B') → Wq E H locs 63 ls [] := by
  intro n
  induction n with
  | zero => intro _ _ _ _ _ _ _ _ _ _ hW hl hF; cases hF
  | succ n ih => intro _ _ _ _ _ _ _ _ _ _ hW hl hF; exact wX6_wouldBuy_63s Cx hret ih hW hl hF
def FX6_wouldBuy (B : Blk) (l1 : Int32) (l2 : Int32) : Option (Int32 × Blk) :=
  c1 (FX6_isTask B l1) fun r1 =>
  if r1 = 0 then
    some ((-1 : Int32), B)
  else
    c1 (FX6_in l2 (0 : Int32) (2 : Int32)) fun r4 =>
    if r4 = 0 then
      some ((-2 : Int32), B)
    else
      c1 (FX6_putAside B) fun B9 =>
      c2 (FX6_reckon B9) fun r10 B12 =>
      ld (B12 1) 356 (3 : Int32) fun v13 =>
      ld (B12 1) 356 ((76 : Int32) + l1) fun v16 =>
      c1 (FX6_buys B12 l1) fun B21 =>
      FX6_wouldBuy_63 fu l1 l2 v16 (0 : Int32) (0 : Int32) v13 B21
set_option maxRecDepth 100000 in
set_option maxHeartbeats 4000000 in
theorem wX6_wouldBuy {E : WE} {V : VT} {A : Nat → Prop} {H0 : Heap} {M : Mem} (Cx : CX E RX6 cX6_wouldBuy 8 3 71) {r : Int32} {B' : Blk} (hret : RetI E V A H0 cX6_wouldBuy .int r (jb M 12 B')) {H : Heap} {locs : List Loc} {ls : Array Slot} {l1 : Int32} {l2 : Int32} {B : Blk} (hW : Wd V A H0 (jb M 12 B) (eS E) H locs) (hl : lv_has ls 8 [(0, .ref (vA V 12 0)), (1, .int l1), (2, .int l2)]) (hF : FX6_wouldBuy B l1 l2 = some (r, B')) : Wq E H locs 0 ls [] := by
  unfold FX6_wouldBuy at hF
  refine q_aload_n Cx dX6_wouldBuy_0 rfl (lv_at hl 0 rfl) ?_
  refine q_iload_n Cx dX6_wouldBuy_1 rfl (lv_at hl 1 rfl) ?_
  obtain ⟨r1, e2, hF⟩ := c1_some hF
  refine q_callI (as := [.int l1]) (rest := []) Cx (kX6_isTask e2) okX6_isTask ovX6_isTask wd_799 ⟨rfl, rfl, by decide, by decide⟩ hW oZ ic6 rfl hl.1 (Nat.le_of_ble_eq_true rfl) rfl dX6_wouldBuy_2 (fun H locs hW => ?_)
  refine q_if_ne (tgt := 10) Cx dX6_wouldBuy_5 (by decide) (fun c3 => ?_) (fun c3 => ?_)
  · have hF := (if_neg c3).symm.trans hF
    refine q_iload_n Cx dX6_wouldBuy_10 rfl (lv_at hl 2 rfl) ?_
    refine q_iconst (v := (0 : Int32)) Cx dX6_wouldBuy_11 (by decide) ?_
    refine q_iconst (v := (2 : Int32)) Cx dX6_wouldBuy_12 (by decide) ?_
    obtain ⟨r4, e5, hF⟩ := c1_some hF
    refine q_callSI (as := [.int l2, .int (0 : Int32), .int (2 : Int32)]) (rest := []) Cx (kX6_in e5) okX6_in osX6_in rfl wd_780 ⟨rfl, rfl, by decide, by decide⟩ hW rfl hl.1 (Nat.le_of_ble_eq_true rfl) rfl dX6_wouldBuy_13 (fun H locs hW => ?_)
    refine q_if_ne (tgt := 22) Cx dX6_wouldBuy_16 (by decide) (fun c6 => ?_) (fun c6 => ?_)
    · have hF := (if_neg c6).symm.trans hF
      refine q_aload_n Cx dX6_wouldBuy_22 rfl (lv_at hl 0 rfl) ?_
      obtain ⟨B9, e8, hF⟩ := c1_some hF
      refine q_callV (as := []) (rest := []) Cx (kX6_putAside e8) okX6_putAside ovX6_putAside wd_968 ⟨rfl, rfl, by decide, by decide⟩ hW oZ ic6 rfl hl.1 (Nat.le_of_ble_eq_true rfl) rfl dX6_wouldBuy_23 (fun H locs hW => ?_)
      refine q_aload_n Cx dX6_wouldBuy_26 rfl (lv_at hl 0 rfl) ?_
      obtain ⟨r10, B12, e11, hF⟩ := c2_some hF
      refine q_callI (as := []) (rest := []) Cx (kX6_reckon e11) okX6_reckon ovX6_reckon wd_820 ⟨rfl, rfl, by decide, by decide⟩ hW oZ ic6 rfl hl.1 (Nat.le_of_ble_eq_true rfl) rfl dX6_wouldBuy_27 (fun H locs hW => ?_)
      refine q_pop Cx dX6_wouldBuy_30 rfl ?_
      refine q_aload_n Cx dX6_wouldBuy_31 rfl (lv_at hl 0 rfl) ?_
      refine q_get (v := .ref (vA V 12 1)) Cx hW oZ ic6 0 (by decide) rfl wd_714 dX6_wouldBuy_32 ?_
      refine q_iconst (v := (3 : Int32)) Cx dX6_wouldBuy_35 (by decide) ?_
      obtain ⟨h14, v13, e15, hF⟩ := ld_some hF
      refine qb_iald Cx hW az_1 h14 e15 dX6_wouldBuy_36 ?_
      refine q_istore_n (lv' := [(3, .int v13), (0, .ref (vA V 12 0)), (1, .int l1), (2, .int l2)]) Cx dX6_wouldBuy_37 rfl hl (by decide) rfl (fun ls hl => ?_)
      refine q_aload_n Cx dX6_wouldBuy_38 rfl (lv_at hl 1 rfl) ?_
      refine q_get (v := .ref (vA V 12 1)) Cx hW oZ ic6 0 (by decide) rfl wd_714 dX6_wouldBuy_39 ?_
      refine q_bipush (v := (76 : Int32)) Cx dX6_wouldBuy_42 (by decide) ?_
      refine q_iload_n Cx dX6_wouldBuy_44 rfl (lv_at hl 2 rfl) ?_
      refine q_iadd Cx dX6_wouldBuy_45 ?_
      obtain ⟨h17, v16, e18, hF⟩ := ld_some hF
      refine qb_iald Cx hW az_1 h17 e18 dX6_wouldBuy_46 ?_
      refine q_istore (lv' := [(4, .int v16), (3, .int v13), (0, .ref (vA V 12 0)), (1, .int l1), (2, .int l2)]) Cx dX6_wouldBuy_47 hl (by decide) rfl (fun ls hl => ?_)
      refine q_aload_n Cx dX6_wouldBuy_49 rfl (lv_at hl 2 rfl) ?_
      refine q_iload_n Cx dX6_wouldBuy_50 rfl (lv_at hl 3 rfl) ?_
      obtain ⟨B21, e20, hF⟩ := c1_some hF
      refine q_callV (as := [.int l1]) (rest := []) Cx (kX6_buys e20) okX6_buys ovX6_buys wd_860 ⟨rfl, rfl, by decide, by decide⟩ hW oZ ic6 rfl hl.1 (Nat.le_of_ble_eq_true rfl) rfl dX6_wouldBuy_51 (fun H locs hW => ?_)
      refine q_iconst (v := (0 : Int32)) Cx dX6_wouldBuy_54 (by decide) ?_
      refine q_istore (lv' := [(5, .int (0 : Int32)), (4, .int v16), (3, .int v13), (0, .ref (vA V 12 0)), (1, .int l1), (2, .int l2)]) Cx dX6_wouldBuy_55 hl (by decide) rfl (fun ls hl => ?_)
      refine q_iconst (v := (0 : Int32)) Cx dX6_wouldBuy_57 (by decide) ?_
      refine q_istore (lv' := [(6, .int (0 : Int32)), (5, .int (0 : Int32)), (4, .int v16), (3, .int v13), (0, .ref (vA V 12 0)), (1, .int l1), (2, .int l2)]) Cx dX6_wouldBuy_58 hl (by decide) rfl (fun ls hl => ?_)
      refine q_iload_n Cx dX6_wouldBuy_60 rfl (lv_at hl 3 rfl) ?_
      refine q_istore (lv' := [(7, .int v13), (6, .int (0 : Int32)), (5, .int (0 : Int32)), (4, .int v16), (3, .int v13), (0, .ref (vA V 12 0)), (1, .int l1), (2, .int l2)]) Cx dX6_wouldBuy_61 hl (by decide) rfl (fun ls hl => ?_)
      exact wX6_wouldBuy_63 Cx hret fu hW (lv_sub hl [5, 6, 7, 3, 2, 1, 0] rfl) hF
    · have hF := (if_pos c6).symm.trans hF
      refine q_bipush (v := (-2 : Int32)) Cx dX6_wouldBuy_19 (by decide) ?_
      obtain ⟨rfl, rfl⟩ := Prod.mk.inj (Option.some.inj hF)
      exact hret _ _ _ _ dX6_wouldBuy_21 (nI32 _) hW
  · have hF := (if_pos c3).symm.trans hF
    refine q_iconst (v := (-1 : Int32)) Cx dX6_wouldBuy_8 (by decide) ?_
    obtain ⟨rfl, rfl⟩ := Prod.mk.inj (Option.some.inj hF)
    exact hret _ _ _ _ dX6_wouldBuy_9 (nI32 _) hW
set_option maxRecDepth 100000 in
theorem kX6_wouldBuy {l : Launch} {V : VT} {M : Mem} {B : Blk} {l1 : Int32} {l2 : Int32} {r : Int32} {B' : Blk} (hF : FX6_wouldBuy B l1 l2 = some (r, B')) : MetI l V yX6_wouldBuy cX6_wouldBuy 8 .int ({ frames := 3, cells := 0, slots := 0, locals := 71 } : Room) [.ref (vA V 12 0), .int l1, .int l2] r (jb M 12 B) (jb M 12 B') := metI_of (by decide) (Nat.le_of_ble_eq_true rfl) (fun E H0 _ Cx hret H locs ls hW hl => wX6_wouldBuy Cx hret hW hl hF)
theorem dX6_leastMoney_0 : decode cX6_leastMoney 0 = .ok (.aload_n 0, 1) := by decide +kernel
theorem dX6_leastMoney_1 : decode cX6_leastMoney 1 = .ok (.iload_n 1, 1) := by decide +kernel
theorem dX6_leastMoney_2 : decode cX6_leastMoney 2 = .ok (.invokevirtual 89, 3) := by decide +kernel
theorem dX6_leastMoney_5 : decode cX6_leastMoney 5 = .ok (.ifCond .ne 5, 3) := by decide +kernel
theorem dX6_leastMoney_8 : decode cX6_leastMoney 8 = .ok (.iconst (-1), 1) := by decide +kernel
theorem dX6_leastMoney_9 : decode cX6_leastMoney 9 = .ok (.ireturn, 1) := by decide +kernel
theorem dX6_leastMoney_10 : decode cX6_leastMoney 10 = .ok (.aload_n 0, 1) := by decide +kernel
theorem dX6_leastMoney_11 : decode cX6_leastMoney 11 = .ok (.invokevirtual 165, 3) := by decide +kernel
theorem dX6_leastMoney_14 : decode cX6_leastMoney 14 = .ok (.aload_n 0, 1) := by decide +kernel
theorem dX6_leastMoney_15 : decode cX6_leastMoney 15 = .ok (.invokevirtual 77, 3) := by decide +kernel
theorem dX6_leastMoney_18 : decode cX6_leastMoney 18 = .ok (.pop, 1) := by decide +kernel
theorem dX6_leastMoney_19 : decode cX6_leastMoney 19 = .ok (.aload_n 0, 1) := by decide +kernel
theorem dX6_leastMoney_20 : decode cX6_leastMoney 20 = .ok (.getfield 7, 3) := by decide +kernel
theorem dX6_leastMoney_23 : decode cX6_leastMoney 23 = .ok (.bipush 76, 2) := by decide +kernel
theorem dX6_leastMoney_25 : decode cX6_leastMoney 25 = .ok (.iload_n 1, 1) := by decide +kernel
theorem dX6_leastMoney_26 : decode cX6_leastMoney 26 = .ok (.iadd, 1) := by decide +kernel
theorem dX6_leastMoney_27 : decode cX6_leastMoney 27 = .ok (.ldc 171, 2) := by decide +kernel
theorem dX6_leastMoney_29 : decode cX6_leastMoney 29 = .ok (.iastore, 1) := by decide +kernel
theorem dX6_leastMoney_30 : decode cX6_leastMoney 30 = .ok (.aload_n 0, 1) := by decide +kernel
theorem dX6_leastMoney_31 : decode cX6_leastMoney 31 = .ok (.iload_n 1, 1) := by decide +kernel
theorem dX6_leastMoney_32 : decode cX6_leastMoney 32 = .ok (.invokevirtual 127, 3) := by decide +kernel
theorem dX6_leastMoney_35 : decode cX6_leastMoney 35 = .ok (.ldc 171, 2) := by decide +kernel
theorem dX6_leastMoney_37 : decode cX6_leastMoney 37 = .ok (.aload_n 0, 1) := by decide +kernel
theorem dX6_leastMoney_38 : decode cX6_leastMoney 38 = .ok (.getfield 7, 3) := by decide +kernel
theorem dX6_leastMoney_41 : decode cX6_leastMoney 41 = .ok (.bipush 76, 2) := by decide +kernel
theorem dX6_leastMoney_43 : decode cX6_leastMoney 43 = .ok (.iload_n 1, 1) := by decide +kernel
theorem dX6_leastMoney_44 : decode cX6_leastMoney 44 = .ok (.iadd, 1) := by decide +kernel
theorem dX6_leastMoney_45 : decode cX6_leastMoney 45 = .ok (.iaload, 1) := by decide +kernel
theorem dX6_leastMoney_46 : decode cX6_leastMoney 46 = .ok (.isub, 1) := by decide +kernel
theorem dX6_leastMoney_47 : decode cX6_leastMoney 47 = .ok (.istore_n 2, 1) := by decide +kernel
theorem dX6_leastMoney_48 : decode cX6_leastMoney 48 = .ok (.aload_n 0, 1) := by decide +kernel
theorem dX6_leastMoney_49 : decode cX6_leastMoney 49 = .ok (.iload_n 1, 1) := by decide +kernel
theorem dX6_leastMoney_50 : decode cX6_leastMoney 50 = .ok (.invokevirtual 74, 3) := by decide +kernel
theorem dX6_leastMoney_53 : decode cX6_leastMoney 53 = .ok (.ifCond .ne 7, 3) := by decide +kernel
theorem dX6_leastMoney_56 : decode cX6_leastMoney 56 = .ok (.iconst 1, 1) := by decide +kernel
theorem dX6_leastMoney_57 : decode cX6_leastMoney 57 = .ok (.goto 4, 3) := by decide +kernel
theorem dX6_leastMoney_60 : decode cX6_leastMoney 60 = .ok (.iconst 0, 1) := by decide +kernel
theorem dX6_leastMoney_61 : decode cX6_leastMoney 61 = .ok (.istore_n 3, 1) := by decide +kernel
theorem dX6_leastMoney_62 : decode cX6_leastMoney 62 = .ok (.aload_n 0, 1) := by decide +kernel
theorem dX6_leastMoney_63 : decode cX6_leastMoney 63 = .ok (.invokevirtual 168, 3) := by decide +kernel
theorem dX6_leastMoney_66 : decode cX6_leastMoney 66 = .ok (.iload_n 3, 1) := by decide +kernel
theorem dX6_leastMoney_67 : decode cX6_leastMoney 67 = .ok (.ifCond .eq 7, 3) := by decide +kernel
theorem dX6_leastMoney_70 : decode cX6_leastMoney 70 = .ok (.iload_n 2, 1) := by decide +kernel
theorem dX6_leastMoney_71 : decode cX6_leastMoney 71 = .ok (.goto 5, 3) := by decide +kernel
theorem dX6_leastMoney_74 : decode cX6_leastMoney 74 = .ok (.bipush (-6), 2) := by decide +kernel
theorem dX6_leastMoney_76 : decode cX6_leastMoney 76 = .ok (.ireturn, 1) := by decide +kernel
theorem okX6_leastMoney : CalOK yX6_leastMoney cX6_leastMoney 4 (some .int) 1 := ⟨wd_73, wd_979, by decide +kernel⟩
theorem ovX6_leastMoney : VirOK yX6_leastMoney := ⟨wd_977, wd_978⟩
def FX6_leastMoney_61 (l2 : Int32) (s0 : Int32) (B : Blk) : Option (Int32 × Blk) :=
  c1 (FX6_bringBack B) fun B26 =>
  if s0 = 0 then
    some ((-6 : Int32), B26)
  else
    some (l2, B26)
set_option maxRecDepth 100000 in
set_option maxHeartbeats 4000000 in
theorem wX6_leastMoney_61 {E : WE} {V : VT} {A : Nat → Prop} {H0 : Heap} {M : Mem} (Cx : CX E RX6 cX6_leastMoney 4 3 71) {r : Int32} {B' : Blk} (hret : RetI E V A H0 cX6_leastMoney .int r (jb M 12 B')) {H : Heap} {locs : List Loc} {ls : Array Slot} {l2 : Int32} {s0 : Int32} {B : Blk} (hW : Wd V A H0 (jb M 12 B) (eS E) H locs) (hl : lv_has ls 4 [(0, .ref (vA V 12 0)), (2, .int l2)]) (hF : FX6_leastMoney_61 l2 s0 B = some (r, B')) : Wq E H locs 61 ls [.int s0] := by
  unfold FX6_leastMoney_61 at hF
  refine q_istore_n (lv' := [(3, .int s0), (0, .ref (vA V 12 0)), (2, .int l2)]) Cx dX6_leastMoney_61 rfl hl (by decide) rfl (fun ls hl => ?_)
  refine q_aload_n Cx dX6_leastMoney_62 rfl (lv_at hl 1 rfl) ?_
  obtain ⟨B26, e25, hF⟩ := c1_some hF
  refine q_callV (as := []) (rest := []) Cx (kX6_bringBack e25) okX6_bringBack ovX6_bringBack wd_972 ⟨rfl, rfl, by decide, by decide⟩ hW oZ ic6 rfl hl.1 (Nat.le_of_ble_eq_true rfl) rfl dX6_leastMoney_63 (fun H locs hW => ?_)
  refine q_iload_n Cx dX6_leastMoney_66 rfl (lv_at hl 0 rfl) ?_
  refine q_if_eq (tgt := 74) Cx dX6_leastMoney_67 (by decide) (fun c27 => ?_) (fun c27 => ?_)
  · have hF := (if_pos c27).symm.trans hF
    refine q_bipush (v := (-6 : Int32)) Cx dX6_leastMoney_74 (by decide) ?_
    obtain ⟨rfl, rfl⟩ := Prod.mk.inj (Option.some.inj hF)
    exact hret _ _ _ _ dX6_leastMoney_76 (nI32 _) hW
  · have hF := (if_neg c27).symm.trans hF
    refine q_iload_n Cx dX6_leastMoney_70 rfl (lv_at hl 2 rfl) ?_
    refine q_goto (tgt := 76) Cx dX6_leastMoney_71 (by decide) ?_
    obtain ⟨rfl, rfl⟩ := Prod.mk.inj (Option.some.inj hF)
    exact hret _ _ _ _ dX6_leastMoney_76 (nI32 _) hW
def FX6_leastMoney (B : Blk) (l1 : Int32) : Option (Int32 × Blk) :=
  c1 (FX6_isTask B l1) fun r1 =>
  if r1 = 0 then
    some ((-1 : Int32), B)
  else
    c1 (FX6_putAside B) fun B6 =>
    c2 (FX6_reckon B6) fun r7 B9 =>
    stb B9 1 356 ((76 : Int32) + l1) (100000000 : Int32) fun B10 =>
    c1 (FX6_buys B10 l1) fun B15 =>
    ld (B15 1) 356 ((76 : Int32) + l1) fun v16 =>
    lt1 ((100000000 : Int32) - v16) fun x19 =>
    c1 (FX6_late B15 l1) fun r21 =>
    if r21 = 0 then
      FX6_leastMoney_61 x19 (1 : Int32) B15
    else
      FX6_leastMoney_61 x19 (0 : Int32) B15
set_option maxRecDepth 100000 in
set_option maxHeartbeats 4000000 in
theorem wX6_leastMoney {E : WE} {V : VT} {A : Nat → Prop} {H0 : Heap} {M : Mem} (Cx : CX E RX6 cX6_leastMoney 4 3 71) {r : Int32} {B' : Blk} (hret : RetI E V A H0 cX6_leastMoney .int r (jb M 12 B')) {H : Heap} {locs : List Loc} {ls : Array Slot} {l1 : Int32} {B : Blk} (hW : Wd V A H0 (jb M 12 B) (eS E) H locs) (hl : lv_has ls 4 [(0, .ref (vA V 12 0)), (1, .int l1)]) (hF : FX6_leastMoney B l1 = some (r, B')) : Wq E H locs 0 ls [] := by
  unfold FX6_leastMoney at hF
  refine q_aload_n Cx dX6_leastMoney_0 rfl (lv_at hl 0 rfl) ?_
  refine q_iload_n Cx dX6_leastMoney_1 rfl (lv_at hl 1 rfl) ?_
  obtain ⟨r1, e2, hF⟩ := c1_some hF
  refine q_callI (as := [.int l1]) (rest := []) Cx (kX6_isTask e2) okX6_isTask ovX6_isTask wd_799 ⟨rfl, rfl, by decide, by decide⟩ hW oZ ic6 rfl hl.1 (Nat.le_of_ble_eq_true rfl) rfl dX6_leastMoney_2 (fun H locs hW => ?_)
  refine q_if_ne (tgt := 10) Cx dX6_leastMoney_5 (by decide) (fun c3 => ?_) (fun c3 => ?_)
  · have hF := (if_neg c3).symm.trans hF
    refine q_aload_n Cx dX6_leastMoney_10 rfl (lv_at hl 0 rfl) ?_
    obtain ⟨B6, e5, hF⟩ := c1_some hF
    refine q_callV (as := []) (rest := []) Cx (kX6_putAside e5) okX6_putAside ovX6_putAside wd_968 ⟨rfl, rfl, by decide, by decide⟩ hW oZ ic6 rfl hl.1 (Nat.le_of_ble_eq_true rfl) rfl dX6_leastMoney_11 (fun H locs hW => ?_)
    refine q_aload_n Cx dX6_leastMoney_14 rfl (lv_at hl 0 rfl) ?_
    obtain ⟨r7, B9, e8, hF⟩ := c2_some hF
    refine q_callI (as := []) (rest := []) Cx (kX6_reckon e8) okX6_reckon ovX6_reckon wd_820 ⟨rfl, rfl, by decide, by decide⟩ hW oZ ic6 rfl hl.1 (Nat.le_of_ble_eq_true rfl) rfl dX6_leastMoney_15 (fun H locs hW => ?_)
    refine q_pop Cx dX6_leastMoney_18 rfl ?_
    refine q_aload_n Cx dX6_leastMoney_19 rfl (lv_at hl 0 rfl) ?_
    refine q_get (v := .ref (vA V 12 1)) Cx hW oZ ic6 0 (by decide) rfl wd_714 dX6_leastMoney_20 ?_
    refine q_bipush (v := (76 : Int32)) Cx dX6_leastMoney_23 (by decide) ?_
    refine q_iload_n Cx dX6_leastMoney_25 rfl (lv_at hl 1 rfl) ?_
    refine q_iadd Cx dX6_leastMoney_26 ?_
    refine q_ldc (v := (100000000 : Int32)) Cx dX6_leastMoney_27 wd_980 ?_
    obtain ⟨h11, B10, e12, hF⟩ := stb_some hF
    refine qb_iast Cx hW az_1 h11 e12 dX6_leastMoney_29 (fun H locs hW => ?_)
    refine q_aload_n Cx dX6_leastMoney_30 rfl (lv_at hl 0 rfl) ?_
    refine q_iload_n Cx dX6_leastMoney_31 rfl (lv_at hl 1 rfl) ?_
    obtain ⟨B15, e14, hF⟩ := c1_some hF
    refine q_callV (as := [.int l1]) (rest := []) Cx (kX6_buys e14) okX6_buys ovX6_buys wd_860 ⟨rfl, rfl, by decide, by decide⟩ hW oZ ic6 rfl hl.1 (Nat.le_of_ble_eq_true rfl) rfl dX6_leastMoney_32 (fun H locs hW => ?_)
    refine q_ldc (v := (100000000 : Int32)) Cx dX6_leastMoney_35 wd_980 ?_
    refine q_aload_n Cx dX6_leastMoney_37 rfl (lv_at hl 0 rfl) ?_
    refine q_get (v := .ref (vA V 12 1)) Cx hW oZ ic6 0 (by decide) rfl wd_714 dX6_leastMoney_38 ?_
    refine q_bipush (v := (76 : Int32)) Cx dX6_leastMoney_41 (by decide) ?_
    refine q_iload_n Cx dX6_leastMoney_43 rfl (lv_at hl 1 rfl) ?_
    refine q_iadd Cx dX6_leastMoney_44 ?_
    obtain ⟨h17, v16, e18, hF⟩ := ld_some hF
    refine qb_iald Cx hW az_1 h17 e18 dX6_leastMoney_45 ?_
    refine q_isub Cx dX6_leastMoney_46 ?_
    obtain ⟨x19, e20, hF⟩ := lt1_some hF
    refine q_topi e20 ?_
    refine q_istore_n (lv' := [(2, .int x19), (0, .ref (vA V 12 0)), (1, .int l1)]) Cx dX6_leastMoney_47 rfl hl (by decide) rfl (fun ls hl => ?_)
    refine q_aload_n Cx dX6_leastMoney_48 rfl (lv_at hl 1 rfl) ?_
    refine q_iload_n Cx dX6_leastMoney_49 rfl (lv_at hl 2 rfl) ?_
    obtain ⟨r21, e22, hF⟩ := c1_some hF
    refine q_callI (as := [.int l1]) (rest := []) Cx (kX6_late e22) okX6_late ovX6_late wd_856 ⟨rfl, rfl, by decide, by decide⟩ hW oZ ic6 rfl hl.1 (Nat.le_of_ble_eq_true rfl) rfl dX6_leastMoney_50 (fun H locs hW => ?_)
    refine q_if_ne (tgt := 60) Cx dX6_leastMoney_53 (by decide) (fun c23 => ?_) (fun c23 => ?_)
    · have hF := (if_neg c23).symm.trans hF
      refine q_iconst (v := (0 : Int32)) Cx dX6_leastMoney_60 (by decide) ?_
      exact wX6_leastMoney_61 Cx hret hW (lv_sub hl [1, 0] rfl) hF
    · have hF := (if_pos c23).symm.trans hF
      refine q_iconst (v := (1 : Int32)) Cx dX6_leastMoney_56 (by decide) ?_
      refine q_goto (tgt := 61) Cx dX6_leastMoney_57 (by decide) ?_
      exact wX6_leastMoney_61 Cx hret hW (lv_sub hl [1, 0] rfl) hF
  · have hF := (if_pos c3).symm.trans hF
    refine q_iconst (v := (-1 : Int32)) Cx dX6_leastMoney_8 (by decide) ?_
    obtain ⟨rfl, rfl⟩ := Prod.mk.inj (Option.some.inj hF)
    exact hret _ _ _ _ dX6_leastMoney_9 (nI32 _) hW
set_option maxRecDepth 100000 in
theorem kX6_leastMoney {l : Launch} {V : VT} {M : Mem} {B : Blk} {l1 : Int32} {r : Int32} {B' : Blk} (hF : FX6_leastMoney B l1 = some (r, B')) : MetI l V yX6_leastMoney cX6_leastMoney 4 .int ({ frames := 3, cells := 0, slots := 0, locals := 71 } : Room) [.ref (vA V 12 0), .int l1] r (jb M 12 B) (jb M 12 B') := metI_of (by decide) (Nat.le_of_ble_eq_true rfl) (fun E H0 _ Cx hret H locs ls hW hl => wX6_leastMoney Cx hret hW hl hF)
theorem dX6_endIf_0 : decode cX6_endIf 0 = .ok (.aload_n 0, 1) := by decide +kernel
theorem dX6_endIf_1 : decode cX6_endIf 1 = .ok (.iload_n 1, 1) := by decide +kernel
theorem dX6_endIf_2 : decode cX6_endIf 2 = .ok (.invokevirtual 89, 3) := by decide +kernel
theorem dX6_endIf_5 : decode cX6_endIf 5 = .ok (.ifCond .eq 11, 3) := by decide +kernel
theorem dX6_endIf_8 : decode cX6_endIf 8 = .ok (.aload_n 0, 1) := by decide +kernel
theorem dX6_endIf_9 : decode cX6_endIf 9 = .ok (.iload_n 2, 1) := by decide +kernel
theorem dX6_endIf_10 : decode cX6_endIf 10 = .ok (.invokevirtual 89, 3) := by decide +kernel
theorem dX6_endIf_13 : decode cX6_endIf 13 = .ok (.ifCond .ne 5, 3) := by decide +kernel
theorem dX6_endIf_16 : decode cX6_endIf 16 = .ok (.iconst (-1), 1) := by decide +kernel
theorem dX6_endIf_17 : decode cX6_endIf 17 = .ok (.ireturn, 1) := by decide +kernel
theorem dX6_endIf_18 : decode cX6_endIf 18 = .ok (.iload_n 3, 1) := by decide +kernel
theorem dX6_endIf_19 : decode cX6_endIf 19 = .ok (.iconst 1, 1) := by decide +kernel
theorem dX6_endIf_20 : decode cX6_endIf 20 = .ok (.bipush 100, 2) := by decide +kernel
theorem dX6_endIf_22 : decode cX6_endIf 22 = .ok (.invokestatic 56, 3) := by decide +kernel
theorem dX6_endIf_25 : decode cX6_endIf 25 = .ok (.ifCond .ne 6, 3) := by decide +kernel
theorem dX6_endIf_28 : decode cX6_endIf 28 = .ok (.bipush (-2), 2) := by decide +kernel
theorem dX6_endIf_30 : decode cX6_endIf 30 = .ok (.ireturn, 1) := by decide +kernel
theorem dX6_endIf_31 : decode cX6_endIf 31 = .ok (.aload_n 0, 1) := by decide +kernel
theorem dX6_endIf_32 : decode cX6_endIf 32 = .ok (.getfield 7, 3) := by decide +kernel
theorem dX6_endIf_35 : decode cX6_endIf 35 = .ok (.bipush 28, 2) := by decide +kernel
theorem dX6_endIf_37 : decode cX6_endIf 37 = .ok (.iload_n 2, 1) := by decide +kernel
theorem dX6_endIf_38 : decode cX6_endIf 38 = .ok (.iadd, 1) := by decide +kernel
theorem dX6_endIf_39 : decode cX6_endIf 39 = .ok (.iaload, 1) := by decide +kernel
theorem dX6_endIf_40 : decode cX6_endIf 40 = .ok (.istore 4, 2) := by decide +kernel
theorem dX6_endIf_42 : decode cX6_endIf 42 = .ok (.aload_n 0, 1) := by decide +kernel
theorem dX6_endIf_43 : decode cX6_endIf 43 = .ok (.getfield 7, 3) := by decide +kernel
theorem dX6_endIf_46 : decode cX6_endIf 46 = .ok (.bipush 28, 2) := by decide +kernel
theorem dX6_endIf_48 : decode cX6_endIf 48 = .ok (.iload_n 2, 1) := by decide +kernel
theorem dX6_endIf_49 : decode cX6_endIf 49 = .ok (.iadd, 1) := by decide +kernel
theorem dX6_endIf_50 : decode cX6_endIf 50 = .ok (.iload_n 3, 1) := by decide +kernel
theorem dX6_endIf_51 : decode cX6_endIf 51 = .ok (.iastore, 1) := by decide +kernel
theorem dX6_endIf_52 : decode cX6_endIf 52 = .ok (.aload_n 0, 1) := by decide +kernel
theorem dX6_endIf_53 : decode cX6_endIf 53 = .ok (.invokevirtual 77, 3) := by decide +kernel
theorem dX6_endIf_56 : decode cX6_endIf 56 = .ok (.pop, 1) := by decide +kernel
theorem dX6_endIf_57 : decode cX6_endIf 57 = .ok (.aload_n 0, 1) := by decide +kernel
theorem dX6_endIf_58 : decode cX6_endIf 58 = .ok (.getfield 7, 3) := by decide +kernel
theorem dX6_endIf_61 : decode cX6_endIf 61 = .ok (.bipush 28, 2) := by decide +kernel
theorem dX6_endIf_63 : decode cX6_endIf 63 = .ok (.iload_n 2, 1) := by decide +kernel
theorem dX6_endIf_64 : decode cX6_endIf 64 = .ok (.iadd, 1) := by decide +kernel
theorem dX6_endIf_65 : decode cX6_endIf 65 = .ok (.iload 4, 2) := by decide +kernel
theorem dX6_endIf_67 : decode cX6_endIf 67 = .ok (.iastore, 1) := by decide +kernel
theorem dX6_endIf_68 : decode cX6_endIf 68 = .ok (.aload_n 0, 1) := by decide +kernel
theorem dX6_endIf_69 : decode cX6_endIf 69 = .ok (.getfield 33, 3) := by decide +kernel
theorem dX6_endIf_72 : decode cX6_endIf 72 = .ok (.iload_n 1, 1) := by decide +kernel
theorem dX6_endIf_73 : decode cX6_endIf 73 = .ok (.iaload, 1) := by decide +kernel
theorem dX6_endIf_74 : decode cX6_endIf 74 = .ok (.ireturn, 1) := by decide +kernel
theorem okX6_endIf : CalOK yX6_endIf cX6_endIf 5 (some .int) 3 := ⟨wd_73, wd_984, by decide +kernel⟩
theorem ovX6_endIf : VirOK yX6_endIf := ⟨wd_982, wd_983⟩
def FX6_endIf (B : Blk) (l1 : Int32) (l2 : Int32) (l3 : Int32) : Option (Int32 × Blk) :=
  c1 (FX6_isTask B l1) fun r1 =>
  if r1 = 0 then
    some ((-1 : Int32), B)
  else
    c1 (FX6_isTask B l2) fun r4 =>
    if r4 = 0 then
      some ((-1 : Int32), B)
    else
      c1 (FX6_in l3 (1 : Int32) (100 : Int32)) fun r7 =>
      if r7 = 0 then
        some ((-2 : Int32), B)
      else
        ld (B 1) 356 ((28 : Int32) + l2) fun v10 =>
        stb B 1 356 ((28 : Int32) + l2) l3 fun B13 =>
        c2 (FX6_reckon B13) fun r16 B18 =>
        stb B18 1 356 ((28 : Int32) + l2) v10 fun B19 =>
        ld (B19 8) 24 l1 fun v22 =>
        some (v22, B19)
set_option maxRecDepth 100000 in
set_option maxHeartbeats 4000000 in
theorem wX6_endIf {E : WE} {V : VT} {A : Nat → Prop} {H0 : Heap} {M : Mem} (Cx : CX E RX6 cX6_endIf 5 2 51) {r : Int32} {B' : Blk} (hret : RetI E V A H0 cX6_endIf .int r (jb M 12 B')) {H : Heap} {locs : List Loc} {ls : Array Slot} {l1 : Int32} {l2 : Int32} {l3 : Int32} {B : Blk} (hW : Wd V A H0 (jb M 12 B) (eS E) H locs) (hl : lv_has ls 5 [(0, .ref (vA V 12 0)), (1, .int l1), (2, .int l2), (3, .int l3)]) (hF : FX6_endIf B l1 l2 l3 = some (r, B')) : Wq E H locs 0 ls [] := by
  unfold FX6_endIf at hF
  refine q_aload_n Cx dX6_endIf_0 rfl (lv_at hl 0 rfl) ?_
  refine q_iload_n Cx dX6_endIf_1 rfl (lv_at hl 1 rfl) ?_
  obtain ⟨r1, e2, hF⟩ := c1_some hF
  refine q_callI (as := [.int l1]) (rest := []) Cx (kX6_isTask e2) okX6_isTask ovX6_isTask wd_799 ⟨rfl, rfl, by decide, by decide⟩ hW oZ ic6 rfl hl.1 (Nat.le_of_ble_eq_true rfl) rfl dX6_endIf_2 (fun H locs hW => ?_)
  refine q_if_eq (tgt := 16) Cx dX6_endIf_5 (by decide) (fun c3 => ?_) (fun c3 => ?_)
  · have hF := (if_pos c3).symm.trans hF
    refine q_iconst (v := (-1 : Int32)) Cx dX6_endIf_16 (by decide) ?_
    obtain ⟨rfl, rfl⟩ := Prod.mk.inj (Option.some.inj hF)
    exact hret _ _ _ _ dX6_endIf_17 (nI32 _) hW
  · have hF := (if_neg c3).symm.trans hF
    refine q_aload_n Cx dX6_endIf_8 rfl (lv_at hl 0 rfl) ?_
    refine q_iload_n Cx dX6_endIf_9 rfl (lv_at hl 2 rfl) ?_
    obtain ⟨r4, e5, hF⟩ := c1_some hF
    refine q_callI (as := [.int l2]) (rest := []) Cx (kX6_isTask e5) okX6_isTask ovX6_isTask wd_799 ⟨rfl, rfl, by decide, by decide⟩ hW oZ ic6 rfl hl.1 (Nat.le_of_ble_eq_true rfl) rfl dX6_endIf_10 (fun H locs hW => ?_)
    refine q_if_ne (tgt := 18) Cx dX6_endIf_13 (by decide) (fun c6 => ?_) (fun c6 => ?_)
    · have hF := (if_neg c6).symm.trans hF
      refine q_iload_n Cx dX6_endIf_18 rfl (lv_at hl 3 rfl) ?_
      refine q_iconst (v := (1 : Int32)) Cx dX6_endIf_19 (by decide) ?_
      refine q_bipush (v := (100 : Int32)) Cx dX6_endIf_20 (by decide) ?_
      obtain ⟨r7, e8, hF⟩ := c1_some hF
      refine q_callSI (as := [.int l3, .int (1 : Int32), .int (100 : Int32)]) (rest := []) Cx (kX6_in e8) okX6_in osX6_in rfl wd_780 ⟨rfl, rfl, by decide, by decide⟩ hW rfl hl.1 (Nat.le_of_ble_eq_true rfl) rfl dX6_endIf_22 (fun H locs hW => ?_)
      refine q_if_ne (tgt := 31) Cx dX6_endIf_25 (by decide) (fun c9 => ?_) (fun c9 => ?_)
      · have hF := (if_neg c9).symm.trans hF
        refine q_aload_n Cx dX6_endIf_31 rfl (lv_at hl 0 rfl) ?_
        refine q_get (v := .ref (vA V 12 1)) Cx hW oZ ic6 0 (by decide) rfl wd_714 dX6_endIf_32 ?_
        refine q_bipush (v := (28 : Int32)) Cx dX6_endIf_35 (by decide) ?_
        refine q_iload_n Cx dX6_endIf_37 rfl (lv_at hl 2 rfl) ?_
        refine q_iadd Cx dX6_endIf_38 ?_
        obtain ⟨h11, v10, e12, hF⟩ := ld_some hF
        refine qb_iald Cx hW az_1 h11 e12 dX6_endIf_39 ?_
        refine q_istore (lv' := [(4, .int v10), (0, .ref (vA V 12 0)), (1, .int l1), (2, .int l2), (3, .int l3)]) Cx dX6_endIf_40 hl (by decide) rfl (fun ls hl => ?_)
        refine q_aload_n Cx dX6_endIf_42 rfl (lv_at hl 1 rfl) ?_
        refine q_get (v := .ref (vA V 12 1)) Cx hW oZ ic6 0 (by decide) rfl wd_714 dX6_endIf_43 ?_
        refine q_bipush (v := (28 : Int32)) Cx dX6_endIf_46 (by decide) ?_
        refine q_iload_n Cx dX6_endIf_48 rfl (lv_at hl 3 rfl) ?_
        refine q_iadd Cx dX6_endIf_49 ?_
        refine q_iload_n Cx dX6_endIf_50 rfl (lv_at hl 4 rfl) ?_
        obtain ⟨h14, B13, e15, hF⟩ := stb_some hF
        refine qb_iast Cx hW az_1 h14 e15 dX6_endIf_51 (fun H locs hW => ?_)
        refine q_aload_n Cx dX6_endIf_52 rfl (lv_at hl 1 rfl) ?_
        obtain ⟨r16, B18, e17, hF⟩ := c2_some hF
        refine q_callI (as := []) (rest := []) Cx (kX6_reckon e17) okX6_reckon ovX6_reckon wd_820 ⟨rfl, rfl, by decide, by decide⟩ hW oZ ic6 rfl hl.1 (Nat.le_of_ble_eq_true rfl) rfl dX6_endIf_53 (fun H locs hW => ?_)
        refine q_pop Cx dX6_endIf_56 rfl ?_
        refine q_aload_n Cx dX6_endIf_57 rfl (lv_at hl 1 rfl) ?_
        refine q_get (v := .ref (vA V 12 1)) Cx hW oZ ic6 0 (by decide) rfl wd_714 dX6_endIf_58 ?_
        refine q_bipush (v := (28 : Int32)) Cx dX6_endIf_61 (by decide) ?_
        refine q_iload_n Cx dX6_endIf_63 rfl (lv_at hl 3 rfl) ?_
        refine q_iadd Cx dX6_endIf_64 ?_
        refine q_iload Cx dX6_endIf_65 (lv_at hl 0 rfl) ?_
        obtain ⟨h20, B19, e21, hF⟩ := stb_some hF
        refine qb_iast Cx hW az_1 h20 e21 dX6_endIf_67 (fun H locs hW => ?_)
        refine q_aload_n Cx dX6_endIf_68 rfl (lv_at hl 1 rfl) ?_
        refine q_get (v := .ref (vA V 12 8)) Cx hW oZ ic6 10 (by decide) rfl wd_724 dX6_endIf_69 ?_
        refine q_iload_n Cx dX6_endIf_72 rfl (lv_at hl 2 rfl) ?_
        obtain ⟨h23, v22, e24, hF⟩ := ld_some hF
        refine qb_iald Cx hW az_8 h23 e24 dX6_endIf_73 ?_
        obtain ⟨rfl, rfl⟩ := Prod.mk.inj (Option.some.inj hF)
        exact hret _ _ _ _ dX6_endIf_74 (nI32 _) hW
      · have hF := (if_pos c9).symm.trans hF
        refine q_bipush (v := (-2 : Int32)) Cx dX6_endIf_28 (by decide) ?_
        obtain ⟨rfl, rfl⟩ := Prod.mk.inj (Option.some.inj hF)
        exact hret _ _ _ _ dX6_endIf_30 (nI32 _) hW
    · have hF := (if_pos c6).symm.trans hF
      refine q_iconst (v := (-1 : Int32)) Cx dX6_endIf_16 (by decide) ?_
      obtain ⟨rfl, rfl⟩ := Prod.mk.inj (Option.some.inj hF)
      exact hret _ _ _ _ dX6_endIf_17 (nI32 _) hW
set_option maxRecDepth 100000 in
theorem kX6_endIf {l : Launch} {V : VT} {M : Mem} {B : Blk} {l1 : Int32} {l2 : Int32} {l3 : Int32} {r : Int32} {B' : Blk} (hF : FX6_endIf B l1 l2 l3 = some (r, B')) : MetI l V yX6_endIf cX6_endIf 5 .int ({ frames := 2, cells := 0, slots := 0, locals := 51 } : Room) [.ref (vA V 12 0), .int l1, .int l2, .int l3] r (jb M 12 B) (jb M 12 B') := metI_of (by decide) (Nat.le_of_ble_eq_true rfl) (fun E H0 _ Cx hret H locs ls hW hl => wX6_endIf Cx hret hW hl hF)
theorem dX6_bestPlace_0 : decode cX6_bestPlace 0 = .ok (.aload_n 0, 1) := by decide +kernel
theorem dX6_bestPlace_1 : decode cX6_bestPlace 1 = .ok (.iload_n 1, 1) := by decide +kernel
theorem dX6_bestPlace_2 : decode cX6_bestPlace 2 = .ok (.invokevirtual 89, 3) := by decide +kernel
theorem dX6_bestPlace_5 : decode cX6_bestPlace 5 = .ok (.ifCond .ne 5, 3) := by decide +kernel
theorem dX6_bestPlace_8 : decode cX6_bestPlace 8 = .ok (.iconst (-1), 1) := by decide +kernel
theorem dX6_bestPlace_9 : decode cX6_bestPlace 9 = .ok (.ireturn, 1) := by decide +kernel
theorem dX6_bestPlace_10 : decode cX6_bestPlace 10 = .ok (.aload_n 0, 1) := by decide +kernel
theorem dX6_bestPlace_11 : decode cX6_bestPlace 11 = .ok (.getfield 7, 3) := by decide +kernel
theorem dX6_bestPlace_14 : decode cX6_bestPlace 14 = .ok (.sipush 172, 3) := by decide +kernel
theorem dX6_bestPlace_17 : decode cX6_bestPlace 17 = .ok (.iload_n 1, 1) := by decide +kernel
theorem dX6_bestPlace_18 : decode cX6_bestPlace 18 = .ok (.iadd, 1) := by decide +kernel
theorem dX6_bestPlace_19 : decode cX6_bestPlace 19 = .ok (.iaload, 1) := by decide +kernel
theorem dX6_bestPlace_20 : decode cX6_bestPlace 20 = .ok (.istore_n 2, 1) := by decide +kernel
theorem dX6_bestPlace_21 : decode cX6_bestPlace 21 = .ok (.bipush (-6), 2) := by decide +kernel
theorem dX6_bestPlace_23 : decode cX6_bestPlace 23 = .ok (.istore_n 3, 1) := by decide +kernel
theorem dX6_bestPlace_24 : decode cX6_bestPlace 24 = .ok (.iconst 0, 1) := by decide +kernel
theorem dX6_bestPlace_25 : decode cX6_bestPlace 25 = .ok (.istore 4, 2) := by decide +kernel
theorem dX6_bestPlace_27 : decode cX6_bestPlace 27 = .ok (.aload_n 0, 1) := by decide +kernel
theorem dX6_bestPlace_28 : decode cX6_bestPlace 28 = .ok (.aload_n 0, 1) := by decide +kernel
theorem dX6_bestPlace_29 : decode cX6_bestPlace 29 = .ok (.getfield 7, 3) := by decide +kernel
theorem dX6_bestPlace_32 : decode cX6_bestPlace 32 = .ok (.iconst 4, 1) := by decide +kernel
theorem dX6_bestPlace_33 : decode cX6_bestPlace 33 = .ok (.iload_n 1, 1) := by decide +kernel
theorem dX6_bestPlace_34 : decode cX6_bestPlace 34 = .ok (.iadd, 1) := by decide +kernel
theorem dX6_bestPlace_35 : decode cX6_bestPlace 35 = .ok (.iaload, 1) := by decide +kernel
theorem dX6_bestPlace_36 : decode cX6_bestPlace 36 = .ok (.invokevirtual 94, 3) := by decide +kernel
theorem dX6_bestPlace_39 : decode cX6_bestPlace 39 = .ok (.istore 5, 2) := by decide +kernel
theorem dX6_bestPlace_41 : decode cX6_bestPlace 41 = .ok (.iconst 0, 1) := by decide +kernel
theorem dX6_bestPlace_42 : decode cX6_bestPlace 42 = .ok (.istore 6, 2) := by decide +kernel
theorem dX6_bestPlace_44 : decode cX6_bestPlace 44 = .ok (.iload 6, 2) := by decide +kernel
theorem dX6_bestPlace_46 : decode cX6_bestPlace 46 = .ok (.iload 5, 2) := by decide +kernel
theorem dX6_bestPlace_48 : decode cX6_bestPlace 48 = .ok (.if_icmp .ge 53, 3) := by decide +kernel
theorem dX6_bestPlace_51 : decode cX6_bestPlace 51 = .ok (.aload_n 0, 1) := by decide +kernel
theorem dX6_bestPlace_52 : decode cX6_bestPlace 52 = .ok (.iload_n 1, 1) := by decide +kernel
theorem dX6_bestPlace_53 : decode cX6_bestPlace 53 = .ok (.iload 6, 2) := by decide +kernel
theorem dX6_bestPlace_55 : decode cX6_bestPlace 55 = .ok (.invokevirtual 97, 3) := by decide +kernel
theorem dX6_bestPlace_58 : decode cX6_bestPlace 58 = .ok (.aload_n 0, 1) := by decide +kernel
theorem dX6_bestPlace_59 : decode cX6_bestPlace 59 = .ok (.invokevirtual 77, 3) := by decide +kernel
theorem dX6_bestPlace_62 : decode cX6_bestPlace 62 = .ok (.istore 7, 2) := by decide +kernel
theorem dX6_bestPlace_64 : decode cX6_bestPlace 64 = .ok (.aload_n 0, 1) := by decide +kernel
theorem dX6_bestPlace_65 : decode cX6_bestPlace 65 = .ok (.invokevirtual 81, 3) := by decide +kernel
theorem dX6_bestPlace_68 : decode cX6_bestPlace 68 = .ok (.istore 8, 2) := by decide +kernel
theorem dX6_bestPlace_70 : decode cX6_bestPlace 70 = .ok (.iload 7, 2) := by decide +kernel
theorem dX6_bestPlace_72 : decode cX6_bestPlace 72 = .ok (.ifCond .eq 23, 3) := by decide +kernel
theorem dX6_bestPlace_75 : decode cX6_bestPlace 75 = .ok (.iload_n 3, 1) := by decide +kernel
theorem dX6_bestPlace_76 : decode cX6_bestPlace 76 = .ok (.bipush (-6), 2) := by decide +kernel
theorem dX6_bestPlace_78 : decode cX6_bestPlace 78 = .ok (.if_icmp .eq 10, 3) := by decide +kernel
theorem dX6_bestPlace_81 : decode cX6_bestPlace 81 = .ok (.iload 8, 2) := by decide +kernel
theorem dX6_bestPlace_83 : decode cX6_bestPlace 83 = .ok (.iload 4, 2) := by decide +kernel
theorem dX6_bestPlace_85 : decode cX6_bestPlace 85 = .ok (.if_icmp .ge 10, 3) := by decide +kernel
theorem dX6_bestPlace_88 : decode cX6_bestPlace 88 = .ok (.iload 6, 2) := by decide +kernel
theorem dX6_bestPlace_90 : decode cX6_bestPlace 90 = .ok (.istore_n 3, 1) := by decide +kernel
theorem dX6_bestPlace_91 : decode cX6_bestPlace 91 = .ok (.iload 8, 2) := by decide +kernel
theorem dX6_bestPlace_93 : decode cX6_bestPlace 93 = .ok (.istore 4, 2) := by decide +kernel
theorem dX6_bestPlace_95 : decode cX6_bestPlace 95 = .ok (.iinc 6 1, 3) := by decide +kernel
theorem dX6_bestPlace_98 : decode cX6_bestPlace 98 = .ok (.goto (-54), 3) := by decide +kernel
theorem dX6_bestPlace_101 : decode cX6_bestPlace 101 = .ok (.aload_n 0, 1) := by decide +kernel
theorem dX6_bestPlace_102 : decode cX6_bestPlace 102 = .ok (.iload_n 1, 1) := by decide +kernel
theorem dX6_bestPlace_103 : decode cX6_bestPlace 103 = .ok (.iload_n 2, 1) := by decide +kernel
theorem dX6_bestPlace_104 : decode cX6_bestPlace 104 = .ok (.invokevirtual 97, 3) := by decide +kernel
theorem dX6_bestPlace_107 : decode cX6_bestPlace 107 = .ok (.iload_n 3, 1) := by decide +kernel
theorem dX6_bestPlace_108 : decode cX6_bestPlace 108 = .ok (.ireturn, 1) := by decide +kernel
theorem okX6_bestPlace : CalOK yX6_bestPlace cX6_bestPlace 9 (some .int) 1 := ⟨wd_73, wd_988, by decide +kernel⟩
theorem ovX6_bestPlace : VirOK yX6_bestPlace := ⟨wd_986, wd_987⟩
def FX6_bestPlace_88 (k44 : Int32 → Int32 → Int32 → Int32 → Int32 → Int32 → Blk → Option (Int32 × Blk)) (l1 : Int32) (l2 : Int32) (l5 : Int32) (l6 : Int32) (l8 : Int32) (B : Blk) : Option (Int32 × Blk) :=
  lt1 (l6 + (1 : Int32)) fun x28 =>
  k44 l1 l2 l6 l8 l5 x28 B
set_option maxRecDepth 100000 in
set_option maxHeartbeats 4000000 in
theorem wX6_bestPlace_88 {E : WE} {V : VT} {A : Nat → Prop} {H0 : Heap} {M : Mem} (Cx : CX E RX6 cX6_bestPlace 9 2 51) {r : Int32} {B' : Blk} (hret : RetI E V A H0 cX6_bestPlace .int r (jb M 12 B')) {k44 : Int32 → Int32 → Int32 → Int32 → Int32 → Int32 → Blk → Option (Int32 × Blk)} (hk44 : ∀ {H : Heap} {locs : List Loc} {ls : Array Slot} {B : Blk} {l1 : Int32} {l2 : Int32} {l3 : Int32} {l4 : Int32} {l5 : Int32} {l6 : Int32}, Wd V A H0 (jb M 12 B) (eS E) H locs → lv_has ls 9 [(0, .ref (vA V 12 0)), (1, .int l1), (2, .int l2), (3, .int l3), (4, .int l4), (5, .int l5), (6, .int l6)] → k44 l1 l2 l3 l4 l5 l6 B = some (r, B') → Wq E H locs 44 ls []) {H : Heap} {locs : List Loc} {ls : Array Slot} {l1 : Int32} {l2 : Int32} {l5 : Int32} {l6 : Int32} {l8 : Int32} {B : Blk} (hW : Wd V A H0 (jb M 12 B) (eS E) H locs) (hl : lv_has ls 9 [(0, .ref (vA V 12 0)), (1, .int l1), (2, .int l2), (5, .int l5), (6, .int l6), (8, .int l8)]) (hF : FX6_bestPlace_88 k44 l1 l2 l5 l6 l8 B = some (r, B')) : Wq E H locs 88 ls [] := by
  unfold FX6_bestPlace_88 at hF
  refine q_iload Cx dX6_bestPlace_88 (lv_at hl 4 rfl) ?_
  refine q_istore_n (lv' := [(3, .int l6), (0, .ref (vA V 12 0)), (1, .int l1), (2, .int l2), (5, .int l5), (6, .int l6), (8, .int l8)]) Cx dX6_bestPlace_90 rfl hl (by decide) rfl (fun ls hl => ?_)
  refine q_iload Cx dX6_bestPlace_91 (lv_at hl 6 rfl) ?_
  refine q_istore (lv' := [(4, .int l8), (3, .int l6), (0, .ref (vA V 12 0)), (1, .int l1), (2, .int l2), (5, .int l5), (6, .int l6), (8, .int l8)]) Cx dX6_bestPlace_93 hl (by decide) rfl (fun ls hl => ?_)
  obtain ⟨x28, e29, hF⟩ := lt1_some hF
  refine q_iinc (k := 6) (v := x28) (lv' := [(6, .int x28), (4, .int l8), (3, .int l6), (0, .ref (vA V 12 0)), (1, .int l1), (2, .int l2), (5, .int l5), (8, .int l8)]) Cx dX6_bestPlace_95 hl rfl e29.symm (by decide) rfl (fun ls hl => ?_)
  refine q_goto (tgt := 44) Cx dX6_bestPlace_98 (by decide) ?_
  exact hk44 hW (lv_sub hl [3, 4, 5, 2, 1, 6, 0] rfl) hF
def FX6_bestPlace_44s (k44 : Int32 → Int32 → Int32 → Int32 → Int32 → Int32 → Blk → Option (Int32 × Blk)) (l1 : Int32) (l2 : Int32) (l3 : Int32) (l4 : Int32) (l5 : Int32) (l6 : Int32) (B : Blk) : Option (Int32 × Blk) :=
  if l5 ≤ l6 then
    c1 (FX6_putAt B l1 l2) fun B15 =>
    some (l3, B15)
  else
    c1 (FX6_putAt B l1 l6) fun B18 =>
    c2 (FX6_reckon B18) fun r19 B21 =>
    c1 (FX6_lateTogether B21) fun r22 =>
    if r19 = 0 then
      lt1 (l6 + (1 : Int32)) fun x25 =>
      k44 l1 l2 l3 l4 l5 x25 B21
    else
      if l3 = (-6 : Int32) then
        FX6_bestPlace_88 k44 l1 l2 l5 l6 r22 B21
      else
        if l4 ≤ r22 then
          lt1 (l6 + (1 : Int32)) fun x31 =>
          k44 l1 l2 l3 l4 l5 x31 B21
        else
          FX6_bestPlace_88 k44 l1 l2 l5 l6 r22 B21
set_option maxRecDepth 100000 in
set_option maxHeartbeats 4000000 in
theorem wX6_bestPlace_44s {E : WE} {V : VT} {A : Nat → Prop} {H0 : Heap} {M : Mem} (Cx : CX E RX6 cX6_bestPlace 9 2 51) {r : Int32} {B' : Blk} (hret : RetI E V A H0 cX6_bestPlace .int r (jb M 12 B')) {k44 : Int32 → Int32 → Int32 → Int32 → Int32 → Int32 → Blk → Option (Int32 × Blk)} (hk44 : ∀ {H : Heap} {locs : List Loc} {ls : Array Slot} {B : Blk} {l1 : Int32} {l2 : Int32} {l3 : Int32} {l4 : Int32} {l5 : Int32} {l6 : Int32}, Wd V A H0 (jb M 12 B) (eS E) H locs → lv_has ls 9 [(0, .ref (vA V 12 0)), (1, .int l1), (2, .int l2), (3, .int l3), (4, .int l4), (5, .int l5), (6, .int l6)] → k44 l1 l2 l3 l4 l5 l6 B = some (r, B') → Wq E H locs 44 ls []) {H : Heap} {locs : List Loc} {ls : Array Slot} {l1 : Int32} {l2 : Int32} {l3 : Int32} {l4 : Int32} {l5 : Int32} {l6 : Int32} {B : Blk} (hW : Wd V A H0 (jb M 12 B) (eS E) H locs) (hl : lv_has ls 9 [(0, .ref (vA V 12 0)), (1, .int l1), (2, .int l2), (3, .int l3), (4, .int l4), (5, .int l5), (6, .int l6)]) (hF : FX6_bestPlace_44s k44 l1 l2 l3 l4 l5 l6 B = some (r, B')) : Wq E H locs 44 ls [] := by
  unfold FX6_bestPlace_44s at hF
  refine q_iload Cx dX6_bestPlace_44 (lv_at hl 6 rfl) ?_
  refine q_iload Cx dX6_bestPlace_46 (lv_at hl 5 rfl) ?_
  refine q_icmp_ge (tgt := 101) Cx dX6_bestPlace_48 (by decide) (fun c12 => ?_) (fun c12 => ?_)
  · have hF := (if_pos c12).symm.trans hF
    refine q_aload_n Cx dX6_bestPlace_101 rfl (lv_at hl 0 rfl) ?_
    refine q_iload_n Cx dX6_bestPlace_102 rfl (lv_at hl 1 rfl) ?_
    refine q_iload_n Cx dX6_bestPlace_103 rfl (lv_at hl 2 rfl) ?_
    obtain ⟨B15, e14, hF⟩ := c1_some hF
    refine q_callV (as := [.int l1, .int l2]) (rest := []) Cx (kX6_putAt e14) okX6_putAt ovX6_putAt wd_816 ⟨rfl, rfl, by decide, by decide⟩ hW oZ ic6 rfl hl.1 (Nat.le_of_ble_eq_true rfl) rfl dX6_bestPlace_104 (fun H locs hW => ?_)
    refine q_iload_n Cx dX6_bestPlace_107 rfl (lv_at hl 3 rfl) ?_
    obtain ⟨rfl, rfl⟩ := Prod.mk.inj (Option.some.inj hF)
    exact hret _ _ _ _ dX6_bestPlace_108 (nI32 _) hW
  · have hF := (if_neg c12).symm.trans hF
    refine q_aload_n Cx dX6_bestPlace_51 rfl (lv_at hl 0 rfl) ?_
    refine q_iload_n Cx dX6_bestPlace_52 rfl (lv_at hl 1 rfl) ?_
    refine q_iload Cx dX6_bestPlace_53 (lv_at hl 6 rfl) ?_
    obtain ⟨B18, e17, hF⟩ := c1_some hF
    refine q_callV (as := [.int l1, .int l6]) (rest := []) Cx (kX6_putAt e17) okX6_putAt ovX6_putAt wd_816 ⟨rfl, rfl, by decide, by decide⟩ hW oZ ic6 rfl hl.1 (Nat.le_of_ble_eq_true rfl) rfl dX6_bestPlace_55 (fun H locs hW => ?_)
    refine q_aload_n Cx dX6_bestPlace_58 rfl (lv_at hl 0 rfl) ?_
    obtain ⟨r19, B21, e20, hF⟩ := c2_some hF
    refine q_callI (as := []) (rest := []) Cx (kX6_reckon e20) okX6_reckon ovX6_reckon wd_820 ⟨rfl, rfl, by decide, by decide⟩ hW oZ ic6 rfl hl.1 (Nat.le_of_ble_eq_true rfl) rfl dX6_bestPlace_59 (fun H locs hW => ?_)
    refine q_istore (lv' := [(7, .int r19), (0, .ref (vA V 12 0)), (1, .int l1), (2, .int l2), (3, .int l3), (4, .int l4), (5, .int l5), (6, .int l6)]) Cx dX6_bestPlace_62 hl (by decide) rfl (fun ls hl => ?_)
    refine q_aload_n Cx dX6_bestPlace_64 rfl (lv_at hl 1 rfl) ?_
    obtain ⟨r22, e23, hF⟩ := c1_some hF
    refine q_callI (as := []) (rest := []) Cx (kX6_lateTogether e23) okX6_lateTogether ovX6_lateTogether wd_915 ⟨rfl, rfl, by decide, by decide⟩ hW oZ ic6 rfl hl.1 (Nat.le_of_ble_eq_true rfl) rfl dX6_bestPlace_65 (fun H locs hW => ?_)
    refine q_istore (lv' := [(8, .int r22), (7, .int r19), (0, .ref (vA V 12 0)), (1, .int l1), (2, .int l2), (3, .int l3), (4, .int l4), (5, .int l5), (6, .int l6)]) Cx dX6_bestPlace_68 hl (by decide) rfl (fun ls hl => ?_)
    refine q_iload Cx dX6_bestPlace_70 (lv_at hl 1 rfl) ?_
    refine q_if_eq (tgt := 95) Cx dX6_bestPlace_72 (by decide) (fun c24 => ?_) (fun c24 => ?_)
    · have hF := (if_pos c24).symm.trans hF
      obtain ⟨x25, e26, hF⟩ := lt1_some hF
      refine q_iinc (k := 8) (v := x25) (lv' := [(6, .int x25), (8, .int r22), (7, .int r19), (0, .ref (vA V 12 0)), (1, .int l1), (2, .int l2), (3, .int l3), (4, .int l4), (5, .int l5)]) Cx dX6_bestPlace_95 hl rfl e26.symm (by decide) rfl (fun ls hl => ?_)
      refine q_goto (tgt := 44) Cx dX6_bestPlace_98 (by decide) ?_
      exact hk44 hW (lv_sub hl [3, 4, 5, 6, 7, 8, 0] rfl) hF
    · have hF := (if_neg c24).symm.trans hF
      refine q_iload_n Cx dX6_bestPlace_75 rfl (lv_at hl 5 rfl) ?_
      refine q_bipush (v := (-6 : Int32)) Cx dX6_bestPlace_76 (by decide) ?_
      refine q_icmp_eq (tgt := 88) Cx dX6_bestPlace_78 (by decide) (fun c27 => ?_) (fun c27 => ?_)
      · have hF := (if_pos c27).symm.trans hF
        exact wX6_bestPlace_88 Cx hret hk44 hW (lv_sub hl [2, 3, 4, 7, 8, 0] rfl) hF
      · have hF := (if_neg c27).symm.trans hF
        refine q_iload Cx dX6_bestPlace_81 (lv_at hl 0 rfl) ?_
        refine q_iload Cx dX6_bestPlace_83 (lv_at hl 6 rfl) ?_
        refine q_icmp_ge (tgt := 95) Cx dX6_bestPlace_85 (by decide) (fun c30 => ?_) (fun c30 => ?_)
        · have hF := (if_pos c30).symm.trans hF
          obtain ⟨x31, e32, hF⟩ := lt1_some hF
          refine q_iinc (k := 8) (v := x31) (lv' := [(6, .int x31), (8, .int r22), (7, .int r19), (0, .ref (vA V 12 0)), (1, .int l1), (2, .int l2), (3, .int l3), (4, .int l4), (5, .int l5)]) Cx dX6_bestPlace_95 hl rfl e32.symm (by decide) rfl (fun ls hl => ?_)
          refine q_goto (tgt := 44) Cx dX6_bestPlace_98 (by decide) ?_
          exact hk44 hW (lv_sub hl [3, 4, 5, 6, 7, 8, 0] rfl) hF
        · have hF := (if_neg c30).symm.trans hF
          exact wX6_bestPlace_88 Cx hret hk44 hW (lv_sub hl [2, 3, 4, 7, 8, 0] rfl) hF
def FX6_bestPlace_44 : Nat → Int32 → Int32 → Int32 → Int32 → Int32 → Int32 → Blk → Option (Int32 × Blk)
  | 0 => fun _ _ _ _ _ _ _ => none
  | n + 1 => FX6_bestPlace_44s (FX6_bestPlace_44 n)
set_option maxRecDepth 100000 in
theorem wX6_bestPlace_44 {E : WE} {V : VT} {A : Nat → Prop} {H0 : Heap} {M : Mem} (Cx : CX E RX6 cX6_bestPlace 9 2 51) {r : Int32} {B' : Blk} (hret : RetI E V A H0 cX6_bestPlace .int r (jb M 12 B')) : ∀ (n : Nat) {H : Heap} {locs : List Loc} {ls : Array Slot} {l1 : Int32} {l2 : Int32} {l3 : Int32} {l4 : Int32} {l5 : Int32} {l6 : Int32} {B : Blk}, Wd V A H0 (jb M 12 B) (eS E) H locs → lv_has ls 9 [(0, .ref (vA V 12 0)), (1, .int l1), (2, .int l2), (3, .int l3), (4, .int l4), (5, .int l5), (6, .int l6)] → FX6_bestPlace_44 n l1 l2 l3 l4 l5 l6 B = some (r, B') → Wq E H locs 44 ls [] := by
  intro n
  induction n with
  | zero => intro _ _ _ _ _ _ _ _ _ _ hW hl hF; cases hF
  | succ n ih => intro _ _ _ _ _ _ _ _ _ _ hW hl hF; exact wX6_bestPlace_44s Cx hret ih hW hl hF
def FX6_bestPlace (B : Blk) (l1 : Int32) : Option (Int32 × Blk) :=
  c1 (FX6_isTask B l1) fun r1 =>
  if r1 = 0 then
    some ((-1 : Int32), B)
  else
    ld (B 1) 356 ((172 : Int32) + l1) fun v4 =>
    ld (B 1) 356 ((4 : Int32) + l1) fun v7 =>
    c1 (FX6_manyOn B v7) fun r10 =>
    FX6_bestPlace_44 fu l1 v4 (-6 : Int32) (0 : Int32) r10 (0 : Int32) B
set_option maxRecDepth 100000 in
set_option maxHeartbeats 4000000 in
theorem wX6_bestPlace {E : WE} {V : VT} {A : Nat → Prop} {H0 : Heap} {M : Mem} (Cx : CX E RX6 cX6_bestPlace 9 2 51) {r : Int32} {B' : Blk} (hret : RetI E V A H0 cX6_bestPlace .int r (jb M 12 B')) {H : Heap} {locs : List Loc} {ls : Array Slot} {l1 : Int32} {B : Blk} (hW : Wd V A H0 (jb M 12 B) (eS E) H locs) (hl : lv_has ls 9 [(0, .ref (vA V 12 0)), (1, .int l1)]) (hF : FX6_bestPlace B l1 = some (r, B')) : Wq E H locs 0 ls [] := by
  unfold FX6_bestPlace at hF
  refine q_aload_n Cx dX6_bestPlace_0 rfl (lv_at hl 0 rfl) ?_
  refine q_iload_n Cx dX6_bestPlace_1 rfl (lv_at hl 1 rfl) ?_
  obtain ⟨r1, e2, hF⟩ := c1_some hF
  refine q_callI (as := [.int l1]) (rest := []) Cx (kX6_isTask e2) okX6_isTask ovX6_isTask wd_799 ⟨rfl, rfl, by decide, by decide⟩ hW oZ ic6 rfl hl.1 (Nat.le_of_ble_eq_true rfl) rfl dX6_bestPlace_2 (fun H locs hW => ?_)
  refine q_if_ne (tgt := 10) Cx dX6_bestPlace_5 (by decide) (fun c3 => ?_) (fun c3 => ?_)
  · have hF := (if_neg c3).symm.trans hF
    refine q_aload_n Cx dX6_bestPlace_10 rfl (lv_at hl 0 rfl) ?_
    refine q_get (v := .ref (vA V 12 1)) Cx hW oZ ic6 0 (by decide) rfl wd_714 dX6_bestPlace_11 ?_
    refine q_sipush (v := (172 : Int32)) Cx dX6_bestPlace_14 (by decide) ?_
    refine q_iload_n Cx dX6_bestPlace_17 rfl (lv_at hl 1 rfl) ?_
    refine q_iadd Cx dX6_bestPlace_18 ?_
    obtain ⟨h5, v4, e6, hF⟩ := ld_some hF
    refine qb_iald Cx hW az_1 h5 e6 dX6_bestPlace_19 ?_
    refine q_istore_n (lv' := [(2, .int v4), (0, .ref (vA V 12 0)), (1, .int l1)]) Cx dX6_bestPlace_20 rfl hl (by decide) rfl (fun ls hl => ?_)
    refine q_bipush (v := (-6 : Int32)) Cx dX6_bestPlace_21 (by decide) ?_
    refine q_istore_n (lv' := [(3, .int (-6 : Int32)), (2, .int v4), (0, .ref (vA V 12 0)), (1, .int l1)]) Cx dX6_bestPlace_23 rfl hl (by decide) rfl (fun ls hl => ?_)
    refine q_iconst (v := (0 : Int32)) Cx dX6_bestPlace_24 (by decide) ?_
    refine q_istore (lv' := [(4, .int (0 : Int32)), (3, .int (-6 : Int32)), (2, .int v4), (0, .ref (vA V 12 0)), (1, .int l1)]) Cx dX6_bestPlace_25 hl (by decide) rfl (fun ls hl => ?_)
    refine q_aload_n Cx dX6_bestPlace_27 rfl (lv_at hl 3 rfl) ?_
    refine q_aload_n Cx dX6_bestPlace_28 rfl (lv_at hl 3 rfl) ?_
    refine q_get (v := .ref (vA V 12 1)) Cx hW oZ ic6 0 (by decide) rfl wd_714 dX6_bestPlace_29 ?_
    refine q_iconst (v := (4 : Int32)) Cx dX6_bestPlace_32 (by decide) ?_
    refine q_iload_n Cx dX6_bestPlace_33 rfl (lv_at hl 4 rfl) ?_
    refine q_iadd Cx dX6_bestPlace_34 ?_
    obtain ⟨h8, v7, e9, hF⟩ := ld_some hF
    refine qb_iald Cx hW az_1 h8 e9 dX6_bestPlace_35 ?_
    obtain ⟨r10, e11, hF⟩ := c1_some hF
    refine q_callI (as := [.int v7]) (rest := []) Cx (kX6_manyOn e11) okX6_manyOn ovX6_manyOn wd_804 ⟨rfl, rfl, by decide, by decide⟩ hW oZ ic6 rfl hl.1 (Nat.le_of_ble_eq_true rfl) rfl dX6_bestPlace_36 (fun H locs hW => ?_)
    refine q_istore (lv' := [(5, .int r10), (4, .int (0 : Int32)), (3, .int (-6 : Int32)), (2, .int v4), (0, .ref (vA V 12 0)), (1, .int l1)]) Cx dX6_bestPlace_39 hl (by decide) rfl (fun ls hl => ?_)
    refine q_iconst (v := (0 : Int32)) Cx dX6_bestPlace_41 (by decide) ?_
    refine q_istore (lv' := [(6, .int (0 : Int32)), (5, .int r10), (4, .int (0 : Int32)), (3, .int (-6 : Int32)), (2, .int v4), (0, .ref (vA V 12 0)), (1, .int l1)]) Cx dX6_bestPlace_42 hl (by decide) rfl (fun ls hl => ?_)
    exact wX6_bestPlace_44 Cx hret fu hW (lv_sub hl [5, 6, 4, 3, 2, 1, 0] rfl) hF
  · have hF := (if_pos c3).symm.trans hF
    refine q_iconst (v := (-1 : Int32)) Cx dX6_bestPlace_8 (by decide) ?_
    obtain ⟨rfl, rfl⟩ := Prod.mk.inj (Option.some.inj hF)
    exact hret _ _ _ _ dX6_bestPlace_9 (nI32 _) hW
set_option maxRecDepth 100000 in
theorem kX6_bestPlace {l : Launch} {V : VT} {M : Mem} {B : Blk} {l1 : Int32} {r : Int32} {B' : Blk} (hF : FX6_bestPlace B l1 = some (r, B')) : MetI l V yX6_bestPlace cX6_bestPlace 9 .int ({ frames := 2, cells := 0, slots := 0, locals := 51 } : Room) [.ref (vA V 12 0), .int l1] r (jb M 12 B) (jb M 12 B') := metI_of (by decide) (Nat.le_of_ble_eq_true rfl) (fun E H0 _ Cx hret H locs ls hW hl => wX6_bestPlace Cx hret hW hl hF)
theorem dX6_critical_0 : decode cX6_critical 0 = .ok (.aload_n 0, 1) := by decide +kernel
theorem dX6_critical_1 : decode cX6_critical 1 = .ok (.invokevirtual 77, 3) := by decide +kernel
theorem dX6_critical_4 : decode cX6_critical 4 = .ok (.pop, 1) := by decide +kernel
theorem dX6_critical_5 : decode cX6_critical 5 = .ok (.iconst 0, 1) := by decide +kernel
theorem dX6_critical_6 : decode cX6_critical 6 = .ok (.istore_n 1, 1) := by decide +kernel
theorem dX6_critical_7 : decode cX6_critical 7 = .ok (.iconst 0, 1) := by decide +kernel
theorem dX6_critical_8 : decode cX6_critical 8 = .ok (.istore_n 2, 1) := by decide +kernel
theorem dX6_critical_9 : decode cX6_critical 9 = .ok (.iload_n 2, 1) := by decide +kernel
theorem dX6_critical_10 : decode cX6_critical 10 = .ok (.aload_n 0, 1) := by decide +kernel
theorem dX6_critical_11 : decode cX6_critical 11 = .ok (.getfield 7, 3) := by decide +kernel
theorem dX6_critical_14 : decode cX6_critical 14 = .ok (.iconst 0, 1) := by decide +kernel
theorem dX6_critical_15 : decode cX6_critical 15 = .ok (.iaload, 1) := by decide +kernel
theorem dX6_critical_16 : decode cX6_critical 16 = .ok (.if_icmp .ge 32, 3) := by decide +kernel
theorem dX6_critical_19 : decode cX6_critical 19 = .ok (.iload_n 1, 1) := by decide +kernel
theorem dX6_critical_20 : decode cX6_critical 20 = .ok (.aload_n 0, 1) := by decide +kernel
theorem dX6_critical_21 : decode cX6_critical 21 = .ok (.getfield 33, 3) := by decide +kernel
theorem dX6_critical_24 : decode cX6_critical 24 = .ok (.iload_n 2, 1) := by decide +kernel
theorem dX6_critical_25 : decode cX6_critical 25 = .ok (.iaload, 1) := by decide +kernel
theorem dX6_critical_26 : decode cX6_critical 26 = .ok (.aload_n 0, 1) := by decide +kernel
theorem dX6_critical_27 : decode cX6_critical 27 = .ok (.invokevirtual 156, 3) := by decide +kernel
theorem dX6_critical_30 : decode cX6_critical 30 = .ok (.if_icmp .ne 9, 3) := by decide +kernel
theorem dX6_critical_33 : decode cX6_critical 33 = .ok (.iconst 1, 1) := by decide +kernel
theorem dX6_critical_34 : decode cX6_critical 34 = .ok (.iload_n 2, 1) := by decide +kernel
theorem dX6_critical_35 : decode cX6_critical 35 = .ok (.ishl, 1) := by decide +kernel
theorem dX6_critical_36 : decode cX6_critical 36 = .ok (.goto 4, 3) := by decide +kernel
theorem dX6_critical_39 : decode cX6_critical 39 = .ok (.iconst 0, 1) := by decide +kernel
theorem dX6_critical_40 : decode cX6_critical 40 = .ok (.ior, 1) := by decide +kernel
theorem dX6_critical_41 : decode cX6_critical 41 = .ok (.istore_n 1, 1) := by decide +kernel
theorem dX6_critical_42 : decode cX6_critical 42 = .ok (.iinc 2 1, 3) := by decide +kernel
theorem dX6_critical_45 : decode cX6_critical 45 = .ok (.goto (-36), 3) := by decide +kernel
theorem dX6_critical_48 : decode cX6_critical 48 = .ok (.iconst 0, 1) := by decide +kernel
theorem dX6_critical_49 : decode cX6_critical 49 = .ok (.istore_n 2, 1) := by decide +kernel
theorem dX6_critical_50 : decode cX6_critical 50 = .ok (.iload_n 2, 1) := by decide +kernel
theorem dX6_critical_51 : decode cX6_critical 51 = .ok (.aload_n 0, 1) := by decide +kernel
theorem dX6_critical_52 : decode cX6_critical 52 = .ok (.getfield 7, 3) := by decide +kernel
theorem dX6_critical_55 : decode cX6_critical 55 = .ok (.iconst 0, 1) := by decide +kernel
theorem dX6_critical_56 : decode cX6_critical 56 = .ok (.iaload, 1) := by decide +kernel
theorem dX6_critical_57 : decode cX6_critical 57 = .ok (.if_icmp .ge 109, 3) := by decide +kernel
theorem dX6_critical_60 : decode cX6_critical 60 = .ok (.iconst 0, 1) := by decide +kernel
theorem dX6_critical_61 : decode cX6_critical 61 = .ok (.istore_n 3, 1) := by decide +kernel
theorem dX6_critical_62 : decode cX6_critical 62 = .ok (.iload_n 3, 1) := by decide +kernel
theorem dX6_critical_63 : decode cX6_critical 63 = .ok (.aload_n 0, 1) := by decide +kernel
theorem dX6_critical_64 : decode cX6_critical 64 = .ok (.getfield 7, 3) := by decide +kernel
theorem dX6_critical_67 : decode cX6_critical 67 = .ok (.iconst 0, 1) := by decide +kernel
theorem dX6_critical_68 : decode cX6_critical 68 = .ok (.iaload, 1) := by decide +kernel
theorem dX6_critical_69 : decode cX6_critical 69 = .ok (.if_icmp .ge 91, 3) := by decide +kernel
theorem dX6_critical_72 : decode cX6_critical 72 = .ok (.iconst 0, 1) := by decide +kernel
theorem dX6_critical_73 : decode cX6_critical 73 = .ok (.istore 4, 2) := by decide +kernel
theorem dX6_critical_75 : decode cX6_critical 75 = .ok (.iload 4, 2) := by decide +kernel
theorem dX6_critical_77 : decode cX6_critical 77 = .ok (.aload_n 0, 1) := by decide +kernel
theorem dX6_critical_78 : decode cX6_critical 78 = .ok (.getfield 7, 3) := by decide +kernel
theorem dX6_critical_81 : decode cX6_critical 81 = .ok (.iconst 0, 1) := by decide +kernel
theorem dX6_critical_82 : decode cX6_critical 82 = .ok (.iaload, 1) := by decide +kernel
theorem dX6_critical_83 : decode cX6_critical 83 = .ok (.if_icmp .ge 71, 3) := by decide +kernel
theorem dX6_critical_86 : decode cX6_critical 86 = .ok (.iload_n 1, 1) := by decide +kernel
theorem dX6_critical_87 : decode cX6_critical 87 = .ok (.iload_n 3, 1) := by decide +kernel
theorem dX6_critical_88 : decode cX6_critical 88 = .ok (.ishr, 1) := by decide +kernel
theorem dX6_critical_89 : decode cX6_critical 89 = .ok (.iconst 1, 1) := by decide +kernel
theorem dX6_critical_90 : decode cX6_critical 90 = .ok (.iand, 1) := by decide +kernel
theorem dX6_critical_91 : decode cX6_critical 91 = .ok (.iconst 1, 1) := by decide +kernel
theorem dX6_critical_92 : decode cX6_critical 92 = .ok (.if_icmp .ne 62, 3) := by decide +kernel
theorem dX6_critical_95 : decode cX6_critical 95 = .ok (.aload_n 0, 1) := by decide +kernel
theorem dX6_critical_96 : decode cX6_critical 96 = .ok (.iload 4, 2) := by decide +kernel
theorem dX6_critical_98 : decode cX6_critical 98 = .ok (.invokevirtual 145, 3) := by decide +kernel
theorem dX6_critical_101 : decode cX6_critical 101 = .ok (.iload_n 3, 1) := by decide +kernel
theorem dX6_critical_102 : decode cX6_critical 102 = .ok (.ishr, 1) := by decide +kernel
theorem dX6_critical_103 : decode cX6_critical 103 = .ok (.iconst 1, 1) := by decide +kernel
theorem dX6_critical_104 : decode cX6_critical 104 = .ok (.iand, 1) := by decide +kernel
theorem dX6_critical_105 : decode cX6_critical 105 = .ok (.iconst 1, 1) := by decide +kernel
theorem dX6_critical_106 : decode cX6_critical 106 = .ok (.if_icmp .ne 23, 3) := by decide +kernel
theorem dX6_critical_109 : decode cX6_critical 109 = .ok (.aload_n 0, 1) := by decide +kernel
theorem dX6_critical_110 : decode cX6_critical 110 = .ok (.getfield 33, 3) := by decide +kernel
theorem dX6_critical_113 : decode cX6_critical 113 = .ok (.iload 4, 2) := by decide +kernel
theorem dX6_critical_115 : decode cX6_critical 115 = .ok (.iaload, 1) := by decide +kernel
theorem dX6_critical_116 : decode cX6_critical 116 = .ok (.aload_n 0, 1) := by decide +kernel
theorem dX6_critical_117 : decode cX6_critical 117 = .ok (.getfield 30, 3) := by decide +kernel
theorem dX6_critical_120 : decode cX6_critical 120 = .ok (.iload_n 3, 1) := by decide +kernel
theorem dX6_critical_121 : decode cX6_critical 121 = .ok (.iaload, 1) := by decide +kernel
theorem dX6_critical_122 : decode cX6_critical 122 = .ok (.if_icmp .ne 7, 3) := by decide +kernel
theorem dX6_critical_125 : decode cX6_critical 125 = .ok (.iconst 1, 1) := by decide +kernel
theorem dX6_critical_126 : decode cX6_critical 126 = .ok (.goto 4, 3) := by decide +kernel
theorem dX6_critical_129 : decode cX6_critical 129 = .ok (.iconst 0, 1) := by decide +kernel
theorem dX6_critical_130 : decode cX6_critical 130 = .ok (.istore 5, 2) := by decide +kernel
theorem dX6_critical_132 : decode cX6_critical 132 = .ok (.iload_n 1, 1) := by decide +kernel
theorem dX6_critical_133 : decode cX6_critical 133 = .ok (.iload 5, 2) := by decide +kernel
theorem dX6_critical_135 : decode cX6_critical 135 = .ok (.ifCond .eq 10, 3) := by decide +kernel
theorem dX6_critical_138 : decode cX6_critical 138 = .ok (.iconst 1, 1) := by decide +kernel
theorem dX6_critical_139 : decode cX6_critical 139 = .ok (.iload 4, 2) := by decide +kernel
theorem dX6_critical_141 : decode cX6_critical 141 = .ok (.ishl, 1) := by decide +kernel
theorem dX6_critical_142 : decode cX6_critical 142 = .ok (.goto 4, 3) := by decide +kernel
theorem dX6_critical_145 : decode cX6_critical 145 = .ok (.iconst 0, 1) := by decide +kernel
theorem dX6_critical_146 : decode cX6_critical 146 = .ok (.ior, 1) := by decide +kernel
theorem dX6_critical_147 : decode cX6_critical 147 = .ok (.istore_n 1, 1) := by decide +kernel
theorem dX6_critical_148 : decode cX6_critical 148 = .ok (.iinc 4 1, 3) := by decide +kernel
theorem dX6_critical_151 : decode cX6_critical 151 = .ok (.goto (-76), 3) := by decide +kernel
theorem dX6_critical_154 : decode cX6_critical 154 = .ok (.iinc 3 1, 3) := by decide +kernel
theorem dX6_critical_157 : decode cX6_critical 157 = .ok (.goto (-95), 3) := by decide +kernel
theorem dX6_critical_160 : decode cX6_critical 160 = .ok (.iinc 2 1, 3) := by decide +kernel
theorem dX6_critical_163 : decode cX6_critical 163 = .ok (.goto (-113), 3) := by decide +kernel
theorem dX6_critical_166 : decode cX6_critical 166 = .ok (.iload_n 1, 1) := by decide +kernel
theorem dX6_critical_167 : decode cX6_critical 167 = .ok (.ireturn, 1) := by decide +kernel
theorem okX6_critical : CalOK yX6_critical cX6_critical 6 (some .int) 0 := ⟨wd_73, wd_992, by decide +kernel⟩
theorem ovX6_critical : VirOK yX6_critical := ⟨wd_990, wd_991⟩
def FX6_critical_146 (k50 : Int32 → Int32 → Blk → Option (Int32 × Blk)) (k62 : Int32 → Int32 → Int32 → Blk → Option (Int32 × Blk)) (k75 : Int32 → Int32 → Int32 → Int32 → Blk → Option (Int32 × Blk)) (l2 : Int32) (l3 : Int32) (l4 : Int32) (s0 : Int32) (s1 : Int32) (B : Blk) : Option (Int32 × Blk) :=
  lt1 (s1 ||| s0) fun x31 =>
  lt1 (l4 + (1 : Int32)) fun x33 =>
  k75 x31 l2 l3 x33 B
set_option maxRecDepth 100000 in
set_option maxHeartbeats 4000000 in
theorem wX6_critical_146 {E : WE} {V : VT} {A : Nat → Prop} {H0 : Heap} {M : Mem} (Cx : CX E RX6 cX6_critical 6 2 51) {r : Int32} {B' : Blk} (hret : RetI E V A H0 cX6_critical .int r (jb M 12 B')) {k50 : Int32 → Int32 → Blk → Option (Int32 × Blk)} (hk50 : ∀ {H : Heap} {locs : List Loc} {ls : Array Slot} {B : Blk} {l1 : Int32} {l2 : Int32}, Wd V A H0 (jb M 12 B) (eS E) H locs → lv_has ls 6 [(0, .ref (vA V 12 0)), (1, .int l1), (2, .int l2)] → k50 l1 l2 B = some (r, B') → Wq E H locs 50 ls []) {k62 : Int32 → Int32 → Int32 → Blk → Option (Int32 × Blk)} (hk62 : ∀ {H : Heap} {locs : List Loc} {ls : Array Slot} {B : Blk} {l1 : Int32} {l2 : Int32} {l3 : Int32}, Wd V A H0 (jb M 12 B) (eS E) H locs → lv_has ls 6 [(0, .ref (vA V 12 0)), (1, .int l1), (2, .int l2), (3, .int l3)] → k62 l1 l2 l3 B = some (r, B') → Wq E H locs 62 ls []) {k75 : Int32 → Int32 → Int32 → Int32 → Blk → Option (Int32 × Blk)} (hk75 : ∀ {H : Heap} {locs : List Loc} {ls : Array Slot} {B : Blk} {l1 : Int32} {l2 : Int32} {l3 : Int32} {l4 : Int32}, Wd V A H0 (jb M 12 B) (eS E) H locs → lv_has ls 6 [(0, .ref (vA V 12 0)), (1, .int l1), (2, .int l2), (3, .int l3), (4, .int l4)] → k75 l1 l2 l3 l4 B = some (r, B') → Wq E H locs 75 ls []) {H : Heap} {locs : List Loc} {ls : Array Slot} {l2 : Int32} {l3 : Int32} {l4 : Int32} {s0 : Int32} {s1 : Int32} {B : Blk} (hW : Wd V A H0 (jb M 12 B) (eS E) H locs) (hl : lv_has ls 6 [(0, .ref (vA V 12 0)), (2, .int l2), (3, .int l3), (4, .int l4)]) (hF : FX6_critical_146 k50 k62 k75 l2 l3 l4 s0 s1 B = some (r, B')) : Wq E H locs 146 ls [.int s0, .int s1] := by
  unfold FX6_critical_146 at hF
  refine q_ior Cx dX6_critical_146 ?_
  obtain ⟨x31, e32, hF⟩ := lt1_some hF
  refine q_topi e32 ?_
  refine q_istore_n (lv' := [(1, .int x31), (0, .ref (vA V 12 0)), (2, .int l2), (3, .int l3), (4, .int l4)]) Cx dX6_critical_147 rfl hl (by decide) rfl (fun ls hl => ?_)
  obtain ⟨x33, e34, hF⟩ := lt1_some hF
  refine q_iinc (k := 4) (v := x33) (lv' := [(4, .int x33), (1, .int x31), (0, .ref (vA V 12 0)), (2, .int l2), (3, .int l3)]) Cx dX6_critical_148 hl rfl e34.symm (by decide) rfl (fun ls hl => ?_)
  refine q_goto (tgt := 75) Cx dX6_critical_151 (by decide) ?_
  exact hk75 hW (lv_sub hl [2, 1, 3, 4, 0] rfl) hF
def FX6_critical_130 (k50 : Int32 → Int32 → Blk → Option (Int32 × Blk)) (k62 : Int32 → Int32 → Int32 → Blk → Option (Int32 × Blk)) (k75 : Int32 → Int32 → Int32 → Int32 → Blk → Option (Int32 × Blk)) (l1 : Int32) (l2 : Int32) (l3 : Int32) (l4 : Int32) (s0 : Int32) (B : Blk) : Option (Int32 × Blk) :=
  if s0 = 0 then
    FX6_critical_146 k50 k62 k75 l2 l3 l4 (0 : Int32) l1 B
  else
    FX6_critical_146 k50 k62 k75 l2 l3 l4 ((1 : Int32) <<< (l4 &&& 31)) l1 B
set_option maxRecDepth 100000 in
set_option maxHeartbeats 4000000 in
theorem wX6_critical_130 {E : WE} {V : VT} {A : Nat → Prop} {H0 : Heap} {M : Mem} (Cx : CX E RX6 cX6_critical 6 2 51) {r : Int32} {B' : Blk} (hret : RetI E V A H0 cX6_critical .int r (jb M 12 B')) {k50 : Int32 → Int32 → Blk → Option (Int32 × Blk)} (hk50 : ∀ {H : Heap} {locs : List Loc} {ls : Array Slot} {B : Blk} {l1 : Int32} {l2 : Int32}, Wd V A H0 (jb M 12 B) (eS E) H locs → lv_has ls 6 [(0, .ref (vA V 12 0)), (1, .int l1), (2, .int l2)] → k50 l1 l2 B = some (r, B') → Wq E H locs 50 ls []) {k62 : Int32 → Int32 → Int32 → Blk → Option (Int32 × Blk)} (hk62 : ∀ {H : Heap} {locs : List Loc} {ls : Array Slot} {B : Blk} {l1 : Int32} {l2 : Int32} {l3 : Int32}, Wd V A H0 (jb M 12 B) (eS E) H locs → lv_has ls 6 [(0, .ref (vA V 12 0)), (1, .int l1), (2, .int l2), (3, .int l3)] → k62 l1 l2 l3 B = some (r, B') → Wq E H locs 62 ls []) {k75 : Int32 → Int32 → Int32 → Int32 → Blk → Option (Int32 × Blk)} (hk75 : ∀ {H : Heap} {locs : List Loc} {ls : Array Slot} {B : Blk} {l1 : Int32} {l2 : Int32} {l3 : Int32} {l4 : Int32}, Wd V A H0 (jb M 12 B) (eS E) H locs → lv_has ls 6 [(0, .ref (vA V 12 0)), (1, .int l1), (2, .int l2), (3, .int l3), (4, .int l4)] → k75 l1 l2 l3 l4 B = some (r, B') → Wq E H locs 75 ls []) {H : Heap} {locs : List Loc} {ls : Array Slot} {l1 : Int32} {l2 : Int32} {l3 : Int32} {l4 : Int32} {s0 : Int32} {B : Blk} (hW : Wd V A H0 (jb M 12 B) (eS E) H locs) (hl : lv_has ls 6 [(0, .ref (vA V 12 0)), (1, .int l1), (2, .int l2), (3, .int l3), (4, .int l4)]) (hF : FX6_critical_130 k50 k62 k75 l1 l2 l3 l4 s0 B = some (r, B')) : Wq E H locs 130 ls [.int s0] := by
  unfold FX6_critical_130 at hF
  refine q_istore (lv' := [(5, .int s0), (0, .ref (vA V 12 0)), (1, .int l1), (2, .int l2), (3, .int l3), (4, .int l4)]) Cx dX6_critical_130 hl (by decide) rfl (fun ls hl => ?_)
  refine q_iload_n Cx dX6_critical_132 rfl (lv_at hl 2 rfl) ?_
  refine q_iload Cx dX6_critical_133 (lv_at hl 0 rfl) ?_
  refine q_if_eq (tgt := 145) Cx dX6_critical_135 (by decide) (fun c30 => ?_) (fun c30 => ?_)
  · have hF := (if_pos c30).symm.trans hF
    refine q_iconst (v := (0 : Int32)) Cx dX6_critical_145 (by decide) ?_
    exact wX6_critical_146 Cx hret hk50 hk62 hk75 hW (lv_sub hl [1, 3, 4, 5] rfl) hF
  · have hF := (if_neg c30).symm.trans hF
    refine q_iconst (v := (1 : Int32)) Cx dX6_critical_138 (by decide) ?_
    refine q_iload Cx dX6_critical_139 (lv_at hl 5 rfl) ?_
    refine q_ishl Cx dX6_critical_141 ?_
    refine q_goto (tgt := 146) Cx dX6_critical_142 (by decide) ?_
    exact wX6_critical_146 Cx hret hk50 hk62 hk75 hW (lv_sub hl [1, 3, 4, 5] rfl) hF
def FX6_critical_129 (k50 : Int32 → Int32 → Blk → Option (Int32 × Blk)) (k62 : Int32 → Int32 → Int32 → Blk → Option (Int32 × Blk)) (k75 : Int32 → Int32 → Int32 → Int32 → Blk → Option (Int32 × Blk)) (l1 : Int32) (l2 : Int32) (l3 : Int32) (l4 : Int32) (B : Blk) : Option (Int32 × Blk) :=
  FX6_critical_130 k50 k62 k75 l1 l2 l3 l4 (0 : Int32) B
set_option maxRecDepth 100000 in
set_option maxHeartbeats 4000000 in
theorem wX6_critical_129 {E : WE} {V : VT} {A : Nat → Prop} {H0 : Heap} {M : Mem} (Cx : CX E RX6 cX6_critical 6 2 51) {r : Int32} {B' : Blk} (hret : RetI E V A H0 cX6_critical .int r (jb M 12 B')) {k50 : Int32 → Int32 → Blk → Option (Int32 × Blk)} (hk50 : ∀ {H : Heap} {locs : List Loc} {ls : Array Slot} {B : Blk} {l1 : Int32} {l2 : Int32}, Wd V A H0 (jb M 12 B) (eS E) H locs → lv_has ls 6 [(0, .ref (vA V 12 0)), (1, .int l1), (2, .int l2)] → k50 l1 l2 B = some (r, B') → Wq E H locs 50 ls []) {k62 : Int32 → Int32 → Int32 → Blk → Option (Int32 × Blk)} (hk62 : ∀ {H : Heap} {locs : List Loc} {ls : Array Slot} {B : Blk} {l1 : Int32} {l2 : Int32} {l3 : Int32}, Wd V A H0 (jb M 12 B) (eS E) H locs → lv_has ls 6 [(0, .ref (vA V 12 0)), (1, .int l1), (2, .int l2), (3, .int l3)] → k62 l1 l2 l3 B = some (r, B') → Wq E H locs 62 ls []) {k75 : Int32 → Int32 → Int32 → Int32 → Blk → Option (Int32 × Blk)} (hk75 : ∀ {H : Heap} {locs : List Loc} {ls : Array Slot} {B : Blk} {l1 : Int32} {l2 : Int32} {l3 : Int32} {l4 : Int32}, Wd V A H0 (jb M 12 B) (eS E) H locs → lv_has ls 6 [(0, .ref (vA V 12 0)), (1, .int l1), (2, .int l2), (3, .int l3), (4, .int l4)] → k75 l1 l2 l3 l4 B = some (r, B') → Wq E H locs 75 ls []) {H : Heap} {locs : List Loc} {ls : Array Slot} {l1 : Int32} {l2 : Int32} {l3 : Int32} {l4 : Int32} {B : Blk} (hW : Wd V A H0 (jb M 12 B) (eS E) H locs) (hl : lv_has ls 6 [(0, .ref (vA V 12 0)), (1, .int l1), (2, .int l2), (3, .int l3), (4, .int l4)]) (hF : FX6_critical_129 k50 k62 k75 l1 l2 l3 l4 B = some (r, B')) : Wq E H locs 129 ls [] := by
  unfold FX6_critical_129 at hF
  refine q_iconst (v := (0 : Int32)) Cx dX6_critical_129 (by decide) ?_
  exact wX6_critical_130 Cx hret hk50 hk62 hk75 hW (lv_sub hl [0, 1, 2, 3, 4] rfl) hF
def FX6_critical_75s (k50 : Int32 → Int32 → Blk → Option (Int32 × Blk)) (k62 : Int32 → Int32 → Int32 → Blk → Option (Int32 × Blk)) (k75 : Int32 → Int32 → Int32 → Int32 → Blk → Option (Int32 × Blk)) (l1 : Int32) (l2 : Int32) (l3 : Int32) (l4 : Int32) (B : Blk) : Option (Int32 × Blk) :=
  ld (B 1) 356 (0 : Int32) fun v18 =>
  if v18 ≤ l4 then
    lt1 (l3 + (1 : Int32)) fun x22 =>
    k62 l1 l2 x22 B
  else
    if ((l1 >>> (l3 &&& 31)) &&& (1 : Int32)) = (1 : Int32) then
      c1 (FX6_behind B l4) fun r27 =>
      if ((r27 >>> (l3 &&& 31)) &&& (1 : Int32)) = (1 : Int32) then
        ld (B 8) 24 l4 fun v35 =>
        ld (B 7) 24 l3 fun v38 =>
        if v35 = v38 then
          FX6_critical_130 k50 k62 k75 l1 l2 l3 l4 (1 : Int32) B
        else
          FX6_critical_129 k50 k62 k75 l1 l2 l3 l4 B
      else
        FX6_critical_129 k50 k62 k75 l1 l2 l3 l4 B
    else
      lt1 (l3 + (1 : Int32)) fun x25 =>
      k62 l1 l2 x25 B
set_option maxRecDepth 100000 in
set_option maxHeartbeats 4000000 in
theorem wX6_critical_75s {E : WE} {V : VT} {A : Nat → Prop} {H0 : Heap} {M : Mem} (Cx : CX E RX6 cX6_critical 6 2 51) {r : Int32} {B' : Blk} (hret : RetI E V A H0 cX6_critical .int r (jb M 12 B')) {k50 : Int32 → Int32 → Blk → Option (Int32 × Blk)} (hk50 : ∀ {H : Heap} {locs : List Loc} {ls : Array Slot} {B : Blk} {l1 : Int32} {l2 : Int32}, Wd V A H0 (jb M 12 B) (eS E) H locs → lv_has ls 6 [(0, .ref (vA V 12 0)), (1, .int l1), (2, .int l2)] → k50 l1 l2 B = some (r, B') → Wq E H locs 50 ls []) {k62 : Int32 → Int32 → Int32 → Blk → Option (Int32 × Blk)} (hk62 : ∀ {H : Heap} {locs : List Loc} {ls : Array Slot} {B : Blk} {l1 : Int32} {l2 : Int32} {l3 : Int32}, Wd V A H0 (jb M 12 B) (eS E) H locs → lv_has ls 6 [(0, .ref (vA V 12 0)), (1, .int l1), (2, .int l2), (3, .int l3)] → k62 l1 l2 l3 B = some (r, B') → Wq E H locs 62 ls []) {k75 : Int32 → Int32 → Int32 → Int32 → Blk → Option (Int32 × Blk)} (hk75 : ∀ {H : Heap} {locs : List Loc} {ls : Array Slot} {B : Blk} {l1 : Int32} {l2 : Int32} {l3 : Int32} {l4 : Int32}, Wd V A H0 (jb M 12 B) (eS E) H locs → lv_has ls 6 [(0, .ref (vA V 12 0)), (1, .int l1), (2, .int l2), (3, .int l3), (4, .int l4)] → k75 l1 l2 l3 l4 B = some (r, B') → Wq E H locs 75 ls []) {H : Heap} {locs : List Loc} {ls : Array Slot} {l1 : Int32} {l2 : Int32} {l3 : Int32} {l4 : Int32} {B : Blk} (hW : Wd V A H0 (jb M 12 B) (eS E) H locs) (hl : lv_has ls 6 [(0, .ref (vA V 12 0)), (1, .int l1), (2, .int l2), (3, .int l3), (4, .int l4)]) (hF : FX6_critical_75s k50 k62 k75 l1 l2 l3 l4 B = some (r, B')) : Wq E H locs 75 ls [] := by
  unfold FX6_critical_75s at hF
  refine q_iload Cx dX6_critical_75 (lv_at hl 4 rfl) ?_
  refine q_aload_n Cx dX6_critical_77 rfl (lv_at hl 0 rfl) ?_
  refine q_get (v := .ref (vA V 12 1)) Cx hW oZ ic6 0 (by decide) rfl wd_714 dX6_critical_78 ?_
  refine q_iconst (v := (0 : Int32)) Cx dX6_critical_81 (by decide) ?_
  obtain ⟨h19, v18, e20, hF⟩ := ld_some hF
  refine qb_iald Cx hW az_1 h19 e20 dX6_critical_82 ?_
  refine q_icmp_ge (tgt := 154) Cx dX6_critical_83 (by decide) (fun c21 => ?_) (fun c21 => ?_)
  · have hF := (if_pos c21).symm.trans hF
    obtain ⟨x22, e23, hF⟩ := lt1_some hF
    refine q_iinc (k := 3) (v := x22) (lv' := [(3, .int x22), (0, .ref (vA V 12 0)), (1, .int l1), (2, .int l2), (4, .int l4)]) Cx dX6_critical_154 hl rfl e23.symm (by decide) rfl (fun ls hl => ?_)
    refine q_goto (tgt := 62) Cx dX6_critical_157 (by decide) ?_
    exact hk62 hW (lv_sub hl [1, 2, 3, 0] rfl) hF
  · have hF := (if_neg c21).symm.trans hF
    refine q_iload_n Cx dX6_critical_86 rfl (lv_at hl 1 rfl) ?_
    refine q_iload_n Cx dX6_critical_87 rfl (lv_at hl 3 rfl) ?_
    refine q_ishr Cx dX6_critical_88 ?_
    refine q_iconst (v := (1 : Int32)) Cx dX6_critical_89 (by decide) ?_
    refine q_iand Cx dX6_critical_90 ?_
    refine q_iconst (v := (1 : Int32)) Cx dX6_critical_91 (by decide) ?_
    refine q_icmp_ne (tgt := 154) Cx dX6_critical_92 (by decide) (fun c24 => ?_) (fun c24 => ?_)
    · have hF := (if_neg c24).symm.trans hF
      obtain ⟨x25, e26, hF⟩ := lt1_some hF
      refine q_iinc (k := 3) (v := x25) (lv' := [(3, .int x25), (0, .ref (vA V 12 0)), (1, .int l1), (2, .int l2), (4, .int l4)]) Cx dX6_critical_154 hl rfl e26.symm (by decide) rfl (fun ls hl => ?_)
      refine q_goto (tgt := 62) Cx dX6_critical_157 (by decide) ?_
      exact hk62 hW (lv_sub hl [1, 2, 3, 0] rfl) hF
    · have hF := (if_pos c24).symm.trans hF
      refine q_aload_n Cx dX6_critical_95 rfl (lv_at hl 0 rfl) ?_
      refine q_iload Cx dX6_critical_96 (lv_at hl 4 rfl) ?_
      obtain ⟨r27, e28, hF⟩ := c1_some hF
      refine q_callI (as := [.int l4]) (rest := []) Cx (kX6_behind e28) okX6_behind ovX6_behind wd_923 ⟨rfl, rfl, by decide, by decide⟩ hW oZ ic6 rfl hl.1 (Nat.le_of_ble_eq_true rfl) rfl dX6_critical_98 (fun H locs hW => ?_)
      refine q_iload_n Cx dX6_critical_101 rfl (lv_at hl 3 rfl) ?_
      refine q_ishr Cx dX6_critical_102 ?_
      refine q_iconst (v := (1 : Int32)) Cx dX6_critical_103 (by decide) ?_
      refine q_iand Cx dX6_critical_104 ?_
      refine q_iconst (v := (1 : Int32)) Cx dX6_critical_105 (by decide) ?_
      refine q_icmp_ne (tgt := 129) Cx dX6_critical_106 (by decide) (fun c29 => ?_) (fun c29 => ?_)
      · have hF := (if_neg c29).symm.trans hF
        exact wX6_critical_129 Cx hret hk50 hk62 hk75 hW (lv_sub hl [0, 1, 2, 3, 4] rfl) hF
      · have hF := (if_pos c29).symm.trans hF
        refine q_aload_n Cx dX6_critical_109 rfl (lv_at hl 0 rfl) ?_
        refine q_get (v := .ref (vA V 12 8)) Cx hW oZ ic6 10 (by decide) rfl wd_724 dX6_critical_110 ?_
        refine q_iload Cx dX6_critical_113 (lv_at hl 4 rfl) ?_
        obtain ⟨h36, v35, e37, hF⟩ := ld_some hF
        refine qb_iald Cx hW az_8 h36 e37 dX6_critical_115 ?_
        refine q_aload_n Cx dX6_critical_116 rfl (lv_at hl 0 rfl) ?_
        refine q_get (v := .ref (vA V 12 7)) Cx hW oZ ic6 9 (by decide) rfl wd_723 dX6_critical_117 ?_
        refine q_iload_n Cx dX6_critical_120 rfl (lv_at hl 3 rfl) ?_
        obtain ⟨h39, v38, e40, hF⟩ := ld_some hF
        refine qb_iald Cx hW az_7 h39 e40 dX6_critical_121 ?_
        refine q_icmp_ne (tgt := 129) Cx dX6_critical_122 (by decide) (fun c41 => ?_) (fun c41 => ?_)
        · have hF := (if_neg c41).symm.trans hF
          exact wX6_critical_129 Cx hret hk50 hk62 hk75 hW (lv_sub hl [0, 1, 2, 3, 4] rfl) hF
        · have hF := (if_pos c41).symm.trans hF
          refine q_iconst (v := (1 : Int32)) Cx dX6_critical_125 (by decide) ?_
          refine q_goto (tgt := 130) Cx dX6_critical_126 (by decide) ?_
          exact wX6_critical_130 Cx hret hk50 hk62 hk75 hW (lv_sub hl [0, 1, 2, 3, 4] rfl) hF
def FX6_critical_75 (k50 : Int32 → Int32 → Blk → Option (Int32 × Blk)) (k62 : Int32 → Int32 → Int32 → Blk → Option (Int32 × Blk)) : Nat → Int32 → Int32 → Int32 → Int32 → Blk → Option (Int32 × Blk)
  | 0 => fun _ _ _ _ _ => none
  | n + 1 => FX6_critical_75s k50 k62 (FX6_critical_75 k50 k62 n)
set_option maxRecDepth 100000 in
theorem wX6_critical_75 {E : WE} {V : VT} {A : Nat → Prop} {H0 : Heap} {M : Mem} (Cx : CX E RX6 cX6_critical 6 2 51) {r : Int32} {B' : Blk} (hret : RetI E V A H0 cX6_critical .int r (jb M 12 B')) {k50 : Int32 → Int32 → Blk → Option (Int32 × Blk)} (hk50 : ∀ {H : Heap} {locs : List Loc} {ls : Array Slot} {B : Blk} {l1 : Int32} {l2 : Int32}, Wd V A H0 (jb M 12 B) (eS E) H locs → lv_has ls 6 [(0, .ref (vA V 12 0)), (1, .int l1), (2, .int l2)] → k50 l1 l2 B = some (r, B') → Wq E H locs 50 ls []) {k62 : Int32 → Int32 → Int32 → Blk → Option (Int32 × Blk)} (hk62 : ∀ {H : Heap} {locs : List Loc} {ls : Array Slot} {B : Blk} {l1 : Int32} {l2 : Int32} {l3 : Int32}, Wd V A H0 (jb M 12 B) (eS E) H locs → lv_has ls 6 [(0, .ref (vA V 12 0)), (1, .int l1), (2, .int l2), (3, .int l3)] → k62 l1 l2 l3 B = some (r, B') → Wq E H locs 62 ls []) : ∀ (n : Nat) {H : Heap} {locs : List Loc} {ls : Array Slot} {l1 : Int32} {l2 : Int32} {l3 : Int32} {l4 : Int32} {B : Blk}, Wd V A H0 (jb M 12 B) (eS E) H locs → lv_has ls 6 [(0, .ref (vA V 12 0)), (1, .int l1), (2, .int l2), (3, .int l3), (4, .int l4)] → FX6_critical_75 k50 k62 n l1 l2 l3 l4 B = some (r, B') → Wq E H locs 75 ls [] := by
  intro n
  induction n with
  | zero => intro _ _ _ _ _ _ _ _ hW hl hF; cases hF
  | succ n ih => intro _ _ _ _ _ _ _ _ hW hl hF; exact wX6_critical_75s Cx hret hk50 hk62 ih hW hl hF
def FX6_critical_62s (k50 : Int32 → Int32 → Blk → Option (Int32 × Blk)) (k62 : Int32 → Int32 → Int32 → Blk → Option (Int32 × Blk)) (l1 : Int32) (l2 : Int32) (l3 : Int32) (B : Blk) : Option (Int32 × Blk) :=
  ld (B 1) 356 (0 : Int32) fun v12 =>
  if v12 ≤ l3 then
    lt1 (l2 + (1 : Int32)) fun x16 =>
    k50 l1 x16 B
  else
    FX6_critical_75 k50 k62 fu l1 l2 l3 (0 : Int32) B
set_option maxRecDepth 100000 in
set_option maxHeartbeats 4000000 in
theorem wX6_critical_62s {E : WE} {V : VT} {A : Nat → Prop} {H0 : Heap} {M : Mem} (Cx : CX E RX6 cX6_critical 6 2 51) {r : Int32} {B' : Blk} (hret : RetI E V A H0 cX6_critical .int r (jb M 12 B')) {k50 : Int32 → Int32 → Blk → Option (Int32 × Blk)} (hk50 : ∀ {H : Heap} {locs : List Loc} {ls : Array Slot} {B : Blk} {l1 : Int32} {l2 : Int32}, Wd V A H0 (jb M 12 B) (eS E) H locs → lv_has ls 6 [(0, .ref (vA V 12 0)), (1, .int l1), (2, .int l2)] → k50 l1 l2 B = some (r, B') → Wq E H locs 50 ls []) {k62 : Int32 → Int32 → Int32 → Blk → Option (Int32 × Blk)} (hk62 : ∀ {H : Heap} {locs : List Loc} {ls : Array Slot} {B : Blk} {l1 : Int32} {l2 : Int32} {l3 : Int32}, Wd V A H0 (jb M 12 B) (eS E) H locs → lv_has ls 6 [(0, .ref (vA V 12 0)), (1, .int l1), (2, .int l2), (3, .int l3)] → k62 l1 l2 l3 B = some (r, B') → Wq E H locs 62 ls []) {H : Heap} {locs : List Loc} {ls : Array Slot} {l1 : Int32} {l2 : Int32} {l3 : Int32} {B : Blk} (hW : Wd V A H0 (jb M 12 B) (eS E) H locs) (hl : lv_has ls 6 [(0, .ref (vA V 12 0)), (1, .int l1), (2, .int l2), (3, .int l3)]) (hF : FX6_critical_62s k50 k62 l1 l2 l3 B = some (r, B')) : Wq E H locs 62 ls [] := by
  unfold FX6_critical_62s at hF
  refine q_iload_n Cx dX6_critical_62 rfl (lv_at hl 3 rfl) ?_
  refine q_aload_n Cx dX6_critical_63 rfl (lv_at hl 0 rfl) ?_
  refine q_get (v := .ref (vA V 12 1)) Cx hW oZ ic6 0 (by decide) rfl wd_714 dX6_critical_64 ?_
  refine q_iconst (v := (0 : Int32)) Cx dX6_critical_67 (by decide) ?_
  obtain ⟨h13, v12, e14, hF⟩ := ld_some hF
  refine qb_iald Cx hW az_1 h13 e14 dX6_critical_68 ?_
  refine q_icmp_ge (tgt := 160) Cx dX6_critical_69 (by decide) (fun c15 => ?_) (fun c15 => ?_)
  · have hF := (if_pos c15).symm.trans hF
    obtain ⟨x16, e17, hF⟩ := lt1_some hF
    refine q_iinc (k := 2) (v := x16) (lv' := [(2, .int x16), (0, .ref (vA V 12 0)), (1, .int l1), (3, .int l3)]) Cx dX6_critical_160 hl rfl e17.symm (by decide) rfl (fun ls hl => ?_)
    refine q_goto (tgt := 50) Cx dX6_critical_163 (by decide) ?_
    exact hk50 hW (lv_sub hl [1, 2, 0] rfl) hF
  · have hF := (if_neg c15).symm.trans hF
    refine q_iconst (v := (0 : Int32)) Cx dX6_critical_72 (by decide) ?_
    refine q_istore (lv' := [(4, .int (0 : Int32)), (0, .ref (vA V 12 0)), (1, .int l1), (2, .int l2), (3, .int l3)]) Cx dX6_critical_73 hl (by decide) rfl (fun ls hl => ?_)
    exact wX6_critical_75 Cx hret hk50 hk62 fu hW (lv_sub hl [1, 2, 3, 4, 0] rfl) hF
def FX6_critical_62 (k50 : Int32 → Int32 → Blk → Option (Int32 × Blk)) : Nat → Int32 → Int32 → Int32 → Blk → Option (Int32 × Blk)
  | 0 => fun _ _ _ _ => none
  | n + 1 => FX6_critical_62s k50 (FX6_critical_62 k50 n)
set_option maxRecDepth 100000 in
theorem wX6_critical_62 {E : WE} {V : VT} {A : Nat → Prop} {H0 : Heap} {M : Mem} (Cx : CX E RX6 cX6_critical 6 2 51) {r : Int32} {B' : Blk} (hret : RetI E V A H0 cX6_critical .int r (jb M 12 B')) {k50 : Int32 → Int32 → Blk → Option (Int32 × Blk)} (hk50 : ∀ {H : Heap} {locs : List Loc} {ls : Array Slot} {B : Blk} {l1 : Int32} {l2 : Int32}, Wd V A H0 (jb M 12 B) (eS E) H locs → lv_has ls 6 [(0, .ref (vA V 12 0)), (1, .int l1), (2, .int l2)] → k50 l1 l2 B = some (r, B') → Wq E H locs 50 ls []) : ∀ (n : Nat) {H : Heap} {locs : List Loc} {ls : Array Slot} {l1 : Int32} {l2 : Int32} {l3 : Int32} {B : Blk}, Wd V A H0 (jb M 12 B) (eS E) H locs → lv_has ls 6 [(0, .ref (vA V 12 0)), (1, .int l1), (2, .int l2), (3, .int l3)] → FX6_critical_62 k50 n l1 l2 l3 B = some (r, B') → Wq E H locs 62 ls [] := by
  intro n
  induction n with
  | zero => intro _ _ _ _ _ _ _ hW hl hF; cases hF
  | succ n ih => intro _ _ _ _ _ _ _ hW hl hF; exact wX6_critical_62s Cx hret hk50 ih hW hl hF
def FX6_critical_50s (k50 : Int32 → Int32 → Blk → Option (Int32 × Blk)) (l1 : Int32) (l2 : Int32) (B : Blk) : Option (Int32 × Blk) :=
  ld (B 1) 356 (0 : Int32) fun v8 =>
  if v8 ≤ l2 then
    some (l1, B)
  else
    FX6_critical_62 k50 fu l1 l2 (0 : Int32) B
set_option maxRecDepth 100000 in
set_option maxHeartbeats 4000000 in
theorem wX6_critical_50s {E : WE} {V : VT} {A : Nat → Prop} {H0 : Heap} {M : Mem} (Cx : CX E RX6 cX6_critical 6 2 51) {r : Int32} {B' : Blk} (hret : RetI E V A H0 cX6_critical .int r (jb M 12 B')) {k50 : Int32 → Int32 → Blk → Option (Int32 × Blk)} (hk50 : ∀ {H : Heap} {locs : List Loc} {ls : Array Slot} {B : Blk} {l1 : Int32} {l2 : Int32}, Wd V A H0 (jb M 12 B) (eS E) H locs → lv_has ls 6 [(0, .ref (vA V 12 0)), (1, .int l1), (2, .int l2)] → k50 l1 l2 B = some (r, B') → Wq E H locs 50 ls []) {H : Heap} {locs : List Loc} {ls : Array Slot} {l1 : Int32} {l2 : Int32} {B : Blk} (hW : Wd V A H0 (jb M 12 B) (eS E) H locs) (hl : lv_has ls 6 [(0, .ref (vA V 12 0)), (1, .int l1), (2, .int l2)]) (hF : FX6_critical_50s k50 l1 l2 B = some (r, B')) : Wq E H locs 50 ls [] := by
  unfold FX6_critical_50s at hF
  refine q_iload_n Cx dX6_critical_50 rfl (lv_at hl 2 rfl) ?_
  refine q_aload_n Cx dX6_critical_51 rfl (lv_at hl 0 rfl) ?_
  refine q_get (v := .ref (vA V 12 1)) Cx hW oZ ic6 0 (by decide) rfl wd_714 dX6_critical_52 ?_
  refine q_iconst (v := (0 : Int32)) Cx dX6_critical_55 (by decide) ?_
  obtain ⟨h9, v8, e10, hF⟩ := ld_some hF
  refine qb_iald Cx hW az_1 h9 e10 dX6_critical_56 ?_
  refine q_icmp_ge (tgt := 166) Cx dX6_critical_57 (by decide) (fun c11 => ?_) (fun c11 => ?_)
  · have hF := (if_pos c11).symm.trans hF
    refine q_iload_n Cx dX6_critical_166 rfl (lv_at hl 1 rfl) ?_
    obtain ⟨rfl, rfl⟩ := Prod.mk.inj (Option.some.inj hF)
    exact hret _ _ _ _ dX6_critical_167 (nI32 _) hW
  · have hF := (if_neg c11).symm.trans hF
    refine q_iconst (v := (0 : Int32)) Cx dX6_critical_60 (by decide) ?_
    refine q_istore_n (lv' := [(3, .int (0 : Int32)), (0, .ref (vA V 12 0)), (1, .int l1), (2, .int l2)]) Cx dX6_critical_61 rfl hl (by decide) rfl (fun ls hl => ?_)
    exact wX6_critical_62 Cx hret hk50 fu hW (lv_sub hl [1, 2, 3, 0] rfl) hF
def FX6_critical_50 : Nat → Int32 → Int32 → Blk → Option (Int32 × Blk)
  | 0 => fun _ _ _ => none
  | n + 1 => FX6_critical_50s (FX6_critical_50 n)
set_option maxRecDepth 100000 in
theorem wX6_critical_50 {E : WE} {V : VT} {A : Nat → Prop} {H0 : Heap} {M : Mem} (Cx : CX E RX6 cX6_critical 6 2 51) {r : Int32} {B' : Blk} (hret : RetI E V A H0 cX6_critical .int r (jb M 12 B')) : ∀ (n : Nat) {H : Heap} {locs : List Loc} {ls : Array Slot} {l1 : Int32} {l2 : Int32} {B : Blk}, Wd V A H0 (jb M 12 B) (eS E) H locs → lv_has ls 6 [(0, .ref (vA V 12 0)), (1, .int l1), (2, .int l2)] → FX6_critical_50 n l1 l2 B = some (r, B') → Wq E H locs 50 ls [] := by
  intro n
  induction n with
  | zero => intro _ _ _ _ _ _ hW hl hF; cases hF
  | succ n ih => intro _ _ _ _ _ _ hW hl hF; exact wX6_critical_50s Cx hret ih hW hl hF
def FX6_critical_40 (k9 : Int32 → Int32 → Blk → Option (Int32 × Blk)) (l2 : Int32) (s0 : Int32) (s1 : Int32) (B : Blk) : Option (Int32 × Blk) :=
  lt1 (s1 ||| s0) fun x48 =>
  lt1 (l2 + (1 : Int32)) fun x50 =>
  k9 x48 x50 B
set_option maxRecDepth 100000 in
set_option maxHeartbeats 4000000 in
theorem wX6_critical_40 {E : WE} {V : VT} {A : Nat → Prop} {H0 : Heap} {M : Mem} (Cx : CX E RX6 cX6_critical 6 2 51) {r : Int32} {B' : Blk} (hret : RetI E V A H0 cX6_critical .int r (jb M 12 B')) {k9 : Int32 → Int32 → Blk → Option (Int32 × Blk)} (hk9 : ∀ {H : Heap} {locs : List Loc} {ls : Array Slot} {B : Blk} {l1 : Int32} {l2 : Int32}, Wd V A H0 (jb M 12 B) (eS E) H locs → lv_has ls 6 [(0, .ref (vA V 12 0)), (1, .int l1), (2, .int l2)] → k9 l1 l2 B = some (r, B') → Wq E H locs 9 ls []) {H : Heap} {locs : List Loc} {ls : Array Slot} {l2 : Int32} {s0 : Int32} {s1 : Int32} {B : Blk} (hW : Wd V A H0 (jb M 12 B) (eS E) H locs) (hl : lv_has ls 6 [(0, .ref (vA V 12 0)), (2, .int l2)]) (hF : FX6_critical_40 k9 l2 s0 s1 B = some (r, B')) : Wq E H locs 40 ls [.int s0, .int s1] := by
  unfold FX6_critical_40 at hF
  refine q_ior Cx dX6_critical_40 ?_
  obtain ⟨x48, e49, hF⟩ := lt1_some hF
  refine q_topi e49 ?_
  refine q_istore_n (lv' := [(1, .int x48), (0, .ref (vA V 12 0)), (2, .int l2)]) Cx dX6_critical_41 rfl hl (by decide) rfl (fun ls hl => ?_)
  obtain ⟨x50, e51, hF⟩ := lt1_some hF
  refine q_iinc (k := 2) (v := x50) (lv' := [(2, .int x50), (1, .int x48), (0, .ref (vA V 12 0))]) Cx dX6_critical_42 hl rfl e51.symm (by decide) rfl (fun ls hl => ?_)
  refine q_goto (tgt := 9) Cx dX6_critical_45 (by decide) ?_
  exact hk9 hW (lv_sub hl [2, 1, 0] rfl) hF
def FX6_critical_9s (k9 : Int32 → Int32 → Blk → Option (Int32 × Blk)) (l1 : Int32) (l2 : Int32) (B : Blk) : Option (Int32 × Blk) :=
  ld (B 1) 356 (0 : Int32) fun v4 =>
  if v4 ≤ l2 then
    FX6_critical_50 fu l1 (0 : Int32) B
  else
    ld (B 8) 24 l2 fun v42 =>
    c1 (FX6_endOfAll B) fun r45 =>
    if v42 = r45 then
      FX6_critical_40 k9 l2 ((1 : Int32) <<< (l2 &&& 31)) l1 B
    else
      FX6_critical_40 k9 l2 (0 : Int32) l1 B
set_option maxRecDepth 100000 in
set_option maxHeartbeats 4000000 in
theorem wX6_critical_9s {E : WE} {V : VT} {A : Nat → Prop} {H0 : Heap} {M : Mem} (Cx : CX E RX6 cX6_critical 6 2 51) {r : Int32} {B' : Blk} (hret : RetI E V A H0 cX6_critical .int r (jb M 12 B')) {k9 : Int32 → Int32 → Blk → Option (Int32 × Blk)} (hk9 : ∀ {H : Heap} {locs : List Loc} {ls : Array Slot} {B : Blk} {l1 : Int32} {l2 : Int32}, Wd V A H0 (jb M 12 B) (eS E) H locs → lv_has ls 6 [(0, .ref (vA V 12 0)), (1, .int l1), (2, .int l2)] → k9 l1 l2 B = some (r, B') → Wq E H locs 9 ls []) {H : Heap} {locs : List Loc} {ls : Array Slot} {l1 : Int32} {l2 : Int32} {B : Blk} (hW : Wd V A H0 (jb M 12 B) (eS E) H locs) (hl : lv_has ls 6 [(0, .ref (vA V 12 0)), (1, .int l1), (2, .int l2)]) (hF : FX6_critical_9s k9 l1 l2 B = some (r, B')) : Wq E H locs 9 ls [] := by
  unfold FX6_critical_9s at hF
  refine q_iload_n Cx dX6_critical_9 rfl (lv_at hl 2 rfl) ?_
  refine q_aload_n Cx dX6_critical_10 rfl (lv_at hl 0 rfl) ?_
  refine q_get (v := .ref (vA V 12 1)) Cx hW oZ ic6 0 (by decide) rfl wd_714 dX6_critical_11 ?_
  refine q_iconst (v := (0 : Int32)) Cx dX6_critical_14 (by decide) ?_
  obtain ⟨h5, v4, e6, hF⟩ := ld_some hF
  refine qb_iald Cx hW az_1 h5 e6 dX6_critical_15 ?_
  refine q_icmp_ge (tgt := 48) Cx dX6_critical_16 (by decide) (fun c7 => ?_) (fun c7 => ?_)
  · have hF := (if_pos c7).symm.trans hF
    refine q_iconst (v := (0 : Int32)) Cx dX6_critical_48 (by decide) ?_
    refine q_istore_n (lv' := [(2, .int (0 : Int32)), (0, .ref (vA V 12 0)), (1, .int l1)]) Cx dX6_critical_49 rfl hl (by decide) rfl (fun ls hl => ?_)
    exact wX6_critical_50 Cx hret fu hW (lv_sub hl [1, 2, 0] rfl) hF
  · have hF := (if_neg c7).symm.trans hF
    refine q_iload_n Cx dX6_critical_19 rfl (lv_at hl 1 rfl) ?_
    refine q_aload_n Cx dX6_critical_20 rfl (lv_at hl 0 rfl) ?_
    refine q_get (v := .ref (vA V 12 8)) Cx hW oZ ic6 10 (by decide) rfl wd_724 dX6_critical_21 ?_
    refine q_iload_n Cx dX6_critical_24 rfl (lv_at hl 2 rfl) ?_
    obtain ⟨h43, v42, e44, hF⟩ := ld_some hF
    refine qb_iald Cx hW az_8 h43 e44 dX6_critical_25 ?_
    refine q_aload_n Cx dX6_critical_26 rfl (lv_at hl 0 rfl) ?_
    obtain ⟨r45, e46, hF⟩ := c1_some hF
    refine q_callI (as := []) (rest := [.int v42, .int l1]) Cx (kX6_endOfAll e46) okX6_endOfAll ovX6_endOfAll wd_956 ⟨rfl, rfl, by decide, by decide⟩ hW oZ ic6 rfl hl.1 (Nat.le_of_ble_eq_true rfl) rfl dX6_critical_27 (fun H locs hW => ?_)
    refine q_icmp_ne (tgt := 39) Cx dX6_critical_30 (by decide) (fun c47 => ?_) (fun c47 => ?_)
    · have hF := (if_neg c47).symm.trans hF
      refine q_iconst (v := (0 : Int32)) Cx dX6_critical_39 (by decide) ?_
      exact wX6_critical_40 Cx hret hk9 hW (lv_sub hl [0, 2] rfl) hF
    · have hF := (if_pos c47).symm.trans hF
      refine q_iconst (v := (1 : Int32)) Cx dX6_critical_33 (by decide) ?_
      refine q_iload_n Cx dX6_critical_34 rfl (lv_at hl 2 rfl) ?_
      refine q_ishl Cx dX6_critical_35 ?_
      refine q_goto (tgt := 40) Cx dX6_critical_36 (by decide) ?_
      exact wX6_critical_40 Cx hret hk9 hW (lv_sub hl [0, 2] rfl) hF
def FX6_critical_9 : Nat → Int32 → Int32 → Blk → Option (Int32 × Blk)
  | 0 => fun _ _ _ => none
  | n + 1 => FX6_critical_9s (FX6_critical_9 n)
set_option maxRecDepth 100000 in
theorem wX6_critical_9 {E : WE} {V : VT} {A : Nat → Prop} {H0 : Heap} {M : Mem} (Cx : CX E RX6 cX6_critical 6 2 51) {r : Int32} {B' : Blk} (hret : RetI E V A H0 cX6_critical .int r (jb M 12 B')) : ∀ (n : Nat) {H : Heap} {locs : List Loc} {ls : Array Slot} {l1 : Int32} {l2 : Int32} {B : Blk}, Wd V A H0 (jb M 12 B) (eS E) H locs → lv_has ls 6 [(0, .ref (vA V 12 0)), (1, .int l1), (2, .int l2)] → FX6_critical_9 n l1 l2 B = some (r, B') → Wq E H locs 9 ls [] := by
  intro n
  induction n with
  | zero => intro _ _ _ _ _ _ hW hl hF; cases hF
  | succ n ih => intro _ _ _ _ _ _ hW hl hF; exact wX6_critical_9s Cx hret ih hW hl hF
def FX6_critical (B : Blk) : Option (Int32 × Blk) :=
  c2 (FX6_reckon B) fun r1 B3 =>
  FX6_critical_9 fu (0 : Int32) (0 : Int32) B3
set_option maxRecDepth 100000 in
set_option maxHeartbeats 4000000 in
theorem wX6_critical {E : WE} {V : VT} {A : Nat → Prop} {H0 : Heap} {M : Mem} (Cx : CX E RX6 cX6_critical 6 2 51) {r : Int32} {B' : Blk} (hret : RetI E V A H0 cX6_critical .int r (jb M 12 B')) {H : Heap} {locs : List Loc} {ls : Array Slot} {B : Blk} (hW : Wd V A H0 (jb M 12 B) (eS E) H locs) (hl : lv_has ls 6 [(0, .ref (vA V 12 0))]) (hF : FX6_critical B = some (r, B')) : Wq E H locs 0 ls [] := by
  unfold FX6_critical at hF
  refine q_aload_n Cx dX6_critical_0 rfl (lv_at hl 0 rfl) ?_
  obtain ⟨r1, B3, e2, hF⟩ := c2_some hF
  refine q_callI (as := []) (rest := []) Cx (kX6_reckon e2) okX6_reckon ovX6_reckon wd_820 ⟨rfl, rfl, by decide, by decide⟩ hW oZ ic6 rfl hl.1 (Nat.le_of_ble_eq_true rfl) rfl dX6_critical_1 (fun H locs hW => ?_)
  refine q_pop Cx dX6_critical_4 rfl ?_
  refine q_iconst (v := (0 : Int32)) Cx dX6_critical_5 (by decide) ?_
  refine q_istore_n (lv' := [(1, .int (0 : Int32)), (0, .ref (vA V 12 0))]) Cx dX6_critical_6 rfl hl (by decide) rfl (fun ls hl => ?_)
  refine q_iconst (v := (0 : Int32)) Cx dX6_critical_7 (by decide) ?_
  refine q_istore_n (lv' := [(2, .int (0 : Int32)), (1, .int (0 : Int32)), (0, .ref (vA V 12 0))]) Cx dX6_critical_8 rfl hl (by decide) rfl (fun ls hl => ?_)
  exact wX6_critical_9 Cx hret fu hW (lv_sub hl [2, 1, 0] rfl) hF
set_option maxRecDepth 100000 in
theorem kX6_critical {l : Launch} {V : VT} {M : Mem} {B : Blk} {r : Int32} {B' : Blk} (hF : FX6_critical B = some (r, B')) : MetI l V yX6_critical cX6_critical 6 .int ({ frames := 2, cells := 0, slots := 0, locals := 51 } : Room) [.ref (vA V 12 0)] r (jb M 12 B) (jb M 12 B') := metI_of (by decide) (Nat.le_of_ble_eq_true rfl) (fun E H0 _ Cx hret H locs ls hW hl => wX6_critical Cx hret hW hl hF)
theorem dX6_lateBehind_0 : decode cX6_lateBehind 0 = .ok (.aload_n 0, 1) := by decide +kernel
theorem dX6_lateBehind_1 : decode cX6_lateBehind 1 = .ok (.invokevirtual 165, 3) := by decide +kernel
theorem dX6_lateBehind_4 : decode cX6_lateBehind 4 = .ok (.aload_n 0, 1) := by decide +kernel
theorem dX6_lateBehind_5 : decode cX6_lateBehind 5 = .ok (.invokevirtual 130, 3) := by decide +kernel
theorem dX6_lateBehind_8 : decode cX6_lateBehind 8 = .ok (.aload_n 0, 1) := by decide +kernel
theorem dX6_lateBehind_9 : decode cX6_lateBehind 9 = .ok (.invokevirtual 81, 3) := by decide +kernel
theorem dX6_lateBehind_12 : decode cX6_lateBehind 12 = .ok (.istore_n 1, 1) := by decide +kernel
theorem dX6_lateBehind_13 : decode cX6_lateBehind 13 = .ok (.aload_n 0, 1) := by decide +kernel
theorem dX6_lateBehind_14 : decode cX6_lateBehind 14 = .ok (.invokevirtual 168, 3) := by decide +kernel
theorem dX6_lateBehind_17 : decode cX6_lateBehind 17 = .ok (.iload_n 1, 1) := by decide +kernel
theorem dX6_lateBehind_18 : decode cX6_lateBehind 18 = .ok (.ireturn, 1) := by decide +kernel
theorem okX6_lateBehind : CalOK yX6_lateBehind cX6_lateBehind 2 (some .int) 0 := ⟨wd_73, wd_996, by decide +kernel⟩
theorem ovX6_lateBehind : VirOK yX6_lateBehind := ⟨wd_994, wd_995⟩
def FX6_lateBehind (B : Blk) : Option (Int32 × Blk) :=
  c1 (FX6_putAside B) fun B3 =>
  c1 (FX6_tradeAll B3) fun B6 =>
  c1 (FX6_lateTogether B6) fun r7 =>
  c1 (FX6_bringBack B6) fun B11 =>
  some (r7, B11)
set_option maxRecDepth 100000 in
set_option maxHeartbeats 4000000 in
theorem wX6_lateBehind {E : WE} {V : VT} {A : Nat → Prop} {H0 : Heap} {M : Mem} (Cx : CX E RX6 cX6_lateBehind 2 4 95) {r : Int32} {B' : Blk} (hret : RetI E V A H0 cX6_lateBehind .int r (jb M 12 B')) {H : Heap} {locs : List Loc} {ls : Array Slot} {B : Blk} (hW : Wd V A H0 (jb M 12 B) (eS E) H locs) (hl : lv_has ls 2 [(0, .ref (vA V 12 0))]) (hF : FX6_lateBehind B = some (r, B')) : Wq E H locs 0 ls [] := by
  unfold FX6_lateBehind at hF
  refine q_aload_n Cx dX6_lateBehind_0 rfl (lv_at hl 0 rfl) ?_
  obtain ⟨B3, e2, hF⟩ := c1_some hF
  refine q_callV (as := []) (rest := []) Cx (kX6_putAside e2) okX6_putAside ovX6_putAside wd_968 ⟨rfl, rfl, by decide, by decide⟩ hW oZ ic6 rfl hl.1 (Nat.le_of_ble_eq_true rfl) rfl dX6_lateBehind_1 (fun H locs hW => ?_)
  refine q_aload_n Cx dX6_lateBehind_4 rfl (lv_at hl 0 rfl) ?_
  obtain ⟨B6, e5, hF⟩ := c1_some hF
  refine q_callV (as := []) (rest := []) Cx (kX6_tradeAll e5) okX6_tradeAll ovX6_tradeAll wd_852 ⟨rfl, rfl, by decide, by decide⟩ hW oZ ic6 rfl hl.1 (Nat.le_of_ble_eq_true rfl) rfl dX6_lateBehind_5 (fun H locs hW => ?_)
  refine q_aload_n Cx dX6_lateBehind_8 rfl (lv_at hl 0 rfl) ?_
  obtain ⟨r7, e8, hF⟩ := c1_some hF
  refine q_callI (as := []) (rest := []) Cx (kX6_lateTogether e8) okX6_lateTogether ovX6_lateTogether wd_915 ⟨rfl, rfl, by decide, by decide⟩ hW oZ ic6 rfl hl.1 (Nat.le_of_ble_eq_true rfl) rfl dX6_lateBehind_9 (fun H locs hW => ?_)
  refine q_istore_n (lv' := [(1, .int r7), (0, .ref (vA V 12 0))]) Cx dX6_lateBehind_12 rfl hl (by decide) rfl (fun ls hl => ?_)
  refine q_aload_n Cx dX6_lateBehind_13 rfl (lv_at hl 1 rfl) ?_
  obtain ⟨B11, e10, hF⟩ := c1_some hF
  refine q_callV (as := []) (rest := []) Cx (kX6_bringBack e10) okX6_bringBack ovX6_bringBack wd_972 ⟨rfl, rfl, by decide, by decide⟩ hW oZ ic6 rfl hl.1 (Nat.le_of_ble_eq_true rfl) rfl dX6_lateBehind_14 (fun H locs hW => ?_)
  refine q_iload_n Cx dX6_lateBehind_17 rfl (lv_at hl 0 rfl) ?_
  obtain ⟨rfl, rfl⟩ := Prod.mk.inj (Option.some.inj hF)
  exact hret _ _ _ _ dX6_lateBehind_18 (nI32 _) hW
set_option maxRecDepth 100000 in
theorem kX6_lateBehind {l : Launch} {V : VT} {M : Mem} {B : Blk} {r : Int32} {B' : Blk} (hF : FX6_lateBehind B = some (r, B')) : MetI l V yX6_lateBehind cX6_lateBehind 2 .int ({ frames := 4, cells := 0, slots := 0, locals := 95 } : Room) [.ref (vA V 12 0)] r (jb M 12 B) (jb M 12 B') := metI_of (by decide) (Nat.le_of_ble_eq_true rfl) (fun E H0 _ Cx hret H locs ls hW hl => wX6_lateBehind Cx hret hW hl hF)
theorem dX6_put_0 : decode cX6_put 0 = .ok (.iconst 0, 1) := by decide +kernel
theorem dX6_put_1 : decode cX6_put 1 = .ok (.istore_n 3, 1) := by decide +kernel
theorem dX6_put_2 : decode cX6_put 2 = .ok (.lload_n 1, 1) := by decide +kernel
theorem dX6_put_3 : decode cX6_put 3 = .ok (.lstore 4, 2) := by decide +kernel
theorem dX6_put_5 : decode cX6_put 5 = .ok (.iconst 1, 1) := by decide +kernel
theorem dX6_put_6 : decode cX6_put 6 = .ok (.istore 6, 2) := by decide +kernel
theorem dX6_put_8 : decode cX6_put 8 = .ok (.iconst 0, 1) := by decide +kernel
theorem dX6_put_9 : decode cX6_put 9 = .ok (.istore 7, 2) := by decide +kernel
theorem dX6_put_11 : decode cX6_put 11 = .ok (.iload 7, 2) := by decide +kernel
theorem dX6_put_13 : decode cX6_put 13 = .ok (.bipush 8, 2) := by decide +kernel
theorem dX6_put_15 : decode cX6_put 15 = .ok (.if_icmp .ge 51, 3) := by decide +kernel
theorem dX6_put_18 : decode cX6_put 18 = .ok (.lload 4, 2) := by decide +kernel
theorem dX6_put_20 : decode cX6_put 20 = .ok (.lconst 0, 1) := by decide +kernel
theorem dX6_put_21 : decode cX6_put 21 = .ok (.lcmp, 1) := by decide +kernel
theorem dX6_put_22 : decode cX6_put 22 = .ok (.ifCond .eq 44, 3) := by decide +kernel
theorem dX6_put_25 : decode cX6_put 25 = .ok (.iload 6, 2) := by decide +kernel
theorem dX6_put_27 : decode cX6_put 27 = .ok (.ifCond .eq 39, 3) := by decide +kernel
theorem dX6_put_30 : decode cX6_put 30 = .ok (.lload 4, 2) := by decide +kernel
theorem dX6_put_32 : decode cX6_put 32 = .ok (.ldc2_w 172, 3) := by decide +kernel
theorem dX6_put_35 : decode cX6_put 35 = .ok (.land, 1) := by decide +kernel
theorem dX6_put_36 : decode cX6_put 36 = .ok (.l2i, 1) := by decide +kernel
theorem dX6_put_37 : decode cX6_put 37 = .ok (.istore 8, 2) := by decide +kernel
theorem dX6_put_39 : decode cX6_put 39 = .ok (.iload 8, 2) := by decide +kernel
theorem dX6_put_41 : decode cX6_put 41 = .ok (.bipush 33, 2) := by decide +kernel
theorem dX6_put_43 : decode cX6_put 43 = .ok (.bipush 126, 2) := by decide +kernel
theorem dX6_put_45 : decode cX6_put 45 = .ok (.invokestatic 56, 3) := by decide +kernel
theorem dX6_put_48 : decode cX6_put 48 = .ok (.istore 6, 2) := by decide +kernel
theorem dX6_put_50 : decode cX6_put 50 = .ok (.lload 4, 2) := by decide +kernel
theorem dX6_put_52 : decode cX6_put 52 = .ok (.bipush 8, 2) := by decide +kernel
theorem dX6_put_54 : decode cX6_put 54 = .ok (.lushr, 1) := by decide +kernel
theorem dX6_put_55 : decode cX6_put 55 = .ok (.lstore 4, 2) := by decide +kernel
theorem dX6_put_57 : decode cX6_put 57 = .ok (.iinc 3 1, 3) := by decide +kernel
theorem dX6_put_60 : decode cX6_put 60 = .ok (.iinc 7 1, 3) := by decide +kernel
theorem dX6_put_63 : decode cX6_put 63 = .ok (.goto (-52), 3) := by decide +kernel
theorem dX6_put_66 : decode cX6_put 66 = .ok (.iload_n 3, 1) := by decide +kernel
theorem dX6_put_67 : decode cX6_put 67 = .ok (.ifCond .eq 8, 3) := by decide +kernel
theorem dX6_put_70 : decode cX6_put 70 = .ok (.iload 6, 2) := by decide +kernel
theorem dX6_put_72 : decode cX6_put 72 = .ok (.ifCond .ne 6, 3) := by decide +kernel
theorem dX6_put_75 : decode cX6_put 75 = .ok (.bipush (-2), 2) := by decide +kernel
theorem dX6_put_77 : decode cX6_put 77 = .ok (.ireturn, 1) := by decide +kernel
theorem dX6_put_78 : decode cX6_put 78 = .ok (.aload_n 0, 1) := by decide +kernel
theorem dX6_put_79 : decode cX6_put 79 = .ok (.getfield 162, 3) := by decide +kernel
theorem dX6_put_82 : decode cX6_put 82 = .ok (.iload_n 3, 1) := by decide +kernel
theorem dX6_put_83 : decode cX6_put 83 = .ok (.iadd, 1) := by decide +kernel
theorem dX6_put_84 : decode cX6_put 84 = .ok (.bipush 80, 2) := by decide +kernel
theorem dX6_put_86 : decode cX6_put 86 = .ok (.if_icmp .le 6, 3) := by decide +kernel
theorem dX6_put_89 : decode cX6_put 89 = .ok (.bipush (-4), 2) := by decide +kernel
theorem dX6_put_91 : decode cX6_put 91 = .ok (.ireturn, 1) := by decide +kernel
theorem dX6_put_92 : decode cX6_put 92 = .ok (.iload_n 3, 1) := by decide +kernel
theorem dX6_put_93 : decode cX6_put 93 = .ok (.iconst 1, 1) := by decide +kernel
theorem dX6_put_94 : decode cX6_put 94 = .ok (.isub, 1) := by decide +kernel
theorem dX6_put_95 : decode cX6_put 95 = .ok (.istore 7, 2) := by decide +kernel
theorem dX6_put_97 : decode cX6_put 97 = .ok (.iload 7, 2) := by decide +kernel
theorem dX6_put_99 : decode cX6_put 99 = .ok (.ifCond .lt 41, 3) := by decide +kernel
theorem dX6_put_102 : decode cX6_put 102 = .ok (.aload_n 0, 1) := by decide +kernel
theorem dX6_put_103 : decode cX6_put 103 = .ok (.getfield 26, 3) := by decide +kernel
theorem dX6_put_106 : decode cX6_put 106 = .ok (.aload_n 0, 1) := by decide +kernel
theorem dX6_put_107 : decode cX6_put 107 = .ok (.getfield 162, 3) := by decide +kernel
theorem dX6_put_110 : decode cX6_put 110 = .ok (.lload_n 1, 1) := by decide +kernel
theorem dX6_put_111 : decode cX6_put 111 = .ok (.bipush 8, 2) := by decide +kernel
theorem dX6_put_113 : decode cX6_put 113 = .ok (.iload 7, 2) := by decide +kernel
theorem dX6_put_115 : decode cX6_put 115 = .ok (.imul, 1) := by decide +kernel
theorem dX6_put_116 : decode cX6_put 116 = .ok (.lushr, 1) := by decide +kernel
theorem dX6_put_117 : decode cX6_put 117 = .ok (.ldc2_w 172, 3) := by decide +kernel
theorem dX6_put_120 : decode cX6_put 120 = .ok (.land, 1) := by decide +kernel
theorem dX6_put_121 : decode cX6_put 121 = .ok (.l2i, 1) := by decide +kernel
theorem dX6_put_122 : decode cX6_put 122 = .ok (.i2c, 1) := by decide +kernel
theorem dX6_put_123 : decode cX6_put 123 = .ok (.castore, 1) := by decide +kernel
theorem dX6_put_124 : decode cX6_put 124 = .ok (.aload_n 0, 1) := by decide +kernel
theorem dX6_put_125 : decode cX6_put 125 = .ok (.dup, 1) := by decide +kernel
theorem dX6_put_126 : decode cX6_put 126 = .ok (.getfield 162, 3) := by decide +kernel
theorem dX6_put_129 : decode cX6_put 129 = .ok (.iconst 1, 1) := by decide +kernel
theorem dX6_put_130 : decode cX6_put 130 = .ok (.iadd, 1) := by decide +kernel
theorem dX6_put_131 : decode cX6_put 131 = .ok (.putfield 162, 3) := by decide +kernel
theorem dX6_put_134 : decode cX6_put 134 = .ok (.iinc 7 (-1), 3) := by decide +kernel
theorem dX6_put_137 : decode cX6_put 137 = .ok (.goto (-40), 3) := by decide +kernel
theorem dX6_put_140 : decode cX6_put 140 = .ok (.aload_n 0, 1) := by decide +kernel
theorem dX6_put_141 : decode cX6_put 141 = .ok (.getfield 162, 3) := by decide +kernel
theorem dX6_put_144 : decode cX6_put 144 = .ok (.ireturn, 1) := by decide +kernel
theorem okX6_put : CalOK yX6_put cX6_put 9 (some .int) 1 := ⟨wd_73, wd_1000, by decide +kernel⟩
theorem ovX6_put : VirOK yX6_put := ⟨wd_998, wd_999⟩
def FX6_put_97s (k97 : Int64 → Int32 → Blk → Option (Int32 × Blk)) (l1 : Int64) (l7 : Int32) (B : Blk) : Option (Int32 × Blk) :=
  if l7 < 0 then
    some (((B 0) 8), B)
  else
    stb B 6 80 ((B 0) 8) (vp_nar .char ((((((l1.toUInt64 >>> (((8 : Int32) * l7).toInt64.toUInt64 &&& Int64.toUInt64 63)).toInt64) &&& (255 : Int64)).toInt32).toUInt32 % 65536).toInt32)) fun B8 =>
    lt1 (bs B8 0 8 (((B8 0) 8) + (1 : Int32))) fun B11 =>
    lt1 (l7 + (-1 : Int32)) fun x13 =>
    k97 l1 x13 B11
set_option maxRecDepth 100000 in
set_option maxHeartbeats 4000000 in
theorem wX6_put_97s {E : WE} {V : VT} {A : Nat → Prop} {H0 : Heap} {M : Mem} (Cx : CX E RX6 cX6_put 9 1 22) {r : Int32} {B' : Blk} (hret : RetI E V A H0 cX6_put .int r (jb M 12 B')) {k97 : Int64 → Int32 → Blk → Option (Int32 × Blk)} (hk97 : ∀ {H : Heap} {locs : List Loc} {ls : Array Slot} {B : Blk} {l1 : Int64} {l7 : Int32}, Wd V A H0 (jb M 12 B) (eS E) H locs → lv_has ls 9 [(0, .ref (vA V 12 0)), (1, .long l1), (7, .int l7)] → k97 l1 l7 B = some (r, B') → Wq E H locs 97 ls []) {H : Heap} {locs : List Loc} {ls : Array Slot} {l1 : Int64} {l7 : Int32} {B : Blk} (hW : Wd V A H0 (jb M 12 B) (eS E) H locs) (hl : lv_has ls 9 [(0, .ref (vA V 12 0)), (1, .long l1), (7, .int l7)]) (hF : FX6_put_97s k97 l1 l7 B = some (r, B')) : Wq E H locs 97 ls [] := by
  unfold FX6_put_97s at hF
  refine q_iload Cx dX6_put_97 (lv_at hl 2 rfl) ?_
  refine q_if_lt (tgt := 140) Cx dX6_put_99 (by decide) (fun c7 => ?_) (fun c7 => ?_)
  · have hF := (if_pos c7).symm.trans hF
    refine q_aload_n Cx dX6_put_140 rfl (lv_at hl 0 rfl) ?_
    refine qb_get (v := .int ((B 0) 8)) Cx hW oZ ic6 8 (by decide) rfl wd_722 dX6_put_141 ?_
    obtain ⟨rfl, rfl⟩ := Prod.mk.inj (Option.some.inj hF)
    exact hret _ _ _ _ dX6_put_144 (nI32 _) hW
  · have hF := (if_neg c7).symm.trans hF
    refine q_aload_n Cx dX6_put_102 rfl (lv_at hl 0 rfl) ?_
    refine q_get (v := .ref (vA V 12 6)) Cx hW oZ ic6 7 (by decide) rfl wd_721 dX6_put_103 ?_
    refine q_aload_n Cx dX6_put_106 rfl (lv_at hl 0 rfl) ?_
    refine qb_get (v := .int ((B 0) 8)) Cx hW oZ ic6 8 (by decide) rfl wd_722 dX6_put_107 ?_
    refine q_lload_n Cx dX6_put_110 rfl (lv_at hl 1 rfl) ?_
    refine q_bipush (v := (8 : Int32)) Cx dX6_put_111 (by decide) ?_
    refine q_iload Cx dX6_put_113 (lv_at hl 2 rfl) ?_
    refine q_imul Cx dX6_put_115 ?_
    refine q_lushr Cx dX6_put_116 ?_
    refine q_ldc2 (v := (255 : Int64)) Cx dX6_put_117 wd_1001 ?_
    refine q_land Cx dX6_put_120 ?_
    refine q_l2i Cx dX6_put_121 ?_
    refine q_i2c Cx dX6_put_122 ?_
    obtain ⟨h9, B8, e10, hF⟩ := stb_some hF
    refine qb_cast Cx hW az_6 h9 e10 dX6_put_123 (fun H locs hW => ?_)
    refine q_aload_n Cx dX6_put_124 rfl (lv_at hl 0 rfl) ?_
    refine q_dup Cx dX6_put_125 rfl ?_
    refine qb_get (v := .int ((B8 0) 8)) Cx hW oZ ic6 8 (by decide) rfl wd_722 dX6_put_126 ?_
    refine q_iconst (v := (1 : Int32)) Cx dX6_put_129 (by decide) ?_
    refine q_iadd Cx dX6_put_130 ?_
    obtain ⟨B11, e12, hF⟩ := lt1_some hF
    refine qb_put Cx hW oZ ic6 8 (by decide) (Nat.le_of_ble_eq_true rfl) e12 rfl rfl ⟨nI32 _, rfl⟩ wd_722 dX6_put_131 (fun H locs hW => ?_)
    obtain ⟨x13, e14, hF⟩ := lt1_some hF
    refine q_iinc (k := 2) (v := x13) (lv' := [(7, .int x13), (0, .ref (vA V 12 0)), (1, .long l1)]) Cx dX6_put_134 hl rfl e14.symm (by decide) rfl (fun ls hl => ?_)
    refine q_goto (tgt := 97) Cx dX6_put_137 (by decide) ?_
    exact hk97 hW (lv_sub hl [1, 2, 0] rfl) hF
def FX6_put_97 : Nat → Int64 → Int32 → Blk → Option (Int32 × Blk)
  | 0 => fun _ _ _ => none
  | n + 1 => FX6_put_97s (FX6_put_97 n)
set_option maxRecDepth 100000 in
theorem wX6_put_97 {E : WE} {V : VT} {A : Nat → Prop} {H0 : Heap} {M : Mem} (Cx : CX E RX6 cX6_put 9 1 22) {r : Int32} {B' : Blk} (hret : RetI E V A H0 cX6_put .int r (jb M 12 B')) : ∀ (n : Nat) {H : Heap} {locs : List Loc} {ls : Array Slot} {l1 : Int64} {l7 : Int32} {B : Blk}, Wd V A H0 (jb M 12 B) (eS E) H locs → lv_has ls 9 [(0, .ref (vA V 12 0)), (1, .long l1), (7, .int l7)] → FX6_put_97 n l1 l7 B = some (r, B') → Wq E H locs 97 ls [] := by
  intro n
  induction n with
  | zero => intro _ _ _ _ _ _ hW hl hF; cases hF
  | succ n ih => intro _ _ _ _ _ _ hW hl hF; exact wX6_put_97s Cx hret ih hW hl hF
def FX6_put_66 (l1 : Int64) (l3 : Int32) (l6 : Int32) (B : Blk) : Option (Int32 × Blk) :=
  if l3 = 0 then
    some ((-2 : Int32), B)
  else
    if l6 = 0 then
      some ((-2 : Int32), B)
    else
      if (((B 0) 8) + l3) ≤ (80 : Int32) then
        lt1 (l3 - (1 : Int32)) fun x5 =>
        FX6_put_97 fu l1 x5 B
      else
        some ((-4 : Int32), B)
set_option maxRecDepth 100000 in
set_option maxHeartbeats 4000000 in
theorem wX6_put_66 {E : WE} {V : VT} {A : Nat → Prop} {H0 : Heap} {M : Mem} (Cx : CX E RX6 cX6_put 9 1 22) {r : Int32} {B' : Blk} (hret : RetI E V A H0 cX6_put .int r (jb M 12 B')) {H : Heap} {locs : List Loc} {ls : Array Slot} {l1 : Int64} {l3 : Int32} {l6 : Int32} {B : Blk} (hW : Wd V A H0 (jb M 12 B) (eS E) H locs) (hl : lv_has ls 9 [(0, .ref (vA V 12 0)), (1, .long l1), (3, .int l3), (6, .int l6)]) (hF : FX6_put_66 l1 l3 l6 B = some (r, B')) : Wq E H locs 66 ls [] := by
  unfold FX6_put_66 at hF
  refine q_iload_n Cx dX6_put_66 rfl (lv_at hl 2 rfl) ?_
  refine q_if_eq (tgt := 75) Cx dX6_put_67 (by decide) (fun c2 => ?_) (fun c2 => ?_)
  · have hF := (if_pos c2).symm.trans hF
    refine q_bipush (v := (-2 : Int32)) Cx dX6_put_75 (by decide) ?_
    obtain ⟨rfl, rfl⟩ := Prod.mk.inj (Option.some.inj hF)
    exact hret _ _ _ _ dX6_put_77 (nI32 _) hW
  · have hF := (if_neg c2).symm.trans hF
    refine q_iload Cx dX6_put_70 (lv_at hl 3 rfl) ?_
    refine q_if_ne (tgt := 78) Cx dX6_put_72 (by decide) (fun c3 => ?_) (fun c3 => ?_)
    · have hF := (if_neg c3).symm.trans hF
      refine q_aload_n Cx dX6_put_78 rfl (lv_at hl 0 rfl) ?_
      refine qb_get (v := .int ((B 0) 8)) Cx hW oZ ic6 8 (by decide) rfl wd_722 dX6_put_79 ?_
      refine q_iload_n Cx dX6_put_82 rfl (lv_at hl 2 rfl) ?_
      refine q_iadd Cx dX6_put_83 ?_
      refine q_bipush (v := (80 : Int32)) Cx dX6_put_84 (by decide) ?_
      refine q_icmp_le (tgt := 92) Cx dX6_put_86 (by decide) (fun c4 => ?_) (fun c4 => ?_)
      · have hF := (if_pos c4).symm.trans hF
        refine q_iload_n Cx dX6_put_92 rfl (lv_at hl 2 rfl) ?_
        refine q_iconst (v := (1 : Int32)) Cx dX6_put_93 (by decide) ?_
        refine q_isub Cx dX6_put_94 ?_
        obtain ⟨x5, e6, hF⟩ := lt1_some hF
        refine q_topi e6 ?_
        refine q_istore (lv' := [(7, .int x5), (0, .ref (vA V 12 0)), (1, .long l1), (3, .int l3), (6, .int l6)]) Cx dX6_put_95 hl (by decide) rfl (fun ls hl => ?_)
        exact wX6_put_97 Cx hret fu hW (lv_sub hl [1, 2, 0] rfl) hF
      · have hF := (if_neg c4).symm.trans hF
        refine q_bipush (v := (-4 : Int32)) Cx dX6_put_89 (by decide) ?_
        obtain ⟨rfl, rfl⟩ := Prod.mk.inj (Option.some.inj hF)
        exact hret _ _ _ _ dX6_put_91 (nI32 _) hW
    · have hF := (if_pos c3).symm.trans hF
      refine q_bipush (v := (-2 : Int32)) Cx dX6_put_75 (by decide) ?_
      obtain ⟨rfl, rfl⟩ := Prod.mk.inj (Option.some.inj hF)
      exact hret _ _ _ _ dX6_put_77 (nI32 _) hW
def FX6_put_11s (k11 : Int64 → Int32 → Int64 → Int32 → Int32 → Blk → Option (Int32 × Blk)) (l1 : Int64) (l3 : Int32) (l4 : Int64) (l6 : Int32) (l7 : Int32) (B : Blk) : Option (Int32 × Blk) :=
  if (8 : Int32) ≤ l7 then
    FX6_put_66 l1 l3 l6 B
  else
    if (lg_cmp l4 (0 : Int64)) = 0 then
      FX6_put_66 l1 l3 l6 B
    else
      if l6 = 0 then
        FX6_put_66 l1 l3 l6 B
      else
        lt1 ((l4 &&& (255 : Int64)).toInt32) fun x17 =>
        c1 (FX6_in x17 (33 : Int32) (126 : Int32)) fun r19 =>
        lt1 ((l4.toUInt64 >>> ((8 : Int32).toInt64.toUInt64 &&& Int64.toUInt64 63)).toInt64) fun x21 =>
        lt1 (l3 + (1 : Int32)) fun x23 =>
        lt1 (l7 + (1 : Int32)) fun x25 =>
        k11 l1 x23 x21 r19 x25 B
set_option maxRecDepth 100000 in
set_option maxHeartbeats 4000000 in
theorem wX6_put_11s {E : WE} {V : VT} {A : Nat → Prop} {H0 : Heap} {M : Mem} (Cx : CX E RX6 cX6_put 9 1 22) {r : Int32} {B' : Blk} (hret : RetI E V A H0 cX6_put .int r (jb M 12 B')) {k11 : Int64 → Int32 → Int64 → Int32 → Int32 → Blk → Option (Int32 × Blk)} (hk11 : ∀ {H : Heap} {locs : List Loc} {ls : Array Slot} {B : Blk} {l1 : Int64} {l3 : Int32} {l4 : Int64} {l6 : Int32} {l7 : Int32}, Wd V A H0 (jb M 12 B) (eS E) H locs → lv_has ls 9 [(0, .ref (vA V 12 0)), (1, .long l1), (3, .int l3), (4, .long l4), (6, .int l6), (7, .int l7)] → k11 l1 l3 l4 l6 l7 B = some (r, B') → Wq E H locs 11 ls []) {H : Heap} {locs : List Loc} {ls : Array Slot} {l1 : Int64} {l3 : Int32} {l4 : Int64} {l6 : Int32} {l7 : Int32} {B : Blk} (hW : Wd V A H0 (jb M 12 B) (eS E) H locs) (hl : lv_has ls 9 [(0, .ref (vA V 12 0)), (1, .long l1), (3, .int l3), (4, .long l4), (6, .int l6), (7, .int l7)]) (hF : FX6_put_11s k11 l1 l3 l4 l6 l7 B = some (r, B')) : Wq E H locs 11 ls [] := by
  unfold FX6_put_11s at hF
  refine q_iload Cx dX6_put_11 (lv_at hl 5 rfl) ?_
  refine q_bipush (v := (8 : Int32)) Cx dX6_put_13 (by decide) ?_
  refine q_icmp_ge (tgt := 66) Cx dX6_put_15 (by decide) (fun c1 => ?_) (fun c1 => ?_)
  · have hF := (if_pos c1).symm.trans hF
    exact wX6_put_66 Cx hret hW (lv_sub hl [0, 1, 2, 4] rfl) hF
  · have hF := (if_neg c1).symm.trans hF
    refine q_lload Cx dX6_put_18 (lv_at hl 3 rfl) ?_
    refine q_lconst (v := (0 : Int64)) Cx dX6_put_20 (by decide) ?_
    refine q_lcmp Cx dX6_put_21 ?_
    refine q_if_eq (tgt := 66) Cx dX6_put_22 (by decide) (fun c15 => ?_) (fun c15 => ?_)
    · have hF := (if_pos c15).symm.trans hF
      exact wX6_put_66 Cx hret hW (lv_sub hl [0, 1, 2, 4] rfl) hF
    · have hF := (if_neg c15).symm.trans hF
      refine q_iload Cx dX6_put_25 (lv_at hl 4 rfl) ?_
      refine q_if_eq (tgt := 66) Cx dX6_put_27 (by decide) (fun c16 => ?_) (fun c16 => ?_)
      · have hF := (if_pos c16).symm.trans hF
        exact wX6_put_66 Cx hret hW (lv_sub hl [0, 1, 2, 4] rfl) hF
      · have hF := (if_neg c16).symm.trans hF
        refine q_lload Cx dX6_put_30 (lv_at hl 3 rfl) ?_
        refine q_ldc2 (v := (255 : Int64)) Cx dX6_put_32 wd_1001 ?_
        refine q_land Cx dX6_put_35 ?_
        refine q_l2i Cx dX6_put_36 ?_
        obtain ⟨x17, e18, hF⟩ := lt1_some hF
        refine q_topi e18 ?_
        refine q_istore (lv' := [(8, .int x17), (0, .ref (vA V 12 0)), (1, .long l1), (3, .int l3), (4, .long l4), (6, .int l6), (7, .int l7)]) Cx dX6_put_37 hl (by decide) rfl (fun ls hl => ?_)
        refine q_iload Cx dX6_put_39 (lv_at hl 0 rfl) ?_
        refine q_bipush (v := (33 : Int32)) Cx dX6_put_41 (by decide) ?_
        refine q_bipush (v := (126 : Int32)) Cx dX6_put_43 (by decide) ?_
        obtain ⟨r19, e20, hF⟩ := c1_some hF
        refine q_callSI (as := [.int x17, .int (33 : Int32), .int (126 : Int32)]) (rest := []) Cx (kX6_in e20) okX6_in osX6_in rfl wd_780 ⟨rfl, rfl, by decide, by decide⟩ hW rfl hl.1 (Nat.le_of_ble_eq_true rfl) rfl dX6_put_45 (fun H locs hW => ?_)
        refine q_istore (lv' := [(6, .int r19), (8, .int x17), (0, .ref (vA V 12 0)), (1, .long l1), (3, .int l3), (4, .long l4), (7, .int l7)]) Cx dX6_put_48 hl (by decide) rfl (fun ls hl => ?_)
        refine q_lload Cx dX6_put_50 (lv_at hl 5 rfl) ?_
        refine q_bipush (v := (8 : Int32)) Cx dX6_put_52 (by decide) ?_
        refine q_lushr Cx dX6_put_54 ?_
        obtain ⟨x21, e22, hF⟩ := lt1_some hF
        refine q_topl e22 ?_
        refine q_lstore (lv' := [(4, .long x21), (6, .int r19), (8, .int x17), (0, .ref (vA V 12 0)), (1, .long l1), (3, .int l3), (7, .int l7)]) Cx dX6_put_55 hl (by decide) rfl (fun ls hl => ?_)
        obtain ⟨x23, e24, hF⟩ := lt1_some hF
        refine q_iinc (k := 5) (v := x23) (lv' := [(3, .int x23), (4, .long x21), (6, .int r19), (8, .int x17), (0, .ref (vA V 12 0)), (1, .long l1), (7, .int l7)]) Cx dX6_put_57 hl rfl e24.symm (by decide) rfl (fun ls hl => ?_)
        obtain ⟨x25, e26, hF⟩ := lt1_some hF
        refine q_iinc (k := 6) (v := x25) (lv' := [(7, .int x25), (3, .int x23), (4, .long x21), (6, .int r19), (8, .int x17), (0, .ref (vA V 12 0)), (1, .long l1)]) Cx dX6_put_60 hl rfl e26.symm (by decide) rfl (fun ls hl => ?_)
        refine q_goto (tgt := 11) Cx dX6_put_63 (by decide) ?_
        exact hk11 hW (lv_sub hl [5, 6, 1, 2, 3, 0] rfl) hF
def FX6_put_11 : Nat → Int64 → Int32 → Int64 → Int32 → Int32 → Blk → Option (Int32 × Blk)
  | 0 => fun _ _ _ _ _ _ => none
  | n + 1 => FX6_put_11s (FX6_put_11 n)
set_option maxRecDepth 100000 in
theorem wX6_put_11 {E : WE} {V : VT} {A : Nat → Prop} {H0 : Heap} {M : Mem} (Cx : CX E RX6 cX6_put 9 1 22) {r : Int32} {B' : Blk} (hret : RetI E V A H0 cX6_put .int r (jb M 12 B')) : ∀ (n : Nat) {H : Heap} {locs : List Loc} {ls : Array Slot} {l1 : Int64} {l3 : Int32} {l4 : Int64} {l6 : Int32} {l7 : Int32} {B : Blk}, Wd V A H0 (jb M 12 B) (eS E) H locs → lv_has ls 9 [(0, .ref (vA V 12 0)), (1, .long l1), (3, .int l3), (4, .long l4), (6, .int l6), (7, .int l7)] → FX6_put_11 n l1 l3 l4 l6 l7 B = some (r, B') → Wq E H locs 11 ls [] := by
  intro n
  induction n with
  | zero => intro _ _ _ _ _ _ _ _ _ hW hl hF; cases hF
  | succ n ih => intro _ _ _ _ _ _ _ _ _ hW hl hF; exact wX6_put_11s Cx hret ih hW hl hF
def FX6_put (B : Blk) (l1 : Int64) : Option (Int32 × Blk) :=
  FX6_put_11 fu l1 (0 : Int32) l1 (1 : Int32) (0 : Int32) B
set_option maxRecDepth 100000 in
set_option maxHeartbeats 4000000 in
theorem wX6_put {E : WE} {V : VT} {A : Nat → Prop} {H0 : Heap} {M : Mem} (Cx : CX E RX6 cX6_put 9 1 22) {r : Int32} {B' : Blk} (hret : RetI E V A H0 cX6_put .int r (jb M 12 B')) {H : Heap} {locs : List Loc} {ls : Array Slot} {l1 : Int64} {B : Blk} (hW : Wd V A H0 (jb M 12 B) (eS E) H locs) (hl : lv_has ls 9 [(0, .ref (vA V 12 0)), (1, .long l1)]) (hF : FX6_put B l1 = some (r, B')) : Wq E H locs 0 ls [] := by
  unfold FX6_put at hF
  refine q_iconst (v := (0 : Int32)) Cx dX6_put_0 (by decide) ?_
  refine q_istore_n (lv' := [(3, .int (0 : Int32)), (0, .ref (vA V 12 0)), (1, .long l1)]) Cx dX6_put_1 rfl hl (by decide) rfl (fun ls hl => ?_)
  refine q_lload_n Cx dX6_put_2 rfl (lv_at hl 2 rfl) ?_
  refine q_lstore (lv' := [(4, .long l1), (3, .int (0 : Int32)), (0, .ref (vA V 12 0)), (1, .long l1)]) Cx dX6_put_3 hl (by decide) rfl (fun ls hl => ?_)
  refine q_iconst (v := (1 : Int32)) Cx dX6_put_5 (by decide) ?_
  refine q_istore (lv' := [(6, .int (1 : Int32)), (4, .long l1), (3, .int (0 : Int32)), (0, .ref (vA V 12 0)), (1, .long l1)]) Cx dX6_put_6 hl (by decide) rfl (fun ls hl => ?_)
  refine q_iconst (v := (0 : Int32)) Cx dX6_put_8 (by decide) ?_
  refine q_istore (lv' := [(7, .int (0 : Int32)), (6, .int (1 : Int32)), (4, .long l1), (3, .int (0 : Int32)), (0, .ref (vA V 12 0)), (1, .long l1)]) Cx dX6_put_9 hl (by decide) rfl (fun ls hl => ?_)
  exact wX6_put_11 Cx hret fu hW (lv_sub hl [4, 5, 3, 2, 1, 0] rfl) hF
set_option maxRecDepth 100000 in
theorem kX6_put {l : Launch} {V : VT} {M : Mem} {B : Blk} {l1 : Int64} {r : Int32} {B' : Blk} (hF : FX6_put B l1 = some (r, B')) : MetI l V yX6_put cX6_put 9 .int ({ frames := 1, cells := 0, slots := 0, locals := 22 } : Room) [.ref (vA V 12 0), .long l1] r (jb M 12 B) (jb M 12 B') := metI_of (by decide) (Nat.le_of_ble_eq_true rfl) (fun E H0 _ Cx hret H locs ls hW hl => wX6_put Cx hret hW hl hF)
theorem dX6_wipe_0 : decode cX6_wipe 0 = .ok (.aload_n 0, 1) := by decide +kernel
theorem dX6_wipe_1 : decode cX6_wipe 1 = .ok (.getfield 162, 3) := by decide +kernel
theorem dX6_wipe_4 : decode cX6_wipe 4 = .ok (.istore_n 1, 1) := by decide +kernel
theorem dX6_wipe_5 : decode cX6_wipe 5 = .ok (.aload_n 0, 1) := by decide +kernel
theorem dX6_wipe_6 : decode cX6_wipe 6 = .ok (.iconst 0, 1) := by decide +kernel
theorem dX6_wipe_7 : decode cX6_wipe 7 = .ok (.putfield 162, 3) := by decide +kernel
theorem dX6_wipe_10 : decode cX6_wipe 10 = .ok (.iload_n 1, 1) := by decide +kernel
theorem dX6_wipe_11 : decode cX6_wipe 11 = .ok (.ireturn, 1) := by decide +kernel
theorem okX6_wipe : CalOK yX6_wipe cX6_wipe 2 (some .int) 0 := ⟨wd_73, wd_1005, by decide +kernel⟩
theorem ovX6_wipe : VirOK yX6_wipe := ⟨wd_1003, wd_1004⟩
def FX6_wipe (B : Blk) : Option (Int32 × Blk) :=
  lt1 ((B 0) 8) fun x1 =>
  lt1 (bs B 0 8 (0 : Int32)) fun B3 =>
  some (x1, B3)
set_option maxRecDepth 100000 in
set_option maxHeartbeats 4000000 in
theorem wX6_wipe {E : WE} {V : VT} {A : Nat → Prop} {H0 : Heap} {M : Mem} (Cx : CX E RX6 cX6_wipe 2 0 0) {r : Int32} {B' : Blk} (hret : RetI E V A H0 cX6_wipe .int r (jb M 12 B')) {H : Heap} {locs : List Loc} {ls : Array Slot} {B : Blk} (hW : Wd V A H0 (jb M 12 B) (eS E) H locs) (hl : lv_has ls 2 [(0, .ref (vA V 12 0))]) (hF : FX6_wipe B = some (r, B')) : Wq E H locs 0 ls [] := by
  unfold FX6_wipe at hF
  refine q_aload_n Cx dX6_wipe_0 rfl (lv_at hl 0 rfl) ?_
  refine qb_get (v := .int ((B 0) 8)) Cx hW oZ ic6 8 (by decide) rfl wd_722 dX6_wipe_1 ?_
  obtain ⟨x1, e2, hF⟩ := lt1_some hF
  refine q_topi e2 ?_
  refine q_istore_n (lv' := [(1, .int x1), (0, .ref (vA V 12 0))]) Cx dX6_wipe_4 rfl hl (by decide) rfl (fun ls hl => ?_)
  refine q_aload_n Cx dX6_wipe_5 rfl (lv_at hl 1 rfl) ?_
  refine q_iconst (v := (0 : Int32)) Cx dX6_wipe_6 (by decide) ?_
  obtain ⟨B3, e4, hF⟩ := lt1_some hF
  refine qb_put Cx hW oZ ic6 8 (by decide) (Nat.le_of_ble_eq_true rfl) e4 rfl rfl ⟨nI32 _, rfl⟩ wd_722 dX6_wipe_7 (fun H locs hW => ?_)
  refine q_iload_n Cx dX6_wipe_10 rfl (lv_at hl 0 rfl) ?_
  obtain ⟨rfl, rfl⟩ := Prod.mk.inj (Option.some.inj hF)
  exact hret _ _ _ _ dX6_wipe_11 (nI32 _) hW
set_option maxRecDepth 100000 in
theorem kX6_wipe {l : Launch} {V : VT} {M : Mem} {B : Blk} {r : Int32} {B' : Blk} (hF : FX6_wipe B = some (r, B')) : MetI l V yX6_wipe cX6_wipe 2 .int ({ frames := 0, cells := 0, slots := 0, locals := 0 } : Room) [.ref (vA V 12 0)] r (jb M 12 B) (jb M 12 B') := metI_of (by decide) (Nat.le_of_ble_eq_true rfl) (fun E H0 _ Cx hret H locs ls hW hl => wX6_wipe Cx hret hW hl hF)
theorem dX6_letter_0 : decode cX6_letter 0 = .ok (.iload_n 1, 1) := by decide +kernel
theorem dX6_letter_1 : decode cX6_letter 1 = .ok (.aload_n 0, 1) := by decide +kernel
theorem dX6_letter_2 : decode cX6_letter 2 = .ok (.getfield 162, 3) := by decide +kernel
theorem dX6_letter_5 : decode cX6_letter 5 = .ok (.if_icmp .ge 12, 3) := by decide +kernel
theorem dX6_letter_8 : decode cX6_letter 8 = .ok (.aload_n 0, 1) := by decide +kernel
theorem dX6_letter_9 : decode cX6_letter 9 = .ok (.getfield 26, 3) := by decide +kernel
theorem dX6_letter_12 : decode cX6_letter 12 = .ok (.iload_n 1, 1) := by decide +kernel
theorem dX6_letter_13 : decode cX6_letter 13 = .ok (.caload, 1) := by decide +kernel
theorem dX6_letter_14 : decode cX6_letter 14 = .ok (.goto 4, 3) := by decide +kernel
theorem dX6_letter_17 : decode cX6_letter 17 = .ok (.iconst (-1), 1) := by decide +kernel
theorem dX6_letter_18 : decode cX6_letter 18 = .ok (.ireturn, 1) := by decide +kernel
theorem okX6_letter : CalOK yX6_letter cX6_letter 2 (some .int) 1 := ⟨wd_73, wd_1021, by decide +kernel⟩
theorem ovX6_letter : VirOK yX6_letter := ⟨wd_1020, wd_57⟩
def FX6_letter (B : Blk) (l1 : Int32) : Option Int32 :=
  if ((B 0) 8) ≤ l1 then
    some (-1 : Int32)
  else
    ld (B 6) 80 l1 fun v2 =>
    some v2
set_option maxRecDepth 100000 in
set_option maxHeartbeats 4000000 in
theorem wX6_letter {E : WE} {V : VT} {A : Nat → Prop} {H0 : Heap} {M : Mem} (Cx : CX E RX6 cX6_letter 2 0 0) {r : Int32} {B : Blk} (hret : RetI E V A H0 cX6_letter .int r (jb M 12 B)) {H : Heap} {locs : List Loc} {ls : Array Slot} {l1 : Int32} (hW : Wd V A H0 (jb M 12 B) (eS E) H locs) (hl : lv_has ls 2 [(0, .ref (vA V 12 0)), (1, .int l1)]) (hF : FX6_letter B l1 = some r) : Wq E H locs 0 ls [] := by
  unfold FX6_letter at hF
  refine q_iload_n Cx dX6_letter_0 rfl (lv_at hl 1 rfl) ?_
  refine q_aload_n Cx dX6_letter_1 rfl (lv_at hl 0 rfl) ?_
  refine qb_get (v := .int ((B 0) 8)) Cx hW oZ ic6 8 (by decide) rfl wd_722 dX6_letter_2 ?_
  refine q_icmp_ge (tgt := 17) Cx dX6_letter_5 (by decide) (fun c1 => ?_) (fun c1 => ?_)
  · have hF := (if_pos c1).symm.trans hF
    refine q_iconst (v := (-1 : Int32)) Cx dX6_letter_17 (by decide) ?_
    obtain rfl := Option.some.inj hF
    exact hret _ _ _ _ dX6_letter_18 (nI32 _) hW
  · have hF := (if_neg c1).symm.trans hF
    refine q_aload_n Cx dX6_letter_8 rfl (lv_at hl 0 rfl) ?_
    refine q_get (v := .ref (vA V 12 6)) Cx hW oZ ic6 7 (by decide) rfl wd_721 dX6_letter_9 ?_
    refine q_iload_n Cx dX6_letter_12 rfl (lv_at hl 1 rfl) ?_
    obtain ⟨h3, v2, e4, hF⟩ := ld_some hF
    refine qb_cald Cx hW az_6 h3 e4 dX6_letter_13 ?_
    refine q_goto (tgt := 18) Cx dX6_letter_14 (by decide) ?_
    obtain rfl := Option.some.inj hF
    exact hret _ _ _ _ dX6_letter_18 (nI32 _) hW
set_option maxRecDepth 100000 in
theorem kX6_letter {l : Launch} {V : VT} {M : Mem} {B : Blk} {l1 : Int32} {r : Int32} (hF : FX6_letter B l1 = some r) : MetI l V yX6_letter cX6_letter 2 .int ({ frames := 0, cells := 0, slots := 0, locals := 0 } : Room) [.ref (vA V 12 0), .int l1] r (jb M 12 B) (jb M 12 B) := metI_of (by decide) (Nat.le_of_ble_eq_true rfl) (fun E H0 _ Cx hret H locs ls hW hl => wX6_letter Cx hret hW hl hF)
theorem dX6_isDigit_0 : decode cX6_isDigit 0 = .ok (.aload_n 0, 1) := by decide +kernel
theorem dX6_isDigit_1 : decode cX6_isDigit 1 = .ok (.iload_n 1, 1) := by decide +kernel
theorem dX6_isDigit_2 : decode cX6_isDigit 2 = .ok (.invokevirtual 174, 3) := by decide +kernel
theorem dX6_isDigit_5 : decode cX6_isDigit 5 = .ok (.bipush 48, 2) := by decide +kernel
theorem dX6_isDigit_7 : decode cX6_isDigit 7 = .ok (.if_icmp .lt 17, 3) := by decide +kernel
theorem dX6_isDigit_10 : decode cX6_isDigit 10 = .ok (.aload_n 0, 1) := by decide +kernel
theorem dX6_isDigit_11 : decode cX6_isDigit 11 = .ok (.iload_n 1, 1) := by decide +kernel
theorem dX6_isDigit_12 : decode cX6_isDigit 12 = .ok (.invokevirtual 174, 3) := by decide +kernel
theorem dX6_isDigit_15 : decode cX6_isDigit 15 = .ok (.bipush 57, 2) := by decide +kernel
theorem dX6_isDigit_17 : decode cX6_isDigit 17 = .ok (.if_icmp .gt 7, 3) := by decide +kernel
theorem dX6_isDigit_20 : decode cX6_isDigit 20 = .ok (.iconst 1, 1) := by decide +kernel
theorem dX6_isDigit_21 : decode cX6_isDigit 21 = .ok (.goto 4, 3) := by decide +kernel
theorem dX6_isDigit_24 : decode cX6_isDigit 24 = .ok (.iconst 0, 1) := by decide +kernel
theorem dX6_isDigit_25 : decode cX6_isDigit 25 = .ok (.ireturn, 1) := by decide +kernel
theorem okX6_isDigit : CalOK yX6_isDigit cX6_isDigit 2 (some .boolean) 1 := ⟨wd_73, wd_1045, by decide +kernel⟩
theorem ovX6_isDigit : VirOK yX6_isDigit := ⟨wd_1044, wd_63⟩
def FX6_isDigit (B : Blk) (l1 : Int32) : Option Int32 :=
  c1 (FX6_letter B l1) fun r1 =>
  if r1 < (48 : Int32) then
    some (0 : Int32)
  else
    c1 (FX6_letter B l1) fun r4 =>
    if (57 : Int32) < r4 then
      some (0 : Int32)
    else
      some (1 : Int32)
set_option maxRecDepth 100000 in
set_option maxHeartbeats 4000000 in
theorem wX6_isDigit {E : WE} {V : VT} {A : Nat → Prop} {H0 : Heap} {M : Mem} (Cx : CX E RX6 cX6_isDigit 2 1 21) {r : Int32} {B : Blk} (hret : RetI E V A H0 cX6_isDigit .boolean r (jb M 12 B)) {H : Heap} {locs : List Loc} {ls : Array Slot} {l1 : Int32} (hW : Wd V A H0 (jb M 12 B) (eS E) H locs) (hl : lv_has ls 2 [(0, .ref (vA V 12 0)), (1, .int l1)]) (hF : FX6_isDigit B l1 = some r) : Wq E H locs 0 ls [] := by
  unfold FX6_isDigit at hF
  refine q_aload_n Cx dX6_isDigit_0 rfl (lv_at hl 0 rfl) ?_
  refine q_iload_n Cx dX6_isDigit_1 rfl (lv_at hl 1 rfl) ?_
  obtain ⟨r1, e2, hF⟩ := c1_some hF
  refine q_callI (as := [.int l1]) (rest := []) Cx (kX6_letter e2) okX6_letter ovX6_letter wd_1018 ⟨rfl, rfl, by decide, by decide⟩ hW oZ ic6 rfl hl.1 (Nat.le_of_ble_eq_true rfl) rfl dX6_isDigit_2 (fun H locs hW => ?_)
  refine q_bipush (v := (48 : Int32)) Cx dX6_isDigit_5 (by decide) ?_
  refine q_icmp_lt (tgt := 24) Cx dX6_isDigit_7 (by decide) (fun c3 => ?_) (fun c3 => ?_)
  · have hF := (if_pos c3).symm.trans hF
    refine q_iconst (v := (0 : Int32)) Cx dX6_isDigit_24 (by decide) ?_
    obtain rfl := Option.some.inj hF
    exact hret _ _ _ _ dX6_isDigit_25 (by rfl) hW
  · have hF := (if_neg c3).symm.trans hF
    refine q_aload_n Cx dX6_isDigit_10 rfl (lv_at hl 0 rfl) ?_
    refine q_iload_n Cx dX6_isDigit_11 rfl (lv_at hl 1 rfl) ?_
    obtain ⟨r4, e5, hF⟩ := c1_some hF
    refine q_callI (as := [.int l1]) (rest := []) Cx (kX6_letter e5) okX6_letter ovX6_letter wd_1018 ⟨rfl, rfl, by decide, by decide⟩ hW oZ ic6 rfl hl.1 (Nat.le_of_ble_eq_true rfl) rfl dX6_isDigit_12 (fun H locs hW => ?_)
    refine q_bipush (v := (57 : Int32)) Cx dX6_isDigit_15 (by decide) ?_
    refine q_icmp_gt (tgt := 24) Cx dX6_isDigit_17 (by decide) (fun c6 => ?_) (fun c6 => ?_)
    · have hF := (if_pos c6).symm.trans hF
      refine q_iconst (v := (0 : Int32)) Cx dX6_isDigit_24 (by decide) ?_
      obtain rfl := Option.some.inj hF
      exact hret _ _ _ _ dX6_isDigit_25 (by rfl) hW
    · have hF := (if_neg c6).symm.trans hF
      refine q_iconst (v := (1 : Int32)) Cx dX6_isDigit_20 (by decide) ?_
      refine q_goto (tgt := 25) Cx dX6_isDigit_21 (by decide) ?_
      obtain rfl := Option.some.inj hF
      exact hret _ _ _ _ dX6_isDigit_25 (by rfl) hW
set_option maxRecDepth 100000 in
theorem kX6_isDigit {l : Launch} {V : VT} {M : Mem} {B : Blk} {l1 : Int32} {r : Int32} (hF : FX6_isDigit B l1 = some r) : MetI l V yX6_isDigit cX6_isDigit 2 .boolean ({ frames := 1, cells := 0, slots := 0, locals := 21 } : Room) [.ref (vA V 12 0), .int l1] r (jb M 12 B) (jb M 12 B) := metI_of (by decide) (Nat.le_of_ble_eq_true rfl) (fun E H0 _ Cx hret H locs ls hW hl => wX6_isDigit Cx hret hW hl hF)
theorem dX6_fail_0 : decode cX6_fail 0 = .ok (.aload_n 0, 1) := by decide +kernel
theorem dX6_fail_1 : decode cX6_fail 1 = .ok (.aload_n 0, 1) := by decide +kernel
theorem dX6_fail_2 : decode cX6_fail 2 = .ok (.getfield 177, 3) := by decide +kernel
theorem dX6_fail_5 : decode cX6_fail 5 = .ok (.bipush (-6), 2) := by decide +kernel
theorem dX6_fail_7 : decode cX6_fail 7 = .ok (.if_icmp .ne 10, 3) := by decide +kernel
theorem dX6_fail_10 : decode cX6_fail 10 = .ok (.aload_n 0, 1) := by decide +kernel
theorem dX6_fail_11 : decode cX6_fail 11 = .ok (.getfield 180, 3) := by decide +kernel
theorem dX6_fail_14 : decode cX6_fail 14 = .ok (.goto 7, 3) := by decide +kernel
theorem dX6_fail_17 : decode cX6_fail 17 = .ok (.aload_n 0, 1) := by decide +kernel
theorem dX6_fail_18 : decode cX6_fail 18 = .ok (.getfield 177, 3) := by decide +kernel
theorem dX6_fail_21 : decode cX6_fail 21 = .ok (.putfield 177, 3) := by decide +kernel
theorem dX6_fail_24 : decode cX6_fail 24 = .ok (.return_, 1) := by decide +kernel
theorem okX6_fail : CalOK yX6_fail cX6_fail 1 (none) 0 := ⟨wd_73, wd_1033, by decide +kernel⟩
theorem ovX6_fail : VirOK yX6_fail := ⟨wd_1032, wd_60⟩
def FX6_fail_21 (s0 : Int32) (B : Blk) : Option Blk :=
  lt1 (bs B 0 18 s0) fun B2 =>
  some B2
set_option maxRecDepth 100000 in
set_option maxHeartbeats 4000000 in
theorem wX6_fail_21 {E : WE} {V : VT} {A : Nat → Prop} {H0 : Heap} {M : Mem} (Cx : CX E RX6 cX6_fail 1 0 0) {B' : Blk} (hret : RetV E V A H0 cX6_fail (jb M 12 B')) {H : Heap} {locs : List Loc} {ls : Array Slot} {s0 : Int32} {B : Blk} (hW : Wd V A H0 (jb M 12 B) (eS E) H locs) (hl : lv_has ls 1 []) (hF : FX6_fail_21 s0 B = some B') : Wq E H locs 21 ls [.int s0, .ref (vA V 12 0)] := by
  unfold FX6_fail_21 at hF
  obtain ⟨B2, e3, hF⟩ := lt1_some hF
  refine qb_put Cx hW oZ ic6 18 (by decide) (Nat.le_of_ble_eq_true rfl) e3 rfl rfl ⟨nI32 _, rfl⟩ wd_732 dX6_fail_21 (fun H locs hW => ?_)
  obtain rfl := Option.some.inj hF
  exact hret _ _ _ _ dX6_fail_24 hW
def FX6_fail (B : Blk) : Option Blk :=
  if ((B 0) 18) = (-6 : Int32) then
    FX6_fail_21 ((B 0) 17) B
  else
    FX6_fail_21 ((B 0) 18) B
set_option maxRecDepth 100000 in
set_option maxHeartbeats 4000000 in
theorem wX6_fail {E : WE} {V : VT} {A : Nat → Prop} {H0 : Heap} {M : Mem} (Cx : CX E RX6 cX6_fail 1 0 0) {B' : Blk} (hret : RetV E V A H0 cX6_fail (jb M 12 B')) {H : Heap} {locs : List Loc} {ls : Array Slot} {B : Blk} (hW : Wd V A H0 (jb M 12 B) (eS E) H locs) (hl : lv_has ls 1 [(0, .ref (vA V 12 0))]) (hF : FX6_fail B = some B') : Wq E H locs 0 ls [] := by
  unfold FX6_fail at hF
  refine q_aload_n Cx dX6_fail_0 rfl (lv_at hl 0 rfl) ?_
  refine q_aload_n Cx dX6_fail_1 rfl (lv_at hl 0 rfl) ?_
  refine qb_get (v := .int ((B 0) 18)) Cx hW oZ ic6 18 (by decide) rfl wd_732 dX6_fail_2 ?_
  refine q_bipush (v := (-6 : Int32)) Cx dX6_fail_5 (by decide) ?_
  refine q_icmp_ne (tgt := 17) Cx dX6_fail_7 (by decide) (fun c1 => ?_) (fun c1 => ?_)
  · have hF := (if_neg c1).symm.trans hF
    refine q_aload_n Cx dX6_fail_17 rfl (lv_at hl 0 rfl) ?_
    refine qb_get (v := .int ((B 0) 18)) Cx hW oZ ic6 18 (by decide) rfl wd_732 dX6_fail_18 ?_
    exact wX6_fail_21 Cx hret hW (lv_sub hl [] rfl) hF
  · have hF := (if_pos c1).symm.trans hF
    refine q_aload_n Cx dX6_fail_10 rfl (lv_at hl 0 rfl) ?_
    refine qb_get (v := .int ((B 0) 17)) Cx hW oZ ic6 17 (by decide) rfl wd_731 dX6_fail_11 ?_
    refine q_goto (tgt := 21) Cx dX6_fail_14 (by decide) ?_
    exact wX6_fail_21 Cx hret hW (lv_sub hl [] rfl) hF
set_option maxRecDepth 100000 in
theorem kX6_fail {l : Launch} {V : VT} {M : Mem} {B : Blk} {B' : Blk} (hF : FX6_fail B = some B') : MetV l V yX6_fail cX6_fail 1 ({ frames := 0, cells := 0, slots := 0, locals := 0 } : Room) [.ref (vA V 12 0)] (jb M 12 B) (jb M 12 B') := metV_of (by decide) (Nat.le_of_ble_eq_true rfl) (fun E H0 _ Cx hret H locs ls hW hl => wX6_fail Cx hret hW hl hF)
theorem dX6_takes_0 : decode cX6_takes 0 = .ok (.aload_n 0, 1) := by decide +kernel
theorem dX6_takes_1 : decode cX6_takes 1 = .ok (.aload_n 0, 1) := by decide +kernel
theorem dX6_takes_2 : decode cX6_takes 2 = .ok (.getfield 180, 3) := by decide +kernel
theorem dX6_takes_5 : decode cX6_takes 5 = .ok (.invokevirtual 174, 3) := by decide +kernel
theorem dX6_takes_8 : decode cX6_takes 8 = .ok (.iload_n 1, 1) := by decide +kernel
theorem dX6_takes_9 : decode cX6_takes 9 = .ok (.if_icmp .eq 7, 3) := by decide +kernel
theorem dX6_takes_12 : decode cX6_takes 12 = .ok (.aload_n 0, 1) := by decide +kernel
theorem dX6_takes_13 : decode cX6_takes 13 = .ok (.invokevirtual 183, 3) := by decide +kernel
theorem dX6_takes_16 : decode cX6_takes 16 = .ok (.aload_n 0, 1) := by decide +kernel
theorem dX6_takes_17 : decode cX6_takes 17 = .ok (.dup, 1) := by decide +kernel
theorem dX6_takes_18 : decode cX6_takes 18 = .ok (.getfield 180, 3) := by decide +kernel
theorem dX6_takes_21 : decode cX6_takes 21 = .ok (.iconst 1, 1) := by decide +kernel
theorem dX6_takes_22 : decode cX6_takes 22 = .ok (.iadd, 1) := by decide +kernel
theorem dX6_takes_23 : decode cX6_takes 23 = .ok (.putfield 180, 3) := by decide +kernel
theorem dX6_takes_26 : decode cX6_takes 26 = .ok (.return_, 1) := by decide +kernel
theorem okX6_takes : CalOK yX6_takes cX6_takes 2 (none) 1 := ⟨wd_73, wd_1037, by decide +kernel⟩
theorem ovX6_takes : VirOK yX6_takes := ⟨wd_1036, wd_61⟩
def FX6_takes_16 (B : Blk) : Option Blk :=
  lt1 (bs B 0 17 (((B 0) 17) + (1 : Int32))) fun B4 =>
  some B4
set_option maxRecDepth 100000 in
set_option maxHeartbeats 4000000 in
theorem wX6_takes_16 {E : WE} {V : VT} {A : Nat → Prop} {H0 : Heap} {M : Mem} (Cx : CX E RX6 cX6_takes 2 1 21) {B' : Blk} (hret : RetV E V A H0 cX6_takes (jb M 12 B')) {H : Heap} {locs : List Loc} {ls : Array Slot} {B : Blk} (hW : Wd V A H0 (jb M 12 B) (eS E) H locs) (hl : lv_has ls 2 [(0, .ref (vA V 12 0))]) (hF : FX6_takes_16 B = some B') : Wq E H locs 16 ls [] := by
  unfold FX6_takes_16 at hF
  refine q_aload_n Cx dX6_takes_16 rfl (lv_at hl 0 rfl) ?_
  refine q_dup Cx dX6_takes_17 rfl ?_
  refine qb_get (v := .int ((B 0) 17)) Cx hW oZ ic6 17 (by decide) rfl wd_731 dX6_takes_18 ?_
  refine q_iconst (v := (1 : Int32)) Cx dX6_takes_21 (by decide) ?_
  refine q_iadd Cx dX6_takes_22 ?_
  obtain ⟨B4, e5, hF⟩ := lt1_some hF
  refine qb_put Cx hW oZ ic6 17 (by decide) (Nat.le_of_ble_eq_true rfl) e5 rfl rfl ⟨nI32 _, rfl⟩ wd_731 dX6_takes_23 (fun H locs hW => ?_)
  obtain rfl := Option.some.inj hF
  exact hret _ _ _ _ dX6_takes_26 hW
def FX6_takes (B : Blk) (l1 : Int32) : Option Blk :=
  c1 (FX6_letter B ((B 0) 17)) fun r1 =>
  if r1 = l1 then
    FX6_takes_16 B
  else
    c1 (FX6_fail B) fun B8 =>
    FX6_takes_16 B8
set_option maxRecDepth 100000 in
set_option maxHeartbeats 4000000 in
theorem wX6_takes {E : WE} {V : VT} {A : Nat → Prop} {H0 : Heap} {M : Mem} (Cx : CX E RX6 cX6_takes 2 1 21) {B' : Blk} (hret : RetV E V A H0 cX6_takes (jb M 12 B')) {H : Heap} {locs : List Loc} {ls : Array Slot} {l1 : Int32} {B : Blk} (hW : Wd V A H0 (jb M 12 B) (eS E) H locs) (hl : lv_has ls 2 [(0, .ref (vA V 12 0)), (1, .int l1)]) (hF : FX6_takes B l1 = some B') : Wq E H locs 0 ls [] := by
  unfold FX6_takes at hF
  refine q_aload_n Cx dX6_takes_0 rfl (lv_at hl 0 rfl) ?_
  refine q_aload_n Cx dX6_takes_1 rfl (lv_at hl 0 rfl) ?_
  refine qb_get (v := .int ((B 0) 17)) Cx hW oZ ic6 17 (by decide) rfl wd_731 dX6_takes_2 ?_
  obtain ⟨r1, e2, hF⟩ := c1_some hF
  refine q_callI (as := [.int ((B 0) 17)]) (rest := []) Cx (kX6_letter e2) okX6_letter ovX6_letter wd_1018 ⟨rfl, rfl, by decide, by decide⟩ hW oZ ic6 rfl hl.1 (Nat.le_of_ble_eq_true rfl) rfl dX6_takes_5 (fun H locs hW => ?_)
  refine q_iload_n Cx dX6_takes_8 rfl (lv_at hl 1 rfl) ?_
  refine q_icmp_eq (tgt := 16) Cx dX6_takes_9 (by decide) (fun c3 => ?_) (fun c3 => ?_)
  · have hF := (if_pos c3).symm.trans hF
    exact wX6_takes_16 Cx hret hW (lv_sub hl [0] rfl) hF
  · have hF := (if_neg c3).symm.trans hF
    refine q_aload_n Cx dX6_takes_12 rfl (lv_at hl 0 rfl) ?_
    obtain ⟨B8, e7, hF⟩ := c1_some hF
    refine q_callV (as := []) (rest := []) Cx (kX6_fail e7) okX6_fail ovX6_fail wd_1030 ⟨rfl, rfl, by decide, by decide⟩ hW oZ ic6 rfl hl.1 (Nat.le_of_ble_eq_true rfl) rfl dX6_takes_13 (fun H locs hW => ?_)
    exact wX6_takes_16 Cx hret hW (lv_sub hl [0] rfl) hF
set_option maxRecDepth 100000 in
theorem kX6_takes {l : Launch} {V : VT} {M : Mem} {B : Blk} {l1 : Int32} {B' : Blk} (hF : FX6_takes B l1 = some B') : MetV l V yX6_takes cX6_takes 2 ({ frames := 1, cells := 0, slots := 0, locals := 21 } : Room) [.ref (vA V 12 0), .int l1] (jb M 12 B) (jb M 12 B') := metV_of (by decide) (Nat.le_of_ble_eq_true rfl) (fun E H0 _ Cx hret H locs ls hW hl => wX6_takes Cx hret hW hl hF)
theorem dX6_takesNumber_0 : decode cX6_takesNumber 0 = .ok (.aload_n 0, 1) := by decide +kernel
theorem dX6_takesNumber_1 : decode cX6_takesNumber 1 = .ok (.aload_n 0, 1) := by decide +kernel
theorem dX6_takesNumber_2 : decode cX6_takesNumber 2 = .ok (.getfield 180, 3) := by decide +kernel
theorem dX6_takesNumber_5 : decode cX6_takesNumber 5 = .ok (.invokevirtual 186, 3) := by decide +kernel
theorem dX6_takesNumber_8 : decode cX6_takesNumber 8 = .ok (.ifCond .ne 7, 3) := by decide +kernel
theorem dX6_takesNumber_11 : decode cX6_takesNumber 11 = .ok (.aload_n 0, 1) := by decide +kernel
theorem dX6_takesNumber_12 : decode cX6_takesNumber 12 = .ok (.invokevirtual 183, 3) := by decide +kernel
theorem dX6_takesNumber_15 : decode cX6_takesNumber 15 = .ok (.aload_n 0, 1) := by decide +kernel
theorem dX6_takesNumber_16 : decode cX6_takesNumber 16 = .ok (.aload_n 0, 1) := by decide +kernel
theorem dX6_takesNumber_17 : decode cX6_takesNumber 17 = .ok (.getfield 180, 3) := by decide +kernel
theorem dX6_takesNumber_20 : decode cX6_takesNumber 20 = .ok (.invokevirtual 174, 3) := by decide +kernel
theorem dX6_takesNumber_23 : decode cX6_takesNumber 23 = .ok (.bipush 48, 2) := by decide +kernel
theorem dX6_takesNumber_25 : decode cX6_takesNumber 25 = .ok (.isub, 1) := by decide +kernel
theorem dX6_takesNumber_26 : decode cX6_takesNumber 26 = .ok (.istore_n 1, 1) := by decide +kernel
theorem dX6_takesNumber_27 : decode cX6_takesNumber 27 = .ok (.aload_n 0, 1) := by decide +kernel
theorem dX6_takesNumber_28 : decode cX6_takesNumber 28 = .ok (.dup, 1) := by decide +kernel
theorem dX6_takesNumber_29 : decode cX6_takesNumber 29 = .ok (.getfield 180, 3) := by decide +kernel
theorem dX6_takesNumber_32 : decode cX6_takesNumber 32 = .ok (.iconst 1, 1) := by decide +kernel
theorem dX6_takesNumber_33 : decode cX6_takesNumber 33 = .ok (.iadd, 1) := by decide +kernel
theorem dX6_takesNumber_34 : decode cX6_takesNumber 34 = .ok (.putfield 180, 3) := by decide +kernel
theorem dX6_takesNumber_37 : decode cX6_takesNumber 37 = .ok (.iconst 1, 1) := by decide +kernel
theorem dX6_takesNumber_38 : decode cX6_takesNumber 38 = .ok (.istore_n 2, 1) := by decide +kernel
theorem dX6_takesNumber_39 : decode cX6_takesNumber 39 = .ok (.iload_n 2, 1) := by decide +kernel
theorem dX6_takesNumber_40 : decode cX6_takesNumber 40 = .ok (.iconst 5, 1) := by decide +kernel
theorem dX6_takesNumber_41 : decode cX6_takesNumber 41 = .ok (.if_icmp .ge 51, 3) := by decide +kernel
theorem dX6_takesNumber_44 : decode cX6_takesNumber 44 = .ok (.iload_n 1, 1) := by decide +kernel
theorem dX6_takesNumber_45 : decode cX6_takesNumber 45 = .ok (.ifCond .le 47, 3) := by decide +kernel
theorem dX6_takesNumber_48 : decode cX6_takesNumber 48 = .ok (.aload_n 0, 1) := by decide +kernel
theorem dX6_takesNumber_49 : decode cX6_takesNumber 49 = .ok (.aload_n 0, 1) := by decide +kernel
theorem dX6_takesNumber_50 : decode cX6_takesNumber 50 = .ok (.getfield 180, 3) := by decide +kernel
theorem dX6_takesNumber_53 : decode cX6_takesNumber 53 = .ok (.invokevirtual 186, 3) := by decide +kernel
theorem dX6_takesNumber_56 : decode cX6_takesNumber 56 = .ok (.ifCond .eq 36, 3) := by decide +kernel
theorem dX6_takesNumber_59 : decode cX6_takesNumber 59 = .ok (.bipush 10, 2) := by decide +kernel
theorem dX6_takesNumber_61 : decode cX6_takesNumber 61 = .ok (.iload_n 1, 1) := by decide +kernel
theorem dX6_takesNumber_62 : decode cX6_takesNumber 62 = .ok (.imul, 1) := by decide +kernel
theorem dX6_takesNumber_63 : decode cX6_takesNumber 63 = .ok (.aload_n 0, 1) := by decide +kernel
theorem dX6_takesNumber_64 : decode cX6_takesNumber 64 = .ok (.aload_n 0, 1) := by decide +kernel
theorem dX6_takesNumber_65 : decode cX6_takesNumber 65 = .ok (.getfield 180, 3) := by decide +kernel
theorem dX6_takesNumber_68 : decode cX6_takesNumber 68 = .ok (.invokevirtual 174, 3) := by decide +kernel
theorem dX6_takesNumber_71 : decode cX6_takesNumber 71 = .ok (.iadd, 1) := by decide +kernel
theorem dX6_takesNumber_72 : decode cX6_takesNumber 72 = .ok (.bipush 48, 2) := by decide +kernel
theorem dX6_takesNumber_74 : decode cX6_takesNumber 74 = .ok (.isub, 1) := by decide +kernel
theorem dX6_takesNumber_75 : decode cX6_takesNumber 75 = .ok (.istore_n 1, 1) := by decide +kernel
theorem dX6_takesNumber_76 : decode cX6_takesNumber 76 = .ok (.aload_n 0, 1) := by decide +kernel
theorem dX6_takesNumber_77 : decode cX6_takesNumber 77 = .ok (.dup, 1) := by decide +kernel
theorem dX6_takesNumber_78 : decode cX6_takesNumber 78 = .ok (.getfield 180, 3) := by decide +kernel
theorem dX6_takesNumber_81 : decode cX6_takesNumber 81 = .ok (.iconst 1, 1) := by decide +kernel
theorem dX6_takesNumber_82 : decode cX6_takesNumber 82 = .ok (.iadd, 1) := by decide +kernel
theorem dX6_takesNumber_83 : decode cX6_takesNumber 83 = .ok (.putfield 180, 3) := by decide +kernel
theorem dX6_takesNumber_86 : decode cX6_takesNumber 86 = .ok (.iinc 2 1, 3) := by decide +kernel
theorem dX6_takesNumber_89 : decode cX6_takesNumber 89 = .ok (.goto (-50), 3) := by decide +kernel
theorem dX6_takesNumber_92 : decode cX6_takesNumber 92 = .ok (.iload_n 1, 1) := by decide +kernel
theorem dX6_takesNumber_93 : decode cX6_takesNumber 93 = .ok (.ireturn, 1) := by decide +kernel
theorem okX6_takesNumber : CalOK yX6_takesNumber cX6_takesNumber 3 (some .int) 0 := ⟨wd_73, wd_1041, by decide +kernel⟩
theorem ovX6_takesNumber : VirOK yX6_takesNumber := ⟨wd_1040, wd_62⟩
def FX6_takesNumber_39s (k39 : Int32 → Int32 → Blk → Option (Int32 × Blk)) (l1 : Int32) (l2 : Int32) (B : Blk) : Option (Int32 × Blk) :=
  if (5 : Int32) ≤ l2 then
    some (l1, B)
  else
    if l1 ≤ 0 then
      some (l1, B)
    else
      c1 (FX6_isDigit B ((B 0) 17)) fun r12 =>
      if r12 = 0 then
        some (l1, B)
      else
        c1 (FX6_letter B ((B 0) 17)) fun r15 =>
        lt1 ((((10 : Int32) * l1) + r15) - (48 : Int32)) fun x17 =>
        lt1 (bs B 0 17 (((B 0) 17) + (1 : Int32))) fun B19 =>
        lt1 (l2 + (1 : Int32)) fun x21 =>
        k39 x17 x21 B19
set_option maxRecDepth 100000 in
set_option maxHeartbeats 4000000 in
theorem wX6_takesNumber_39s {E : WE} {V : VT} {A : Nat → Prop} {H0 : Heap} {M : Mem} (Cx : CX E RX6 cX6_takesNumber 3 2 42) {r : Int32} {B' : Blk} (hret : RetI E V A H0 cX6_takesNumber .int r (jb M 12 B')) {k39 : Int32 → Int32 → Blk → Option (Int32 × Blk)} (hk39 : ∀ {H : Heap} {locs : List Loc} {ls : Array Slot} {B : Blk} {l1 : Int32} {l2 : Int32}, Wd V A H0 (jb M 12 B) (eS E) H locs → lv_has ls 3 [(0, .ref (vA V 12 0)), (1, .int l1), (2, .int l2)] → k39 l1 l2 B = some (r, B') → Wq E H locs 39 ls []) {H : Heap} {locs : List Loc} {ls : Array Slot} {l1 : Int32} {l2 : Int32} {B : Blk} (hW : Wd V A H0 (jb M 12 B) (eS E) H locs) (hl : lv_has ls 3 [(0, .ref (vA V 12 0)), (1, .int l1), (2, .int l2)]) (hF : FX6_takesNumber_39s k39 l1 l2 B = some (r, B')) : Wq E H locs 39 ls [] := by
  unfold FX6_takesNumber_39s at hF
  refine q_iload_n Cx dX6_takesNumber_39 rfl (lv_at hl 2 rfl) ?_
  refine q_iconst (v := (5 : Int32)) Cx dX6_takesNumber_40 (by decide) ?_
  refine q_icmp_ge (tgt := 92) Cx dX6_takesNumber_41 (by decide) (fun c10 => ?_) (fun c10 => ?_)
  · have hF := (if_pos c10).symm.trans hF
    refine q_iload_n Cx dX6_takesNumber_92 rfl (lv_at hl 1 rfl) ?_
    obtain ⟨rfl, rfl⟩ := Prod.mk.inj (Option.some.inj hF)
    exact hret _ _ _ _ dX6_takesNumber_93 (nI32 _) hW
  · have hF := (if_neg c10).symm.trans hF
    refine q_iload_n Cx dX6_takesNumber_44 rfl (lv_at hl 1 rfl) ?_
    refine q_if_le (tgt := 92) Cx dX6_takesNumber_45 (by decide) (fun c11 => ?_) (fun c11 => ?_)
    · have hF := (if_pos c11).symm.trans hF
      refine q_iload_n Cx dX6_takesNumber_92 rfl (lv_at hl 1 rfl) ?_
      obtain ⟨rfl, rfl⟩ := Prod.mk.inj (Option.some.inj hF)
      exact hret _ _ _ _ dX6_takesNumber_93 (nI32 _) hW
    · have hF := (if_neg c11).symm.trans hF
      refine q_aload_n Cx dX6_takesNumber_48 rfl (lv_at hl 0 rfl) ?_
      refine q_aload_n Cx dX6_takesNumber_49 rfl (lv_at hl 0 rfl) ?_
      refine qb_get (v := .int ((B 0) 17)) Cx hW oZ ic6 17 (by decide) rfl wd_731 dX6_takesNumber_50 ?_
      obtain ⟨r12, e13, hF⟩ := c1_some hF
      refine q_callI (as := [.int ((B 0) 17)]) (rest := []) Cx (kX6_isDigit e13) okX6_isDigit ovX6_isDigit wd_1042 ⟨rfl, rfl, by decide, by decide⟩ hW oZ ic6 rfl hl.1 (Nat.le_of_ble_eq_true rfl) rfl dX6_takesNumber_53 (fun H locs hW => ?_)
      refine q_if_eq (tgt := 92) Cx dX6_takesNumber_56 (by decide) (fun c14 => ?_) (fun c14 => ?_)
      · have hF := (if_pos c14).symm.trans hF
        refine q_iload_n Cx dX6_takesNumber_92 rfl (lv_at hl 1 rfl) ?_
        obtain ⟨rfl, rfl⟩ := Prod.mk.inj (Option.some.inj hF)
        exact hret _ _ _ _ dX6_takesNumber_93 (nI32 _) hW
      · have hF := (if_neg c14).symm.trans hF
        refine q_bipush (v := (10 : Int32)) Cx dX6_takesNumber_59 (by decide) ?_
        refine q_iload_n Cx dX6_takesNumber_61 rfl (lv_at hl 1 rfl) ?_
        refine q_imul Cx dX6_takesNumber_62 ?_
        refine q_aload_n Cx dX6_takesNumber_63 rfl (lv_at hl 0 rfl) ?_
        refine q_aload_n Cx dX6_takesNumber_64 rfl (lv_at hl 0 rfl) ?_
        refine qb_get (v := .int ((B 0) 17)) Cx hW oZ ic6 17 (by decide) rfl wd_731 dX6_takesNumber_65 ?_
        obtain ⟨r15, e16, hF⟩ := c1_some hF
        refine q_callI (as := [.int ((B 0) 17)]) (rest := [.int ((10 : Int32) * l1)]) Cx (kX6_letter e16) okX6_letter ovX6_letter wd_1018 ⟨rfl, rfl, by decide, by decide⟩ hW oZ ic6 rfl hl.1 (Nat.le_of_ble_eq_true rfl) rfl dX6_takesNumber_68 (fun H locs hW => ?_)
        refine q_iadd Cx dX6_takesNumber_71 ?_
        refine q_bipush (v := (48 : Int32)) Cx dX6_takesNumber_72 (by decide) ?_
        refine q_isub Cx dX6_takesNumber_74 ?_
        obtain ⟨x17, e18, hF⟩ := lt1_some hF
        refine q_topi e18 ?_
        refine q_istore_n (lv' := [(1, .int x17), (0, .ref (vA V 12 0)), (2, .int l2)]) Cx dX6_takesNumber_75 rfl hl (by decide) rfl (fun ls hl => ?_)
        refine q_aload_n Cx dX6_takesNumber_76 rfl (lv_at hl 1 rfl) ?_
        refine q_dup Cx dX6_takesNumber_77 rfl ?_
        refine qb_get (v := .int ((B 0) 17)) Cx hW oZ ic6 17 (by decide) rfl wd_731 dX6_takesNumber_78 ?_
        refine q_iconst (v := (1 : Int32)) Cx dX6_takesNumber_81 (by decide) ?_
        refine q_iadd Cx dX6_takesNumber_82 ?_
        obtain ⟨B19, e20, hF⟩ := lt1_some hF
        refine qb_put Cx hW oZ ic6 17 (by decide) (Nat.le_of_ble_eq_true rfl) e20 rfl rfl ⟨nI32 _, rfl⟩ wd_731 dX6_takesNumber_83 (fun H locs hW => ?_)
        obtain ⟨x21, e22, hF⟩ := lt1_some hF
        refine q_iinc (k := 2) (v := x21) (lv' := [(2, .int x21), (1, .int x17), (0, .ref (vA V 12 0))]) Cx dX6_takesNumber_86 hl rfl e22.symm (by decide) rfl (fun ls hl => ?_)
        refine q_goto (tgt := 39) Cx dX6_takesNumber_89 (by decide) ?_
        exact hk39 hW (lv_sub hl [2, 1, 0] rfl) hF
def FX6_takesNumber_39 : Nat → Int32 → Int32 → Blk → Option (Int32 × Blk)
  | 0 => fun _ _ _ => none
  | n + 1 => FX6_takesNumber_39s (FX6_takesNumber_39 n)
set_option maxRecDepth 100000 in
theorem wX6_takesNumber_39 {E : WE} {V : VT} {A : Nat → Prop} {H0 : Heap} {M : Mem} (Cx : CX E RX6 cX6_takesNumber 3 2 42) {r : Int32} {B' : Blk} (hret : RetI E V A H0 cX6_takesNumber .int r (jb M 12 B')) : ∀ (n : Nat) {H : Heap} {locs : List Loc} {ls : Array Slot} {l1 : Int32} {l2 : Int32} {B : Blk}, Wd V A H0 (jb M 12 B) (eS E) H locs → lv_has ls 3 [(0, .ref (vA V 12 0)), (1, .int l1), (2, .int l2)] → FX6_takesNumber_39 n l1 l2 B = some (r, B') → Wq E H locs 39 ls [] := by
  intro n
  induction n with
  | zero => intro _ _ _ _ _ _ hW hl hF; cases hF
  | succ n ih => intro _ _ _ _ _ _ hW hl hF; exact wX6_takesNumber_39s Cx hret ih hW hl hF
def FX6_takesNumber_15 (B : Blk) : Option (Int32 × Blk) :=
  c1 (FX6_letter B ((B 0) 17)) fun r4 =>
  lt1 (r4 - (48 : Int32)) fun x6 =>
  lt1 (bs B 0 17 (((B 0) 17) + (1 : Int32))) fun B8 =>
  FX6_takesNumber_39 fu x6 (1 : Int32) B8
set_option maxRecDepth 100000 in
set_option maxHeartbeats 4000000 in
theorem wX6_takesNumber_15 {E : WE} {V : VT} {A : Nat → Prop} {H0 : Heap} {M : Mem} (Cx : CX E RX6 cX6_takesNumber 3 2 42) {r : Int32} {B' : Blk} (hret : RetI E V A H0 cX6_takesNumber .int r (jb M 12 B')) {H : Heap} {locs : List Loc} {ls : Array Slot} {B : Blk} (hW : Wd V A H0 (jb M 12 B) (eS E) H locs) (hl : lv_has ls 3 [(0, .ref (vA V 12 0))]) (hF : FX6_takesNumber_15 B = some (r, B')) : Wq E H locs 15 ls [] := by
  unfold FX6_takesNumber_15 at hF
  refine q_aload_n Cx dX6_takesNumber_15 rfl (lv_at hl 0 rfl) ?_
  refine q_aload_n Cx dX6_takesNumber_16 rfl (lv_at hl 0 rfl) ?_
  refine qb_get (v := .int ((B 0) 17)) Cx hW oZ ic6 17 (by decide) rfl wd_731 dX6_takesNumber_17 ?_
  obtain ⟨r4, e5, hF⟩ := c1_some hF
  refine q_callI (as := [.int ((B 0) 17)]) (rest := []) Cx (kX6_letter e5) okX6_letter ovX6_letter wd_1018 ⟨rfl, rfl, by decide, by decide⟩ hW oZ ic6 rfl hl.1 (Nat.le_of_ble_eq_true rfl) rfl dX6_takesNumber_20 (fun H locs hW => ?_)
  refine q_bipush (v := (48 : Int32)) Cx dX6_takesNumber_23 (by decide) ?_
  refine q_isub Cx dX6_takesNumber_25 ?_
  obtain ⟨x6, e7, hF⟩ := lt1_some hF
  refine q_topi e7 ?_
  refine q_istore_n (lv' := [(1, .int x6), (0, .ref (vA V 12 0))]) Cx dX6_takesNumber_26 rfl hl (by decide) rfl (fun ls hl => ?_)
  refine q_aload_n Cx dX6_takesNumber_27 rfl (lv_at hl 1 rfl) ?_
  refine q_dup Cx dX6_takesNumber_28 rfl ?_
  refine qb_get (v := .int ((B 0) 17)) Cx hW oZ ic6 17 (by decide) rfl wd_731 dX6_takesNumber_29 ?_
  refine q_iconst (v := (1 : Int32)) Cx dX6_takesNumber_32 (by decide) ?_
  refine q_iadd Cx dX6_takesNumber_33 ?_
  obtain ⟨B8, e9, hF⟩ := lt1_some hF
  refine qb_put Cx hW oZ ic6 17 (by decide) (Nat.le_of_ble_eq_true rfl) e9 rfl rfl ⟨nI32 _, rfl⟩ wd_731 dX6_takesNumber_34 (fun H locs hW => ?_)
  refine q_iconst (v := (1 : Int32)) Cx dX6_takesNumber_37 (by decide) ?_
  refine q_istore_n (lv' := [(2, .int (1 : Int32)), (1, .int x6), (0, .ref (vA V 12 0))]) Cx dX6_takesNumber_38 rfl hl (by decide) rfl (fun ls hl => ?_)
  exact wX6_takesNumber_39 Cx hret fu hW (lv_sub hl [2, 1, 0] rfl) hF
def FX6_takesNumber (B : Blk) : Option (Int32 × Blk) :=
  c1 (FX6_isDigit B ((B 0) 17)) fun r1 =>
  if r1 = 0 then
    c1 (FX6_fail B) fun B25 =>
    FX6_takesNumber_15 B25
  else
    FX6_takesNumber_15 B
set_option maxRecDepth 100000 in
set_option maxHeartbeats 4000000 in
theorem wX6_takesNumber {E : WE} {V : VT} {A : Nat → Prop} {H0 : Heap} {M : Mem} (Cx : CX E RX6 cX6_takesNumber 3 2 42) {r : Int32} {B' : Blk} (hret : RetI E V A H0 cX6_takesNumber .int r (jb M 12 B')) {H : Heap} {locs : List Loc} {ls : Array Slot} {B : Blk} (hW : Wd V A H0 (jb M 12 B) (eS E) H locs) (hl : lv_has ls 3 [(0, .ref (vA V 12 0))]) (hF : FX6_takesNumber B = some (r, B')) : Wq E H locs 0 ls [] := by
  unfold FX6_takesNumber at hF
  refine q_aload_n Cx dX6_takesNumber_0 rfl (lv_at hl 0 rfl) ?_
  refine q_aload_n Cx dX6_takesNumber_1 rfl (lv_at hl 0 rfl) ?_
  refine qb_get (v := .int ((B 0) 17)) Cx hW oZ ic6 17 (by decide) rfl wd_731 dX6_takesNumber_2 ?_
  obtain ⟨r1, e2, hF⟩ := c1_some hF
  refine q_callI (as := [.int ((B 0) 17)]) (rest := []) Cx (kX6_isDigit e2) okX6_isDigit ovX6_isDigit wd_1042 ⟨rfl, rfl, by decide, by decide⟩ hW oZ ic6 rfl hl.1 (Nat.le_of_ble_eq_true rfl) rfl dX6_takesNumber_5 (fun H locs hW => ?_)
  refine q_if_ne (tgt := 15) Cx dX6_takesNumber_8 (by decide) (fun c3 => ?_) (fun c3 => ?_)
  · have hF := (if_neg c3).symm.trans hF
    exact wX6_takesNumber_15 Cx hret hW (lv_sub hl [0] rfl) hF
  · have hF := (if_pos c3).symm.trans hF
    refine q_aload_n Cx dX6_takesNumber_11 rfl (lv_at hl 0 rfl) ?_
    obtain ⟨B25, e24, hF⟩ := c1_some hF
    refine q_callV (as := []) (rest := []) Cx (kX6_fail e24) okX6_fail ovX6_fail wd_1030 ⟨rfl, rfl, by decide, by decide⟩ hW oZ ic6 rfl hl.1 (Nat.le_of_ble_eq_true rfl) rfl dX6_takesNumber_12 (fun H locs hW => ?_)
    exact wX6_takesNumber_15 Cx hret hW (lv_sub hl [0] rfl) hF
set_option maxRecDepth 100000 in
theorem kX6_takesNumber {l : Launch} {V : VT} {M : Mem} {B : Blk} {r : Int32} {B' : Blk} (hF : FX6_takesNumber B = some (r, B')) : MetI l V yX6_takesNumber cX6_takesNumber 3 .int ({ frames := 2, cells := 0, slots := 0, locals := 42 } : Room) [.ref (vA V 12 0)] r (jb M 12 B) (jb M 12 B') := metI_of (by decide) (Nat.le_of_ble_eq_true rfl) (fun E H0 _ Cx hret H locs ls hW hl => wX6_takesNumber Cx hret hW hl hF)
theorem dX6_takesMachine_0 : decode cX6_takesMachine 0 = .ok (.aload_n 0, 1) := by decide +kernel
theorem dX6_takesMachine_1 : decode cX6_takesMachine 1 = .ok (.aload_n 0, 1) := by decide +kernel
theorem dX6_takesMachine_2 : decode cX6_takesMachine 2 = .ok (.getfield 180, 3) := by decide +kernel
theorem dX6_takesMachine_5 : decode cX6_takesMachine 5 = .ok (.invokevirtual 174, 3) := by decide +kernel
theorem dX6_takesMachine_8 : decode cX6_takesMachine 8 = .ok (.bipush 48, 2) := by decide +kernel
theorem dX6_takesMachine_10 : decode cX6_takesMachine 10 = .ok (.if_icmp .lt 16, 3) := by decide +kernel
theorem dX6_takesMachine_13 : decode cX6_takesMachine 13 = .ok (.aload_n 0, 1) := by decide +kernel
theorem dX6_takesMachine_14 : decode cX6_takesMachine 14 = .ok (.aload_n 0, 1) := by decide +kernel
theorem dX6_takesMachine_15 : decode cX6_takesMachine 15 = .ok (.getfield 180, 3) := by decide +kernel
theorem dX6_takesMachine_18 : decode cX6_takesMachine 18 = .ok (.invokevirtual 174, 3) := by decide +kernel
theorem dX6_takesMachine_21 : decode cX6_takesMachine 21 = .ok (.bipush 51, 2) := by decide +kernel
theorem dX6_takesMachine_23 : decode cX6_takesMachine 23 = .ok (.if_icmp .le 7, 3) := by decide +kernel
theorem dX6_takesMachine_26 : decode cX6_takesMachine 26 = .ok (.aload_n 0, 1) := by decide +kernel
theorem dX6_takesMachine_27 : decode cX6_takesMachine 27 = .ok (.invokevirtual 183, 3) := by decide +kernel
theorem dX6_takesMachine_30 : decode cX6_takesMachine 30 = .ok (.aload_n 0, 1) := by decide +kernel
theorem dX6_takesMachine_31 : decode cX6_takesMachine 31 = .ok (.dup, 1) := by decide +kernel
theorem dX6_takesMachine_32 : decode cX6_takesMachine 32 = .ok (.getfield 180, 3) := by decide +kernel
theorem dX6_takesMachine_35 : decode cX6_takesMachine 35 = .ok (.iconst 1, 1) := by decide +kernel
theorem dX6_takesMachine_36 : decode cX6_takesMachine 36 = .ok (.iadd, 1) := by decide +kernel
theorem dX6_takesMachine_37 : decode cX6_takesMachine 37 = .ok (.putfield 180, 3) := by decide +kernel
theorem dX6_takesMachine_40 : decode cX6_takesMachine 40 = .ok (.aload_n 0, 1) := by decide +kernel
theorem dX6_takesMachine_41 : decode cX6_takesMachine 41 = .ok (.aload_n 0, 1) := by decide +kernel
theorem dX6_takesMachine_42 : decode cX6_takesMachine 42 = .ok (.getfield 180, 3) := by decide +kernel
theorem dX6_takesMachine_45 : decode cX6_takesMachine 45 = .ok (.iconst 1, 1) := by decide +kernel
theorem dX6_takesMachine_46 : decode cX6_takesMachine 46 = .ok (.isub, 1) := by decide +kernel
theorem dX6_takesMachine_47 : decode cX6_takesMachine 47 = .ok (.invokevirtual 174, 3) := by decide +kernel
theorem dX6_takesMachine_50 : decode cX6_takesMachine 50 = .ok (.bipush 48, 2) := by decide +kernel
theorem dX6_takesMachine_52 : decode cX6_takesMachine 52 = .ok (.isub, 1) := by decide +kernel
theorem dX6_takesMachine_53 : decode cX6_takesMachine 53 = .ok (.ireturn, 1) := by decide +kernel
theorem okX6_takesMachine : CalOK yX6_takesMachine cX6_takesMachine 1 (some .int) 0 := ⟨wd_73, wd_1029, by decide +kernel⟩
theorem ovX6_takesMachine : VirOK yX6_takesMachine := ⟨wd_1028, wd_59⟩
def FX6_takesMachine_30 (B : Blk) : Option (Int32 × Blk) :=
  lt1 (bs B 0 17 (((B 0) 17) + (1 : Int32))) fun B7 =>
  c1 (FX6_letter B7 (((B7 0) 17) - (1 : Int32))) fun r9 =>
  some ((r9 - (48 : Int32)), B7)
set_option maxRecDepth 100000 in
set_option maxHeartbeats 4000000 in
theorem wX6_takesMachine_30 {E : WE} {V : VT} {A : Nat → Prop} {H0 : Heap} {M : Mem} (Cx : CX E RX6 cX6_takesMachine 1 1 21) {r : Int32} {B' : Blk} (hret : RetI E V A H0 cX6_takesMachine .int r (jb M 12 B')) {H : Heap} {locs : List Loc} {ls : Array Slot} {B : Blk} (hW : Wd V A H0 (jb M 12 B) (eS E) H locs) (hl : lv_has ls 1 [(0, .ref (vA V 12 0))]) (hF : FX6_takesMachine_30 B = some (r, B')) : Wq E H locs 30 ls [] := by
  unfold FX6_takesMachine_30 at hF
  refine q_aload_n Cx dX6_takesMachine_30 rfl (lv_at hl 0 rfl) ?_
  refine q_dup Cx dX6_takesMachine_31 rfl ?_
  refine qb_get (v := .int ((B 0) 17)) Cx hW oZ ic6 17 (by decide) rfl wd_731 dX6_takesMachine_32 ?_
  refine q_iconst (v := (1 : Int32)) Cx dX6_takesMachine_35 (by decide) ?_
  refine q_iadd Cx dX6_takesMachine_36 ?_
  obtain ⟨B7, e8, hF⟩ := lt1_some hF
  refine qb_put Cx hW oZ ic6 17 (by decide) (Nat.le_of_ble_eq_true rfl) e8 rfl rfl ⟨nI32 _, rfl⟩ wd_731 dX6_takesMachine_37 (fun H locs hW => ?_)
  refine q_aload_n Cx dX6_takesMachine_40 rfl (lv_at hl 0 rfl) ?_
  refine q_aload_n Cx dX6_takesMachine_41 rfl (lv_at hl 0 rfl) ?_
  refine qb_get (v := .int ((B7 0) 17)) Cx hW oZ ic6 17 (by decide) rfl wd_731 dX6_takesMachine_42 ?_
  refine q_iconst (v := (1 : Int32)) Cx dX6_takesMachine_45 (by decide) ?_
  refine q_isub Cx dX6_takesMachine_46 ?_
  obtain ⟨r9, e10, hF⟩ := c1_some hF
  refine q_callI (as := [.int (((B7 0) 17) - (1 : Int32))]) (rest := []) Cx (kX6_letter e10) okX6_letter ovX6_letter wd_1018 ⟨rfl, rfl, by decide, by decide⟩ hW oZ ic6 rfl hl.1 (Nat.le_of_ble_eq_true rfl) rfl dX6_takesMachine_47 (fun H locs hW => ?_)
  refine q_bipush (v := (48 : Int32)) Cx dX6_takesMachine_50 (by decide) ?_
  refine q_isub Cx dX6_takesMachine_52 ?_
  obtain ⟨rfl, rfl⟩ := Prod.mk.inj (Option.some.inj hF)
  exact hret _ _ _ _ dX6_takesMachine_53 (nI32 _) hW
def FX6_takesMachine_26 (B : Blk) : Option (Int32 × Blk) :=
  c1 (FX6_fail B) fun B6 =>
  FX6_takesMachine_30 B6
set_option maxRecDepth 100000 in
set_option maxHeartbeats 4000000 in
theorem wX6_takesMachine_26 {E : WE} {V : VT} {A : Nat → Prop} {H0 : Heap} {M : Mem} (Cx : CX E RX6 cX6_takesMachine 1 1 21) {r : Int32} {B' : Blk} (hret : RetI E V A H0 cX6_takesMachine .int r (jb M 12 B')) {H : Heap} {locs : List Loc} {ls : Array Slot} {B : Blk} (hW : Wd V A H0 (jb M 12 B) (eS E) H locs) (hl : lv_has ls 1 [(0, .ref (vA V 12 0))]) (hF : FX6_takesMachine_26 B = some (r, B')) : Wq E H locs 26 ls [] := by
  unfold FX6_takesMachine_26 at hF
  refine q_aload_n Cx dX6_takesMachine_26 rfl (lv_at hl 0 rfl) ?_
  obtain ⟨B6, e5, hF⟩ := c1_some hF
  refine q_callV (as := []) (rest := []) Cx (kX6_fail e5) okX6_fail ovX6_fail wd_1030 ⟨rfl, rfl, by decide, by decide⟩ hW oZ ic6 rfl hl.1 (Nat.le_of_ble_eq_true rfl) rfl dX6_takesMachine_27 (fun H locs hW => ?_)
  exact wX6_takesMachine_30 Cx hret hW (lv_sub hl [0] rfl) hF
def FX6_takesMachine (B : Blk) : Option (Int32 × Blk) :=
  c1 (FX6_letter B ((B 0) 17)) fun r1 =>
  if r1 < (48 : Int32) then
    FX6_takesMachine_26 B
  else
    c1 (FX6_letter B ((B 0) 17)) fun r11 =>
    if r11 ≤ (51 : Int32) then
      FX6_takesMachine_30 B
    else
      FX6_takesMachine_26 B
set_option maxRecDepth 100000 in
set_option maxHeartbeats 4000000 in
theorem wX6_takesMachine {E : WE} {V : VT} {A : Nat → Prop} {H0 : Heap} {M : Mem} (Cx : CX E RX6 cX6_takesMachine 1 1 21) {r : Int32} {B' : Blk} (hret : RetI E V A H0 cX6_takesMachine .int r (jb M 12 B')) {H : Heap} {locs : List Loc} {ls : Array Slot} {B : Blk} (hW : Wd V A H0 (jb M 12 B) (eS E) H locs) (hl : lv_has ls 1 [(0, .ref (vA V 12 0))]) (hF : FX6_takesMachine B = some (r, B')) : Wq E H locs 0 ls [] := by
  unfold FX6_takesMachine at hF
  refine q_aload_n Cx dX6_takesMachine_0 rfl (lv_at hl 0 rfl) ?_
  refine q_aload_n Cx dX6_takesMachine_1 rfl (lv_at hl 0 rfl) ?_
  refine qb_get (v := .int ((B 0) 17)) Cx hW oZ ic6 17 (by decide) rfl wd_731 dX6_takesMachine_2 ?_
  obtain ⟨r1, e2, hF⟩ := c1_some hF
  refine q_callI (as := [.int ((B 0) 17)]) (rest := []) Cx (kX6_letter e2) okX6_letter ovX6_letter wd_1018 ⟨rfl, rfl, by decide, by decide⟩ hW oZ ic6 rfl hl.1 (Nat.le_of_ble_eq_true rfl) rfl dX6_takesMachine_5 (fun H locs hW => ?_)
  refine q_bipush (v := (48 : Int32)) Cx dX6_takesMachine_8 (by decide) ?_
  refine q_icmp_lt (tgt := 26) Cx dX6_takesMachine_10 (by decide) (fun c3 => ?_) (fun c3 => ?_)
  · have hF := (if_pos c3).symm.trans hF
    exact wX6_takesMachine_26 Cx hret hW (lv_sub hl [0] rfl) hF
  · have hF := (if_neg c3).symm.trans hF
    refine q_aload_n Cx dX6_takesMachine_13 rfl (lv_at hl 0 rfl) ?_
    refine q_aload_n Cx dX6_takesMachine_14 rfl (lv_at hl 0 rfl) ?_
    refine qb_get (v := .int ((B 0) 17)) Cx hW oZ ic6 17 (by decide) rfl wd_731 dX6_takesMachine_15 ?_
    obtain ⟨r11, e12, hF⟩ := c1_some hF
    refine q_callI (as := [.int ((B 0) 17)]) (rest := []) Cx (kX6_letter e12) okX6_letter ovX6_letter wd_1018 ⟨rfl, rfl, by decide, by decide⟩ hW oZ ic6 rfl hl.1 (Nat.le_of_ble_eq_true rfl) rfl dX6_takesMachine_18 (fun H locs hW => ?_)
    refine q_bipush (v := (51 : Int32)) Cx dX6_takesMachine_21 (by decide) ?_
    refine q_icmp_le (tgt := 30) Cx dX6_takesMachine_23 (by decide) (fun c13 => ?_) (fun c13 => ?_)
    · have hF := (if_pos c13).symm.trans hF
      exact wX6_takesMachine_30 Cx hret hW (lv_sub hl [0] rfl) hF
    · have hF := (if_neg c13).symm.trans hF
      exact wX6_takesMachine_26 Cx hret hW (lv_sub hl [0] rfl) hF
set_option maxRecDepth 100000 in
theorem kX6_takesMachine {l : Launch} {V : VT} {M : Mem} {B : Blk} {r : Int32} {B' : Blk} (hF : FX6_takesMachine B = some (r, B')) : MetI l V yX6_takesMachine cX6_takesMachine 1 .int ({ frames := 1, cells := 0, slots := 0, locals := 21 } : Room) [.ref (vA V 12 0)] r (jb M 12 B) (jb M 12 B') := metI_of (by decide) (Nat.le_of_ble_eq_true rfl) (fun E H0 _ Cx hret H locs ls hW hl => wX6_takesMachine Cx hret hW hl hF)
theorem dX6_readTask_0 : decode cX6_readTask 0 = .ok (.aload_n 0, 1) := by decide +kernel
theorem dX6_readTask_1 : decode cX6_readTask 1 = .ok (.getfield 46, 3) := by decide +kernel
theorem dX6_readTask_4 : decode cX6_readTask 4 = .ok (.iload_n 1, 1) := by decide +kernel
theorem dX6_readTask_5 : decode cX6_readTask 5 = .ok (.iconst 1, 1) := by decide +kernel
theorem dX6_readTask_6 : decode cX6_readTask 6 = .ok (.iadd, 1) := by decide +kernel
theorem dX6_readTask_7 : decode cX6_readTask 7 = .ok (.aload_n 0, 1) := by decide +kernel
theorem dX6_readTask_8 : decode cX6_readTask 8 = .ok (.invokevirtual 189, 3) := by decide +kernel
theorem dX6_readTask_11 : decode cX6_readTask 11 = .ok (.iastore, 1) := by decide +kernel
theorem dX6_readTask_12 : decode cX6_readTask 12 = .ok (.aload_n 0, 1) := by decide +kernel
theorem dX6_readTask_13 : decode cX6_readTask 13 = .ok (.bipush 47, 2) := by decide +kernel
theorem dX6_readTask_15 : decode cX6_readTask 15 = .ok (.invokevirtual 192, 3) := by decide +kernel
theorem dX6_readTask_18 : decode cX6_readTask 18 = .ok (.aload_n 0, 1) := by decide +kernel
theorem dX6_readTask_19 : decode cX6_readTask 19 = .ok (.getfield 46, 3) := by decide +kernel
theorem dX6_readTask_22 : decode cX6_readTask 22 = .ok (.iload_n 1, 1) := by decide +kernel
theorem dX6_readTask_23 : decode cX6_readTask 23 = .ok (.iconst 2, 1) := by decide +kernel
theorem dX6_readTask_24 : decode cX6_readTask 24 = .ok (.iadd, 1) := by decide +kernel
theorem dX6_readTask_25 : decode cX6_readTask 25 = .ok (.aload_n 0, 1) := by decide +kernel
theorem dX6_readTask_26 : decode cX6_readTask 26 = .ok (.getfield 177, 3) := by decide +kernel
theorem dX6_readTask_29 : decode cX6_readTask 29 = .ok (.bipush (-6), 2) := by decide +kernel
theorem dX6_readTask_31 : decode cX6_readTask 31 = .ok (.if_icmp .ne 10, 3) := by decide +kernel
theorem dX6_readTask_34 : decode cX6_readTask 34 = .ok (.aload_n 0, 1) := by decide +kernel
theorem dX6_readTask_35 : decode cX6_readTask 35 = .ok (.invokevirtual 195, 3) := by decide +kernel
theorem dX6_readTask_38 : decode cX6_readTask 38 = .ok (.goto 4, 3) := by decide +kernel
theorem dX6_readTask_41 : decode cX6_readTask 41 = .ok (.iconst 0, 1) := by decide +kernel
theorem dX6_readTask_42 : decode cX6_readTask 42 = .ok (.iastore, 1) := by decide +kernel
theorem dX6_readTask_43 : decode cX6_readTask 43 = .ok (.aload_n 0, 1) := by decide +kernel
theorem dX6_readTask_44 : decode cX6_readTask 44 = .ok (.bipush 60, 2) := by decide +kernel
theorem dX6_readTask_46 : decode cX6_readTask 46 = .ok (.invokevirtual 192, 3) := by decide +kernel
theorem dX6_readTask_49 : decode cX6_readTask 49 = .ok (.aload_n 0, 1) := by decide +kernel
theorem dX6_readTask_50 : decode cX6_readTask 50 = .ok (.getfield 46, 3) := by decide +kernel
theorem dX6_readTask_53 : decode cX6_readTask 53 = .ok (.iload_n 1, 1) := by decide +kernel
theorem dX6_readTask_54 : decode cX6_readTask 54 = .ok (.iconst 3, 1) := by decide +kernel
theorem dX6_readTask_55 : decode cX6_readTask 55 = .ok (.iadd, 1) := by decide +kernel
theorem dX6_readTask_56 : decode cX6_readTask 56 = .ok (.aload_n 0, 1) := by decide +kernel
theorem dX6_readTask_57 : decode cX6_readTask 57 = .ok (.getfield 177, 3) := by decide +kernel
theorem dX6_readTask_60 : decode cX6_readTask 60 = .ok (.bipush (-6), 2) := by decide +kernel
theorem dX6_readTask_62 : decode cX6_readTask 62 = .ok (.if_icmp .ne 10, 3) := by decide +kernel
theorem dX6_readTask_65 : decode cX6_readTask 65 = .ok (.aload_n 0, 1) := by decide +kernel
theorem dX6_readTask_66 : decode cX6_readTask 66 = .ok (.invokevirtual 195, 3) := by decide +kernel
theorem dX6_readTask_69 : decode cX6_readTask 69 = .ok (.goto 4, 3) := by decide +kernel
theorem dX6_readTask_72 : decode cX6_readTask 72 = .ok (.iconst 0, 1) := by decide +kernel
theorem dX6_readTask_73 : decode cX6_readTask 73 = .ok (.iastore, 1) := by decide +kernel
theorem dX6_readTask_74 : decode cX6_readTask 74 = .ok (.aload_n 0, 1) := by decide +kernel
theorem dX6_readTask_75 : decode cX6_readTask 75 = .ok (.bipush 36, 2) := by decide +kernel
theorem dX6_readTask_77 : decode cX6_readTask 77 = .ok (.invokevirtual 192, 3) := by decide +kernel
theorem dX6_readTask_80 : decode cX6_readTask 80 = .ok (.aload_n 0, 1) := by decide +kernel
theorem dX6_readTask_81 : decode cX6_readTask 81 = .ok (.getfield 46, 3) := by decide +kernel
theorem dX6_readTask_84 : decode cX6_readTask 84 = .ok (.iload_n 1, 1) := by decide +kernel
theorem dX6_readTask_85 : decode cX6_readTask 85 = .ok (.iconst 4, 1) := by decide +kernel
theorem dX6_readTask_86 : decode cX6_readTask 86 = .ok (.iadd, 1) := by decide +kernel
theorem dX6_readTask_87 : decode cX6_readTask 87 = .ok (.aload_n 0, 1) := by decide +kernel
theorem dX6_readTask_88 : decode cX6_readTask 88 = .ok (.getfield 177, 3) := by decide +kernel
theorem dX6_readTask_91 : decode cX6_readTask 91 = .ok (.bipush (-6), 2) := by decide +kernel
theorem dX6_readTask_93 : decode cX6_readTask 93 = .ok (.if_icmp .ne 10, 3) := by decide +kernel
theorem dX6_readTask_96 : decode cX6_readTask 96 = .ok (.aload_n 0, 1) := by decide +kernel
theorem dX6_readTask_97 : decode cX6_readTask 97 = .ok (.invokevirtual 195, 3) := by decide +kernel
theorem dX6_readTask_100 : decode cX6_readTask 100 = .ok (.goto 4, 3) := by decide +kernel
theorem dX6_readTask_103 : decode cX6_readTask 103 = .ok (.iconst 0, 1) := by decide +kernel
theorem dX6_readTask_104 : decode cX6_readTask 104 = .ok (.iastore, 1) := by decide +kernel
theorem dX6_readTask_105 : decode cX6_readTask 105 = .ok (.aload_n 0, 1) := by decide +kernel
theorem dX6_readTask_106 : decode cX6_readTask 106 = .ok (.getfield 46, 3) := by decide +kernel
theorem dX6_readTask_109 : decode cX6_readTask 109 = .ok (.iload_n 1, 1) := by decide +kernel
theorem dX6_readTask_110 : decode cX6_readTask 110 = .ok (.iconst 5, 1) := by decide +kernel
theorem dX6_readTask_111 : decode cX6_readTask 111 = .ok (.iadd, 1) := by decide +kernel
theorem dX6_readTask_112 : decode cX6_readTask 112 = .ok (.bipush (-6), 2) := by decide +kernel
theorem dX6_readTask_114 : decode cX6_readTask 114 = .ok (.iastore, 1) := by decide +kernel
theorem dX6_readTask_115 : decode cX6_readTask 115 = .ok (.aload_n 0, 1) := by decide +kernel
theorem dX6_readTask_116 : decode cX6_readTask 116 = .ok (.getfield 177, 3) := by decide +kernel
theorem dX6_readTask_119 : decode cX6_readTask 119 = .ok (.bipush (-6), 2) := by decide +kernel
theorem dX6_readTask_121 : decode cX6_readTask 121 = .ok (.if_icmp .ne 38, 3) := by decide +kernel
theorem dX6_readTask_124 : decode cX6_readTask 124 = .ok (.aload_n 0, 1) := by decide +kernel
theorem dX6_readTask_125 : decode cX6_readTask 125 = .ok (.aload_n 0, 1) := by decide +kernel
theorem dX6_readTask_126 : decode cX6_readTask 126 = .ok (.getfield 180, 3) := by decide +kernel
theorem dX6_readTask_129 : decode cX6_readTask 129 = .ok (.invokevirtual 174, 3) := by decide +kernel
theorem dX6_readTask_132 : decode cX6_readTask 132 = .ok (.bipush 94, 2) := by decide +kernel
theorem dX6_readTask_134 : decode cX6_readTask 134 = .ok (.if_icmp .ne 25, 3) := by decide +kernel
theorem dX6_readTask_137 : decode cX6_readTask 137 = .ok (.aload_n 0, 1) := by decide +kernel
theorem dX6_readTask_138 : decode cX6_readTask 138 = .ok (.dup, 1) := by decide +kernel
theorem dX6_readTask_139 : decode cX6_readTask 139 = .ok (.getfield 180, 3) := by decide +kernel
theorem dX6_readTask_142 : decode cX6_readTask 142 = .ok (.iconst 1, 1) := by decide +kernel
theorem dX6_readTask_143 : decode cX6_readTask 143 = .ok (.iadd, 1) := by decide +kernel
theorem dX6_readTask_144 : decode cX6_readTask 144 = .ok (.putfield 180, 3) := by decide +kernel
theorem dX6_readTask_147 : decode cX6_readTask 147 = .ok (.aload_n 0, 1) := by decide +kernel
theorem dX6_readTask_148 : decode cX6_readTask 148 = .ok (.getfield 46, 3) := by decide +kernel
theorem dX6_readTask_151 : decode cX6_readTask 151 = .ok (.iload_n 1, 1) := by decide +kernel
theorem dX6_readTask_152 : decode cX6_readTask 152 = .ok (.iconst 5, 1) := by decide +kernel
theorem dX6_readTask_153 : decode cX6_readTask 153 = .ok (.iadd, 1) := by decide +kernel
theorem dX6_readTask_154 : decode cX6_readTask 154 = .ok (.aload_n 0, 1) := by decide +kernel
theorem dX6_readTask_155 : decode cX6_readTask 155 = .ok (.invokevirtual 195, 3) := by decide +kernel
theorem dX6_readTask_158 : decode cX6_readTask 158 = .ok (.iastore, 1) := by decide +kernel
theorem dX6_readTask_159 : decode cX6_readTask 159 = .ok (.return_, 1) := by decide +kernel
theorem okX6_readTask : CalOK yX6_readTask cX6_readTask 2 (none) 1 := ⟨wd_73, wd_1025, by decide +kernel⟩
theorem ovX6_readTask : VirOK yX6_readTask := ⟨wd_1024, wd_58⟩
def FX6_readTask_104 (l1 : Int32) (s0 : Int32) (s1 : Int32) (B : Blk) : Option Blk :=
  stb B 11 252 s1 s0 fun B25 =>
  stb B25 11 252 (l1 + (5 : Int32)) (-6 : Int32) fun B28 =>
  if ((B28 0) 18) = (-6 : Int32) then
    c1 (FX6_letter B28 ((B28 0) 17)) fun r32 =>
    if r32 = (94 : Int32) then
      lt1 (bs B28 0 17 (((B28 0) 17) + (1 : Int32))) fun B35 =>
      c2 (FX6_takesNumber B35) fun r37 B39 =>
      stb B39 11 252 (l1 + (5 : Int32)) r37 fun B40 =>
      some B40
    else
      some B28
  else
    some B28
set_option maxRecDepth 100000 in
set_option maxHeartbeats 4000000 in
theorem wX6_readTask_104 {E : WE} {V : VT} {A : Nat → Prop} {H0 : Heap} {M : Mem} (Cx : CX E RX6 cX6_readTask 2 3 64) {B' : Blk} (hret : RetV E V A H0 cX6_readTask (jb M 12 B')) {H : Heap} {locs : List Loc} {ls : Array Slot} {l1 : Int32} {s0 : Int32} {s1 : Int32} {B : Blk} (hW : Wd V A H0 (jb M 12 B) (eS E) H locs) (hl : lv_has ls 2 [(0, .ref (vA V 12 0)), (1, .int l1)]) (hF : FX6_readTask_104 l1 s0 s1 B = some B') : Wq E H locs 104 ls [.int s0, .int s1, .ref (vA V 12 11)] := by
  unfold FX6_readTask_104 at hF
  obtain ⟨h26, B25, e27, hF⟩ := stb_some hF
  refine qb_iast Cx hW az_11 h26 e27 dX6_readTask_104 (fun H locs hW => ?_)
  refine q_aload_n Cx dX6_readTask_105 rfl (lv_at hl 0 rfl) ?_
  refine q_get (v := .ref (vA V 12 11)) Cx hW oZ ic6 15 (by decide) rfl wd_729 dX6_readTask_106 ?_
  refine q_iload_n Cx dX6_readTask_109 rfl (lv_at hl 1 rfl) ?_
  refine q_iconst (v := (5 : Int32)) Cx dX6_readTask_110 (by decide) ?_
  refine q_iadd Cx dX6_readTask_111 ?_
  refine q_bipush (v := (-6 : Int32)) Cx dX6_readTask_112 (by decide) ?_
  obtain ⟨h29, B28, e30, hF⟩ := stb_some hF
  refine qb_iast Cx hW az_11 h29 e30 dX6_readTask_114 (fun H locs hW => ?_)
  refine q_aload_n Cx dX6_readTask_115 rfl (lv_at hl 0 rfl) ?_
  refine qb_get (v := .int ((B28 0) 18)) Cx hW oZ ic6 18 (by decide) rfl wd_732 dX6_readTask_116 ?_
  refine q_bipush (v := (-6 : Int32)) Cx dX6_readTask_119 (by decide) ?_
  refine q_icmp_ne (tgt := 159) Cx dX6_readTask_121 (by decide) (fun c31 => ?_) (fun c31 => ?_)
  · have hF := (if_neg c31).symm.trans hF
    obtain rfl := Option.some.inj hF
    exact hret _ _ _ _ dX6_readTask_159 hW
  · have hF := (if_pos c31).symm.trans hF
    refine q_aload_n Cx dX6_readTask_124 rfl (lv_at hl 0 rfl) ?_
    refine q_aload_n Cx dX6_readTask_125 rfl (lv_at hl 0 rfl) ?_
    refine qb_get (v := .int ((B28 0) 17)) Cx hW oZ ic6 17 (by decide) rfl wd_731 dX6_readTask_126 ?_
    obtain ⟨r32, e33, hF⟩ := c1_some hF
    refine q_callI (as := [.int ((B28 0) 17)]) (rest := []) Cx (kX6_letter e33) okX6_letter ovX6_letter wd_1018 ⟨rfl, rfl, by decide, by decide⟩ hW oZ ic6 rfl hl.1 (Nat.le_of_ble_eq_true rfl) rfl dX6_readTask_129 (fun H locs hW => ?_)
    refine q_bipush (v := (94 : Int32)) Cx dX6_readTask_132 (by decide) ?_
    refine q_icmp_ne (tgt := 159) Cx dX6_readTask_134 (by decide) (fun c34 => ?_) (fun c34 => ?_)
    · have hF := (if_neg c34).symm.trans hF
      obtain rfl := Option.some.inj hF
      exact hret _ _ _ _ dX6_readTask_159 hW
    · have hF := (if_pos c34).symm.trans hF
      refine q_aload_n Cx dX6_readTask_137 rfl (lv_at hl 0 rfl) ?_
      refine q_dup Cx dX6_readTask_138 rfl ?_
      refine qb_get (v := .int ((B28 0) 17)) Cx hW oZ ic6 17 (by decide) rfl wd_731 dX6_readTask_139 ?_
      refine q_iconst (v := (1 : Int32)) Cx dX6_readTask_142 (by decide) ?_
      refine q_iadd Cx dX6_readTask_143 ?_
      obtain ⟨B35, e36, hF⟩ := lt1_some hF
      refine qb_put Cx hW oZ ic6 17 (by decide) (Nat.le_of_ble_eq_true rfl) e36 rfl rfl ⟨nI32 _, rfl⟩ wd_731 dX6_readTask_144 (fun H locs hW => ?_)
      refine q_aload_n Cx dX6_readTask_147 rfl (lv_at hl 0 rfl) ?_
      refine q_get (v := .ref (vA V 12 11)) Cx hW oZ ic6 15 (by decide) rfl wd_729 dX6_readTask_148 ?_
      refine q_iload_n Cx dX6_readTask_151 rfl (lv_at hl 1 rfl) ?_
      refine q_iconst (v := (5 : Int32)) Cx dX6_readTask_152 (by decide) ?_
      refine q_iadd Cx dX6_readTask_153 ?_
      refine q_aload_n Cx dX6_readTask_154 rfl (lv_at hl 0 rfl) ?_
      obtain ⟨r37, B39, e38, hF⟩ := c2_some hF
      refine q_callI (as := []) (rest := [.int (l1 + (5 : Int32)), .ref (vA V 12 11)]) Cx (kX6_takesNumber e38) okX6_takesNumber ovX6_takesNumber wd_1038 ⟨rfl, rfl, by decide, by decide⟩ hW oZ ic6 rfl hl.1 (Nat.le_of_ble_eq_true rfl) rfl dX6_readTask_155 (fun H locs hW => ?_)
      obtain ⟨h41, B40, e42, hF⟩ := stb_some hF
      refine qb_iast Cx hW az_11 h41 e42 dX6_readTask_158 (fun H locs hW => ?_)
      obtain rfl := Option.some.inj hF
      exact hret _ _ _ _ dX6_readTask_159 hW
def FX6_readTask_73 (l1 : Int32) (s0 : Int32) (s1 : Int32) (B : Blk) : Option Blk :=
  stb B 11 252 s1 s0 fun B18 =>
  c1 (FX6_takes B18 (36 : Int32)) fun B23 =>
  if ((B23 0) 18) = (-6 : Int32) then
    c2 (FX6_takesNumber B23) fun r43 B45 =>
    FX6_readTask_104 l1 r43 (l1 + (4 : Int32)) B45
  else
    FX6_readTask_104 l1 (0 : Int32) (l1 + (4 : Int32)) B23
set_option maxRecDepth 100000 in
set_option maxHeartbeats 4000000 in
theorem wX6_readTask_73 {E : WE} {V : VT} {A : Nat → Prop} {H0 : Heap} {M : Mem} (Cx : CX E RX6 cX6_readTask 2 3 64) {B' : Blk} (hret : RetV E V A H0 cX6_readTask (jb M 12 B')) {H : Heap} {locs : List Loc} {ls : Array Slot} {l1 : Int32} {s0 : Int32} {s1 : Int32} {B : Blk} (hW : Wd V A H0 (jb M 12 B) (eS E) H locs) (hl : lv_has ls 2 [(0, .ref (vA V 12 0)), (1, .int l1)]) (hF : FX6_readTask_73 l1 s0 s1 B = some B') : Wq E H locs 73 ls [.int s0, .int s1, .ref (vA V 12 11)] := by
  unfold FX6_readTask_73 at hF
  obtain ⟨h19, B18, e20, hF⟩ := stb_some hF
  refine qb_iast Cx hW az_11 h19 e20 dX6_readTask_73 (fun H locs hW => ?_)
  refine q_aload_n Cx dX6_readTask_74 rfl (lv_at hl 0 rfl) ?_
  refine q_bipush (v := (36 : Int32)) Cx dX6_readTask_75 (by decide) ?_
  obtain ⟨B23, e22, hF⟩ := c1_some hF
  refine q_callV (as := [.int (36 : Int32)]) (rest := []) Cx (kX6_takes e22) okX6_takes ovX6_takes wd_1034 ⟨rfl, rfl, by decide, by decide⟩ hW oZ ic6 rfl hl.1 (Nat.le_of_ble_eq_true rfl) rfl dX6_readTask_77 (fun H locs hW => ?_)
  refine q_aload_n Cx dX6_readTask_80 rfl (lv_at hl 0 rfl) ?_
  refine q_get (v := .ref (vA V 12 11)) Cx hW oZ ic6 15 (by decide) rfl wd_729 dX6_readTask_81 ?_
  refine q_iload_n Cx dX6_readTask_84 rfl (lv_at hl 1 rfl) ?_
  refine q_iconst (v := (4 : Int32)) Cx dX6_readTask_85 (by decide) ?_
  refine q_iadd Cx dX6_readTask_86 ?_
  refine q_aload_n Cx dX6_readTask_87 rfl (lv_at hl 0 rfl) ?_
  refine qb_get (v := .int ((B23 0) 18)) Cx hW oZ ic6 18 (by decide) rfl wd_732 dX6_readTask_88 ?_
  refine q_bipush (v := (-6 : Int32)) Cx dX6_readTask_91 (by decide) ?_
  refine q_icmp_ne (tgt := 103) Cx dX6_readTask_93 (by decide) (fun c24 => ?_) (fun c24 => ?_)
  · have hF := (if_neg c24).symm.trans hF
    refine q_iconst (v := (0 : Int32)) Cx dX6_readTask_103 (by decide) ?_
    exact wX6_readTask_104 Cx hret hW (lv_sub hl [0, 1] rfl) hF
  · have hF := (if_pos c24).symm.trans hF
    refine q_aload_n Cx dX6_readTask_96 rfl (lv_at hl 0 rfl) ?_
    obtain ⟨r43, B45, e44, hF⟩ := c2_some hF
    refine q_callI (as := []) (rest := [.int (l1 + (4 : Int32)), .ref (vA V 12 11)]) Cx (kX6_takesNumber e44) okX6_takesNumber ovX6_takesNumber wd_1038 ⟨rfl, rfl, by decide, by decide⟩ hW oZ ic6 rfl hl.1 (Nat.le_of_ble_eq_true rfl) rfl dX6_readTask_97 (fun H locs hW => ?_)
    refine q_goto (tgt := 104) Cx dX6_readTask_100 (by decide) ?_
    exact wX6_readTask_104 Cx hret hW (lv_sub hl [0, 1] rfl) hF
def FX6_readTask_42 (l1 : Int32) (s0 : Int32) (s1 : Int32) (B : Blk) : Option Blk :=
  stb B 11 252 s1 s0 fun B11 =>
  c1 (FX6_takes B11 (60 : Int32)) fun B16 =>
  if ((B16 0) 18) = (-6 : Int32) then
    c2 (FX6_takesNumber B16) fun r46 B48 =>
    FX6_readTask_73 l1 r46 (l1 + (3 : Int32)) B48
  else
    FX6_readTask_73 l1 (0 : Int32) (l1 + (3 : Int32)) B16
set_option maxRecDepth 100000 in
set_option maxHeartbeats 4000000 in
theorem wX6_readTask_42 {E : WE} {V : VT} {A : Nat → Prop} {H0 : Heap} {M : Mem} (Cx : CX E RX6 cX6_readTask 2 3 64) {B' : Blk} (hret : RetV E V A H0 cX6_readTask (jb M 12 B')) {H : Heap} {locs : List Loc} {ls : Array Slot} {l1 : Int32} {s0 : Int32} {s1 : Int32} {B : Blk} (hW : Wd V A H0 (jb M 12 B) (eS E) H locs) (hl : lv_has ls 2 [(0, .ref (vA V 12 0)), (1, .int l1)]) (hF : FX6_readTask_42 l1 s0 s1 B = some B') : Wq E H locs 42 ls [.int s0, .int s1, .ref (vA V 12 11)] := by
  unfold FX6_readTask_42 at hF
  obtain ⟨h12, B11, e13, hF⟩ := stb_some hF
  refine qb_iast Cx hW az_11 h12 e13 dX6_readTask_42 (fun H locs hW => ?_)
  refine q_aload_n Cx dX6_readTask_43 rfl (lv_at hl 0 rfl) ?_
  refine q_bipush (v := (60 : Int32)) Cx dX6_readTask_44 (by decide) ?_
  obtain ⟨B16, e15, hF⟩ := c1_some hF
  refine q_callV (as := [.int (60 : Int32)]) (rest := []) Cx (kX6_takes e15) okX6_takes ovX6_takes wd_1034 ⟨rfl, rfl, by decide, by decide⟩ hW oZ ic6 rfl hl.1 (Nat.le_of_ble_eq_true rfl) rfl dX6_readTask_46 (fun H locs hW => ?_)
  refine q_aload_n Cx dX6_readTask_49 rfl (lv_at hl 0 rfl) ?_
  refine q_get (v := .ref (vA V 12 11)) Cx hW oZ ic6 15 (by decide) rfl wd_729 dX6_readTask_50 ?_
  refine q_iload_n Cx dX6_readTask_53 rfl (lv_at hl 1 rfl) ?_
  refine q_iconst (v := (3 : Int32)) Cx dX6_readTask_54 (by decide) ?_
  refine q_iadd Cx dX6_readTask_55 ?_
  refine q_aload_n Cx dX6_readTask_56 rfl (lv_at hl 0 rfl) ?_
  refine qb_get (v := .int ((B16 0) 18)) Cx hW oZ ic6 18 (by decide) rfl wd_732 dX6_readTask_57 ?_
  refine q_bipush (v := (-6 : Int32)) Cx dX6_readTask_60 (by decide) ?_
  refine q_icmp_ne (tgt := 72) Cx dX6_readTask_62 (by decide) (fun c17 => ?_) (fun c17 => ?_)
  · have hF := (if_neg c17).symm.trans hF
    refine q_iconst (v := (0 : Int32)) Cx dX6_readTask_72 (by decide) ?_
    exact wX6_readTask_73 Cx hret hW (lv_sub hl [0, 1] rfl) hF
  · have hF := (if_pos c17).symm.trans hF
    refine q_aload_n Cx dX6_readTask_65 rfl (lv_at hl 0 rfl) ?_
    obtain ⟨r46, B48, e47, hF⟩ := c2_some hF
    refine q_callI (as := []) (rest := [.int (l1 + (3 : Int32)), .ref (vA V 12 11)]) Cx (kX6_takesNumber e47) okX6_takesNumber ovX6_takesNumber wd_1038 ⟨rfl, rfl, by decide, by decide⟩ hW oZ ic6 rfl hl.1 (Nat.le_of_ble_eq_true rfl) rfl dX6_readTask_66 (fun H locs hW => ?_)
    refine q_goto (tgt := 73) Cx dX6_readTask_69 (by decide) ?_
    exact wX6_readTask_73 Cx hret hW (lv_sub hl [0, 1] rfl) hF
def FX6_readTask (B : Blk) (l1 : Int32) : Option Blk :=
  c2 (FX6_takesMachine B) fun r1 B3 =>
  stb B3 11 252 (l1 + (1 : Int32)) r1 fun B4 =>
  c1 (FX6_takes B4 (47 : Int32)) fun B9 =>
  if ((B9 0) 18) = (-6 : Int32) then
    c2 (FX6_takesNumber B9) fun r49 B51 =>
    FX6_readTask_42 l1 r49 (l1 + (2 : Int32)) B51
  else
    FX6_readTask_42 l1 (0 : Int32) (l1 + (2 : Int32)) B9
set_option maxRecDepth 100000 in
set_option maxHeartbeats 4000000 in
theorem wX6_readTask {E : WE} {V : VT} {A : Nat → Prop} {H0 : Heap} {M : Mem} (Cx : CX E RX6 cX6_readTask 2 3 64) {B' : Blk} (hret : RetV E V A H0 cX6_readTask (jb M 12 B')) {H : Heap} {locs : List Loc} {ls : Array Slot} {l1 : Int32} {B : Blk} (hW : Wd V A H0 (jb M 12 B) (eS E) H locs) (hl : lv_has ls 2 [(0, .ref (vA V 12 0)), (1, .int l1)]) (hF : FX6_readTask B l1 = some B') : Wq E H locs 0 ls [] := by
  unfold FX6_readTask at hF
  refine q_aload_n Cx dX6_readTask_0 rfl (lv_at hl 0 rfl) ?_
  refine q_get (v := .ref (vA V 12 11)) Cx hW oZ ic6 15 (by decide) rfl wd_729 dX6_readTask_1 ?_
  refine q_iload_n Cx dX6_readTask_4 rfl (lv_at hl 1 rfl) ?_
  refine q_iconst (v := (1 : Int32)) Cx dX6_readTask_5 (by decide) ?_
  refine q_iadd Cx dX6_readTask_6 ?_
  refine q_aload_n Cx dX6_readTask_7 rfl (lv_at hl 0 rfl) ?_
  obtain ⟨r1, B3, e2, hF⟩ := c2_some hF
  refine q_callI (as := []) (rest := [.int (l1 + (1 : Int32)), .ref (vA V 12 11)]) Cx (kX6_takesMachine e2) okX6_takesMachine ovX6_takesMachine wd_1026 ⟨rfl, rfl, by decide, by decide⟩ hW oZ ic6 rfl hl.1 (Nat.le_of_ble_eq_true rfl) rfl dX6_readTask_8 (fun H locs hW => ?_)
  obtain ⟨h5, B4, e6, hF⟩ := stb_some hF
  refine qb_iast Cx hW az_11 h5 e6 dX6_readTask_11 (fun H locs hW => ?_)
  refine q_aload_n Cx dX6_readTask_12 rfl (lv_at hl 0 rfl) ?_
  refine q_bipush (v := (47 : Int32)) Cx dX6_readTask_13 (by decide) ?_
  obtain ⟨B9, e8, hF⟩ := c1_some hF
  refine q_callV (as := [.int (47 : Int32)]) (rest := []) Cx (kX6_takes e8) okX6_takes ovX6_takes wd_1034 ⟨rfl, rfl, by decide, by decide⟩ hW oZ ic6 rfl hl.1 (Nat.le_of_ble_eq_true rfl) rfl dX6_readTask_15 (fun H locs hW => ?_)
  refine q_aload_n Cx dX6_readTask_18 rfl (lv_at hl 0 rfl) ?_
  refine q_get (v := .ref (vA V 12 11)) Cx hW oZ ic6 15 (by decide) rfl wd_729 dX6_readTask_19 ?_
  refine q_iload_n Cx dX6_readTask_22 rfl (lv_at hl 1 rfl) ?_
  refine q_iconst (v := (2 : Int32)) Cx dX6_readTask_23 (by decide) ?_
  refine q_iadd Cx dX6_readTask_24 ?_
  refine q_aload_n Cx dX6_readTask_25 rfl (lv_at hl 0 rfl) ?_
  refine qb_get (v := .int ((B9 0) 18)) Cx hW oZ ic6 18 (by decide) rfl wd_732 dX6_readTask_26 ?_
  refine q_bipush (v := (-6 : Int32)) Cx dX6_readTask_29 (by decide) ?_
  refine q_icmp_ne (tgt := 41) Cx dX6_readTask_31 (by decide) (fun c10 => ?_) (fun c10 => ?_)
  · have hF := (if_neg c10).symm.trans hF
    refine q_iconst (v := (0 : Int32)) Cx dX6_readTask_41 (by decide) ?_
    exact wX6_readTask_42 Cx hret hW (lv_sub hl [0, 1] rfl) hF
  · have hF := (if_pos c10).symm.trans hF
    refine q_aload_n Cx dX6_readTask_34 rfl (lv_at hl 0 rfl) ?_
    obtain ⟨r49, B51, e50, hF⟩ := c2_some hF
    refine q_callI (as := []) (rest := [.int (l1 + (2 : Int32)), .ref (vA V 12 11)]) Cx (kX6_takesNumber e50) okX6_takesNumber ovX6_takesNumber wd_1038 ⟨rfl, rfl, by decide, by decide⟩ hW oZ ic6 rfl hl.1 (Nat.le_of_ble_eq_true rfl) rfl dX6_readTask_35 (fun H locs hW => ?_)
    refine q_goto (tgt := 42) Cx dX6_readTask_38 (by decide) ?_
    exact wX6_readTask_42 Cx hret hW (lv_sub hl [0, 1] rfl) hF
set_option maxRecDepth 100000 in
theorem kX6_readTask {l : Launch} {V : VT} {M : Mem} {B : Blk} {l1 : Int32} {B' : Blk} (hF : FX6_readTask B l1 = some B') : MetV l V yX6_readTask cX6_readTask 2 ({ frames := 3, cells := 0, slots := 0, locals := 64 } : Room) [.ref (vA V 12 0), .int l1] (jb M 12 B) (jb M 12 B') := metV_of (by decide) (Nat.le_of_ble_eq_true rfl) (fun E H0 _ Cx hret H locs ls hW hl => wX6_readTask Cx hret hW hl hF)
theorem dX6_readTwo_0 : decode cX6_readTwo 0 = .ok (.aload_n 0, 1) := by decide +kernel
theorem dX6_readTwo_1 : decode cX6_readTwo 1 = .ok (.getfield 46, 3) := by decide +kernel
theorem dX6_readTwo_4 : decode cX6_readTwo 4 = .ok (.iload_n 1, 1) := by decide +kernel
theorem dX6_readTwo_5 : decode cX6_readTwo 5 = .ok (.iconst 1, 1) := by decide +kernel
theorem dX6_readTwo_6 : decode cX6_readTwo 6 = .ok (.iadd, 1) := by decide +kernel
theorem dX6_readTwo_7 : decode cX6_readTwo 7 = .ok (.aload_n 0, 1) := by decide +kernel
theorem dX6_readTwo_8 : decode cX6_readTwo 8 = .ok (.invokevirtual 195, 3) := by decide +kernel
theorem dX6_readTwo_11 : decode cX6_readTwo 11 = .ok (.iastore, 1) := by decide +kernel
theorem dX6_readTwo_12 : decode cX6_readTwo 12 = .ok (.aload_n 0, 1) := by decide +kernel
theorem dX6_readTwo_13 : decode cX6_readTwo 13 = .ok (.iload_n 2, 1) := by decide +kernel
theorem dX6_readTwo_14 : decode cX6_readTwo 14 = .ok (.invokevirtual 192, 3) := by decide +kernel
theorem dX6_readTwo_17 : decode cX6_readTwo 17 = .ok (.aload_n 0, 1) := by decide +kernel
theorem dX6_readTwo_18 : decode cX6_readTwo 18 = .ok (.getfield 46, 3) := by decide +kernel
theorem dX6_readTwo_21 : decode cX6_readTwo 21 = .ok (.iload_n 1, 1) := by decide +kernel
theorem dX6_readTwo_22 : decode cX6_readTwo 22 = .ok (.iconst 2, 1) := by decide +kernel
theorem dX6_readTwo_23 : decode cX6_readTwo 23 = .ok (.iadd, 1) := by decide +kernel
theorem dX6_readTwo_24 : decode cX6_readTwo 24 = .ok (.aload_n 0, 1) := by decide +kernel
theorem dX6_readTwo_25 : decode cX6_readTwo 25 = .ok (.getfield 177, 3) := by decide +kernel
theorem dX6_readTwo_28 : decode cX6_readTwo 28 = .ok (.bipush (-6), 2) := by decide +kernel
theorem dX6_readTwo_30 : decode cX6_readTwo 30 = .ok (.if_icmp .ne 10, 3) := by decide +kernel
theorem dX6_readTwo_33 : decode cX6_readTwo 33 = .ok (.aload_n 0, 1) := by decide +kernel
theorem dX6_readTwo_34 : decode cX6_readTwo 34 = .ok (.invokevirtual 195, 3) := by decide +kernel
theorem dX6_readTwo_37 : decode cX6_readTwo 37 = .ok (.goto 4, 3) := by decide +kernel
theorem dX6_readTwo_40 : decode cX6_readTwo 40 = .ok (.iconst 0, 1) := by decide +kernel
theorem dX6_readTwo_41 : decode cX6_readTwo 41 = .ok (.iastore, 1) := by decide +kernel
theorem dX6_readTwo_42 : decode cX6_readTwo 42 = .ok (.return_, 1) := by decide +kernel
theorem okX6_readTwo : CalOK yX6_readTwo cX6_readTwo 3 (none) 2 := ⟨wd_73, wd_1049, by decide +kernel⟩
theorem ovX6_readTwo : VirOK yX6_readTwo := ⟨wd_1048, wd_64⟩
def FX6_readTwo_41 (s0 : Int32) (s1 : Int32) (B : Blk) : Option Blk :=
  stb B 11 252 s1 s0 fun B11 =>
  some B11
set_option maxRecDepth 100000 in
set_option maxHeartbeats 4000000 in
theorem wX6_readTwo_41 {E : WE} {V : VT} {A : Nat → Prop} {H0 : Heap} {M : Mem} (Cx : CX E RX6 cX6_readTwo 3 3 64) {B' : Blk} (hret : RetV E V A H0 cX6_readTwo (jb M 12 B')) {H : Heap} {locs : List Loc} {ls : Array Slot} {s0 : Int32} {s1 : Int32} {B : Blk} (hW : Wd V A H0 (jb M 12 B) (eS E) H locs) (hl : lv_has ls 3 []) (hF : FX6_readTwo_41 s0 s1 B = some B') : Wq E H locs 41 ls [.int s0, .int s1, .ref (vA V 12 11)] := by
  unfold FX6_readTwo_41 at hF
  obtain ⟨h12, B11, e13, hF⟩ := stb_some hF
  refine qb_iast Cx hW az_11 h12 e13 dX6_readTwo_41 (fun H locs hW => ?_)
  obtain rfl := Option.some.inj hF
  exact hret _ _ _ _ dX6_readTwo_42 hW
def FX6_readTwo (B : Blk) (l1 : Int32) (l2 : Int32) : Option Blk :=
  c2 (FX6_takesNumber B) fun r1 B3 =>
  stb B3 11 252 (l1 + (1 : Int32)) r1 fun B4 =>
  c1 (FX6_takes B4 l2) fun B9 =>
  if ((B9 0) 18) = (-6 : Int32) then
    c2 (FX6_takesNumber B9) fun r14 B16 =>
    FX6_readTwo_41 r14 (l1 + (2 : Int32)) B16
  else
    FX6_readTwo_41 (0 : Int32) (l1 + (2 : Int32)) B9
set_option maxRecDepth 100000 in
set_option maxHeartbeats 4000000 in
theorem wX6_readTwo {E : WE} {V : VT} {A : Nat → Prop} {H0 : Heap} {M : Mem} (Cx : CX E RX6 cX6_readTwo 3 3 64) {B' : Blk} (hret : RetV E V A H0 cX6_readTwo (jb M 12 B')) {H : Heap} {locs : List Loc} {ls : Array Slot} {l1 : Int32} {l2 : Int32} {B : Blk} (hW : Wd V A H0 (jb M 12 B) (eS E) H locs) (hl : lv_has ls 3 [(0, .ref (vA V 12 0)), (1, .int l1), (2, .int l2)]) (hF : FX6_readTwo B l1 l2 = some B') : Wq E H locs 0 ls [] := by
  unfold FX6_readTwo at hF
  refine q_aload_n Cx dX6_readTwo_0 rfl (lv_at hl 0 rfl) ?_
  refine q_get (v := .ref (vA V 12 11)) Cx hW oZ ic6 15 (by decide) rfl wd_729 dX6_readTwo_1 ?_
  refine q_iload_n Cx dX6_readTwo_4 rfl (lv_at hl 1 rfl) ?_
  refine q_iconst (v := (1 : Int32)) Cx dX6_readTwo_5 (by decide) ?_
  refine q_iadd Cx dX6_readTwo_6 ?_
  refine q_aload_n Cx dX6_readTwo_7 rfl (lv_at hl 0 rfl) ?_
  obtain ⟨r1, B3, e2, hF⟩ := c2_some hF
  refine q_callI (as := []) (rest := [.int (l1 + (1 : Int32)), .ref (vA V 12 11)]) Cx (kX6_takesNumber e2) okX6_takesNumber ovX6_takesNumber wd_1038 ⟨rfl, rfl, by decide, by decide⟩ hW oZ ic6 rfl hl.1 (Nat.le_of_ble_eq_true rfl) rfl dX6_readTwo_8 (fun H locs hW => ?_)
  obtain ⟨h5, B4, e6, hF⟩ := stb_some hF
  refine qb_iast Cx hW az_11 h5 e6 dX6_readTwo_11 (fun H locs hW => ?_)
  refine q_aload_n Cx dX6_readTwo_12 rfl (lv_at hl 0 rfl) ?_
  refine q_iload_n Cx dX6_readTwo_13 rfl (lv_at hl 2 rfl) ?_
  obtain ⟨B9, e8, hF⟩ := c1_some hF
  refine q_callV (as := [.int l2]) (rest := []) Cx (kX6_takes e8) okX6_takes ovX6_takes wd_1034 ⟨rfl, rfl, by decide, by decide⟩ hW oZ ic6 rfl hl.1 (Nat.le_of_ble_eq_true rfl) rfl dX6_readTwo_14 (fun H locs hW => ?_)
  refine q_aload_n Cx dX6_readTwo_17 rfl (lv_at hl 0 rfl) ?_
  refine q_get (v := .ref (vA V 12 11)) Cx hW oZ ic6 15 (by decide) rfl wd_729 dX6_readTwo_18 ?_
  refine q_iload_n Cx dX6_readTwo_21 rfl (lv_at hl 1 rfl) ?_
  refine q_iconst (v := (2 : Int32)) Cx dX6_readTwo_22 (by decide) ?_
  refine q_iadd Cx dX6_readTwo_23 ?_
  refine q_aload_n Cx dX6_readTwo_24 rfl (lv_at hl 0 rfl) ?_
  refine qb_get (v := .int ((B9 0) 18)) Cx hW oZ ic6 18 (by decide) rfl wd_732 dX6_readTwo_25 ?_
  refine q_bipush (v := (-6 : Int32)) Cx dX6_readTwo_28 (by decide) ?_
  refine q_icmp_ne (tgt := 40) Cx dX6_readTwo_30 (by decide) (fun c10 => ?_) (fun c10 => ?_)
  · have hF := (if_neg c10).symm.trans hF
    refine q_iconst (v := (0 : Int32)) Cx dX6_readTwo_40 (by decide) ?_
    exact wX6_readTwo_41 Cx hret hW (lv_sub hl [] rfl) hF
  · have hF := (if_pos c10).symm.trans hF
    refine q_aload_n Cx dX6_readTwo_33 rfl (lv_at hl 0 rfl) ?_
    obtain ⟨r14, B16, e15, hF⟩ := c2_some hF
    refine q_callI (as := []) (rest := [.int (l1 + (2 : Int32)), .ref (vA V 12 11)]) Cx (kX6_takesNumber e15) okX6_takesNumber ovX6_takesNumber wd_1038 ⟨rfl, rfl, by decide, by decide⟩ hW oZ ic6 rfl hl.1 (Nat.le_of_ble_eq_true rfl) rfl dX6_readTwo_34 (fun H locs hW => ?_)
    refine q_goto (tgt := 41) Cx dX6_readTwo_37 (by decide) ?_
    exact wX6_readTwo_41 Cx hret hW (lv_sub hl [] rfl) hF
set_option maxRecDepth 100000 in
theorem kX6_readTwo {l : Launch} {V : VT} {M : Mem} {B : Blk} {l1 : Int32} {l2 : Int32} {B' : Blk} (hF : FX6_readTwo B l1 l2 = some B') : MetV l V yX6_readTwo cX6_readTwo 3 ({ frames := 3, cells := 0, slots := 0, locals := 64 } : Room) [.ref (vA V 12 0), .int l1, .int l2] (jb M 12 B) (jb M 12 B') := metV_of (by decide) (Nat.le_of_ble_eq_true rfl) (fun E H0 _ Cx hret H locs ls hW hl => wX6_readTwo Cx hret hW hl hF)
theorem dX6_readOrder_0 : decode cX6_readOrder 0 = .ok (.aload_n 0, 1) := by decide +kernel
theorem dX6_readOrder_1 : decode cX6_readOrder 1 = .ok (.aload_n 0, 1) := by decide +kernel
theorem dX6_readOrder_2 : decode cX6_readOrder 2 = .ok (.getfield 180, 3) := by decide +kernel
theorem dX6_readOrder_5 : decode cX6_readOrder 5 = .ok (.invokevirtual 174, 3) := by decide +kernel
theorem dX6_readOrder_8 : decode cX6_readOrder 8 = .ok (.istore_n 2, 1) := by decide +kernel
theorem dX6_readOrder_9 : decode cX6_readOrder 9 = .ok (.aload_n 0, 1) := by decide +kernel
theorem dX6_readOrder_10 : decode cX6_readOrder 10 = .ok (.getfield 46, 3) := by decide +kernel
theorem dX6_readOrder_13 : decode cX6_readOrder 13 = .ok (.iload_n 1, 1) := by decide +kernel
theorem dX6_readOrder_14 : decode cX6_readOrder 14 = .ok (.iload_n 2, 1) := by decide +kernel
theorem dX6_readOrder_15 : decode cX6_readOrder 15 = .ok (.iastore, 1) := by decide +kernel
theorem dX6_readOrder_16 : decode cX6_readOrder 16 = .ok (.iload_n 2, 1) := by decide +kernel
theorem dX6_readOrder_17 : decode cX6_readOrder 17 = .ok (.lookupswitch 201 #[(100, 77), (109, 148), (111, 97), (114, 168), (116, 59), (120, 188)], 59) := by decide +kernel
theorem dX6_readOrder_76 : decode cX6_readOrder 76 = .ok (.aload_n 0, 1) := by decide +kernel
theorem dX6_readOrder_77 : decode cX6_readOrder 77 = .ok (.dup, 1) := by decide +kernel
theorem dX6_readOrder_78 : decode cX6_readOrder 78 = .ok (.getfield 180, 3) := by decide +kernel
theorem dX6_readOrder_81 : decode cX6_readOrder 81 = .ok (.iconst 1, 1) := by decide +kernel
theorem dX6_readOrder_82 : decode cX6_readOrder 82 = .ok (.iadd, 1) := by decide +kernel
theorem dX6_readOrder_83 : decode cX6_readOrder 83 = .ok (.putfield 180, 3) := by decide +kernel
theorem dX6_readOrder_86 : decode cX6_readOrder 86 = .ok (.aload_n 0, 1) := by decide +kernel
theorem dX6_readOrder_87 : decode cX6_readOrder 87 = .ok (.iload_n 1, 1) := by decide +kernel
theorem dX6_readOrder_88 : decode cX6_readOrder 88 = .ok (.invokevirtual 198, 3) := by decide +kernel
theorem dX6_readOrder_91 : decode cX6_readOrder 91 = .ok (.goto 131, 3) := by decide +kernel
theorem dX6_readOrder_94 : decode cX6_readOrder 94 = .ok (.aload_n 0, 1) := by decide +kernel
theorem dX6_readOrder_95 : decode cX6_readOrder 95 = .ok (.dup, 1) := by decide +kernel
theorem dX6_readOrder_96 : decode cX6_readOrder 96 = .ok (.getfield 180, 3) := by decide +kernel
theorem dX6_readOrder_99 : decode cX6_readOrder 99 = .ok (.iconst 1, 1) := by decide +kernel
theorem dX6_readOrder_100 : decode cX6_readOrder 100 = .ok (.iadd, 1) := by decide +kernel
theorem dX6_readOrder_101 : decode cX6_readOrder 101 = .ok (.putfield 180, 3) := by decide +kernel
theorem dX6_readOrder_104 : decode cX6_readOrder 104 = .ok (.aload_n 0, 1) := by decide +kernel
theorem dX6_readOrder_105 : decode cX6_readOrder 105 = .ok (.iload_n 1, 1) := by decide +kernel
theorem dX6_readOrder_106 : decode cX6_readOrder 106 = .ok (.bipush 61, 2) := by decide +kernel
theorem dX6_readOrder_108 : decode cX6_readOrder 108 = .ok (.invokevirtual 201, 3) := by decide +kernel
theorem dX6_readOrder_111 : decode cX6_readOrder 111 = .ok (.goto 111, 3) := by decide +kernel
theorem dX6_readOrder_114 : decode cX6_readOrder 114 = .ok (.aload_n 0, 1) := by decide +kernel
theorem dX6_readOrder_115 : decode cX6_readOrder 115 = .ok (.dup, 1) := by decide +kernel
theorem dX6_readOrder_116 : decode cX6_readOrder 116 = .ok (.getfield 180, 3) := by decide +kernel
theorem dX6_readOrder_119 : decode cX6_readOrder 119 = .ok (.iconst 1, 1) := by decide +kernel
theorem dX6_readOrder_120 : decode cX6_readOrder 120 = .ok (.iadd, 1) := by decide +kernel
theorem dX6_readOrder_121 : decode cX6_readOrder 121 = .ok (.putfield 180, 3) := by decide +kernel
theorem dX6_readOrder_124 : decode cX6_readOrder 124 = .ok (.aload_n 0, 1) := by decide +kernel
theorem dX6_readOrder_125 : decode cX6_readOrder 125 = .ok (.iload_n 1, 1) := by decide +kernel
theorem dX6_readOrder_126 : decode cX6_readOrder 126 = .ok (.bipush 42, 2) := by decide +kernel
theorem dX6_readOrder_128 : decode cX6_readOrder 128 = .ok (.invokevirtual 201, 3) := by decide +kernel
theorem dX6_readOrder_131 : decode cX6_readOrder 131 = .ok (.aload_n 0, 1) := by decide +kernel
theorem dX6_readOrder_132 : decode cX6_readOrder 132 = .ok (.bipush 64, 2) := by decide +kernel
theorem dX6_readOrder_134 : decode cX6_readOrder 134 = .ok (.invokevirtual 192, 3) := by decide +kernel
theorem dX6_readOrder_137 : decode cX6_readOrder 137 = .ok (.aload_n 0, 1) := by decide +kernel
theorem dX6_readOrder_138 : decode cX6_readOrder 138 = .ok (.getfield 46, 3) := by decide +kernel
theorem dX6_readOrder_141 : decode cX6_readOrder 141 = .ok (.iload_n 1, 1) := by decide +kernel
theorem dX6_readOrder_142 : decode cX6_readOrder 142 = .ok (.iconst 3, 1) := by decide +kernel
theorem dX6_readOrder_143 : decode cX6_readOrder 143 = .ok (.iadd, 1) := by decide +kernel
theorem dX6_readOrder_144 : decode cX6_readOrder 144 = .ok (.aload_n 0, 1) := by decide +kernel
theorem dX6_readOrder_145 : decode cX6_readOrder 145 = .ok (.getfield 177, 3) := by decide +kernel
theorem dX6_readOrder_148 : decode cX6_readOrder 148 = .ok (.bipush (-6), 2) := by decide +kernel
theorem dX6_readOrder_150 : decode cX6_readOrder 150 = .ok (.if_icmp .ne 10, 3) := by decide +kernel
theorem dX6_readOrder_153 : decode cX6_readOrder 153 = .ok (.aload_n 0, 1) := by decide +kernel
theorem dX6_readOrder_154 : decode cX6_readOrder 154 = .ok (.invokevirtual 195, 3) := by decide +kernel
theorem dX6_readOrder_157 : decode cX6_readOrder 157 = .ok (.goto 4, 3) := by decide +kernel
theorem dX6_readOrder_160 : decode cX6_readOrder 160 = .ok (.iconst 0, 1) := by decide +kernel
theorem dX6_readOrder_161 : decode cX6_readOrder 161 = .ok (.iastore, 1) := by decide +kernel
theorem dX6_readOrder_162 : decode cX6_readOrder 162 = .ok (.goto 60, 3) := by decide +kernel
theorem dX6_readOrder_165 : decode cX6_readOrder 165 = .ok (.aload_n 0, 1) := by decide +kernel
theorem dX6_readOrder_166 : decode cX6_readOrder 166 = .ok (.dup, 1) := by decide +kernel
theorem dX6_readOrder_167 : decode cX6_readOrder 167 = .ok (.getfield 180, 3) := by decide +kernel
theorem dX6_readOrder_170 : decode cX6_readOrder 170 = .ok (.iconst 1, 1) := by decide +kernel
theorem dX6_readOrder_171 : decode cX6_readOrder 171 = .ok (.iadd, 1) := by decide +kernel
theorem dX6_readOrder_172 : decode cX6_readOrder 172 = .ok (.putfield 180, 3) := by decide +kernel
theorem dX6_readOrder_175 : decode cX6_readOrder 175 = .ok (.aload_n 0, 1) := by decide +kernel
theorem dX6_readOrder_176 : decode cX6_readOrder 176 = .ok (.iload_n 1, 1) := by decide +kernel
theorem dX6_readOrder_177 : decode cX6_readOrder 177 = .ok (.bipush 58, 2) := by decide +kernel
theorem dX6_readOrder_179 : decode cX6_readOrder 179 = .ok (.invokevirtual 201, 3) := by decide +kernel
theorem dX6_readOrder_182 : decode cX6_readOrder 182 = .ok (.goto 40, 3) := by decide +kernel
theorem dX6_readOrder_185 : decode cX6_readOrder 185 = .ok (.aload_n 0, 1) := by decide +kernel
theorem dX6_readOrder_186 : decode cX6_readOrder 186 = .ok (.dup, 1) := by decide +kernel
theorem dX6_readOrder_187 : decode cX6_readOrder 187 = .ok (.getfield 180, 3) := by decide +kernel
theorem dX6_readOrder_190 : decode cX6_readOrder 190 = .ok (.iconst 1, 1) := by decide +kernel
theorem dX6_readOrder_191 : decode cX6_readOrder 191 = .ok (.iadd, 1) := by decide +kernel
theorem dX6_readOrder_192 : decode cX6_readOrder 192 = .ok (.putfield 180, 3) := by decide +kernel
theorem dX6_readOrder_195 : decode cX6_readOrder 195 = .ok (.aload_n 0, 1) := by decide +kernel
theorem dX6_readOrder_196 : decode cX6_readOrder 196 = .ok (.iload_n 1, 1) := by decide +kernel
theorem dX6_readOrder_197 : decode cX6_readOrder 197 = .ok (.bipush 42, 2) := by decide +kernel
theorem dX6_readOrder_199 : decode cX6_readOrder 199 = .ok (.invokevirtual 201, 3) := by decide +kernel
theorem dX6_readOrder_202 : decode cX6_readOrder 202 = .ok (.goto 20, 3) := by decide +kernel
theorem dX6_readOrder_205 : decode cX6_readOrder 205 = .ok (.aload_n 0, 1) := by decide +kernel
theorem dX6_readOrder_206 : decode cX6_readOrder 206 = .ok (.dup, 1) := by decide +kernel
theorem dX6_readOrder_207 : decode cX6_readOrder 207 = .ok (.getfield 180, 3) := by decide +kernel
theorem dX6_readOrder_210 : decode cX6_readOrder 210 = .ok (.iconst 1, 1) := by decide +kernel
theorem dX6_readOrder_211 : decode cX6_readOrder 211 = .ok (.iadd, 1) := by decide +kernel
theorem dX6_readOrder_212 : decode cX6_readOrder 212 = .ok (.putfield 180, 3) := by decide +kernel
theorem dX6_readOrder_215 : decode cX6_readOrder 215 = .ok (.goto 7, 3) := by decide +kernel
theorem dX6_readOrder_218 : decode cX6_readOrder 218 = .ok (.aload_n 0, 1) := by decide +kernel
theorem dX6_readOrder_219 : decode cX6_readOrder 219 = .ok (.invokevirtual 183, 3) := by decide +kernel
theorem dX6_readOrder_222 : decode cX6_readOrder 222 = .ok (.return_, 1) := by decide +kernel
theorem okX6_readOrder : CalOK yX6_readOrder cX6_readOrder 3 (none) 1 := ⟨wd_73, wd_1017, by decide +kernel⟩
theorem ovX6_readOrder : VirOK yX6_readOrder := ⟨wd_1016, wd_56⟩
def FX6_readOrder_161 (s0 : Int32) (s1 : Int32) (B : Blk) : Option Blk :=
  stb B 11 252 s1 s0 fun B28 =>
  some B28
set_option maxRecDepth 100000 in
set_option maxHeartbeats 4000000 in
theorem wX6_readOrder_161 {E : WE} {V : VT} {A : Nat → Prop} {H0 : Heap} {M : Mem} (Cx : CX E RX6 cX6_readOrder 3 4 86) {B' : Blk} (hret : RetV E V A H0 cX6_readOrder (jb M 12 B')) {H : Heap} {locs : List Loc} {ls : Array Slot} {s0 : Int32} {s1 : Int32} {B : Blk} (hW : Wd V A H0 (jb M 12 B) (eS E) H locs) (hl : lv_has ls 3 []) (hF : FX6_readOrder_161 s0 s1 B = some B') : Wq E H locs 161 ls [.int s0, .int s1, .ref (vA V 12 11)] := by
  unfold FX6_readOrder_161 at hF
  obtain ⟨h29, B28, e30, hF⟩ := stb_some hF
  refine qb_iast Cx hW az_11 h29 e30 dX6_readOrder_161 (fun H locs hW => ?_)
  refine q_goto (tgt := 222) Cx dX6_readOrder_162 (by decide) ?_
  obtain rfl := Option.some.inj hF
  exact hret _ _ _ _ dX6_readOrder_222 hW
def FX6_readOrder (B : Blk) (l1 : Int32) : Option Blk :=
  c1 (FX6_letter B ((B 0) 17)) fun r1 =>
  stb B 11 252 l1 r1 fun B3 =>
  if r1 = (100 : Int32) then
    lt1 (bs B3 0 17 (((B3 0) 17) + (1 : Int32))) fun B7 =>
    c1 (FX6_readTwo B7 l1 (61 : Int32)) fun B11 =>
    some B11
  else
    if r1 = (109 : Int32) then
      lt1 (bs B3 0 17 (((B3 0) 17) + (1 : Int32))) fun B13 =>
      c1 (FX6_readTwo B13 l1 (58 : Int32)) fun B17 =>
      some B17
    else
      if r1 = (111 : Int32) then
        lt1 (bs B3 0 17 (((B3 0) 17) + (1 : Int32))) fun B19 =>
        c1 (FX6_readTwo B19 l1 (42 : Int32)) fun B23 =>
        c1 (FX6_takes B23 (64 : Int32)) fun B26 =>
        if ((B26 0) 18) = (-6 : Int32) then
          c2 (FX6_takesNumber B26) fun r31 B33 =>
          FX6_readOrder_161 r31 (l1 + (3 : Int32)) B33
        else
          FX6_readOrder_161 (0 : Int32) (l1 + (3 : Int32)) B26
      else
        if r1 = (114 : Int32) then
          lt1 (bs B3 0 17 (((B3 0) 17) + (1 : Int32))) fun B35 =>
          c1 (FX6_readTwo B35 l1 (42 : Int32)) fun B39 =>
          some B39
        else
          if r1 = (116 : Int32) then
            lt1 (bs B3 0 17 (((B3 0) 17) + (1 : Int32))) fun B41 =>
            c1 (FX6_readTask B41 l1) fun B45 =>
            some B45
          else
            if r1 = (120 : Int32) then
              lt1 (bs B3 0 17 (((B3 0) 17) + (1 : Int32))) fun B47 =>
              some B47
            else
              c1 (FX6_fail B3) fun B51 =>
              some B51
set_option maxRecDepth 100000 in
set_option maxHeartbeats 4000000 in
theorem wX6_readOrder {E : WE} {V : VT} {A : Nat → Prop} {H0 : Heap} {M : Mem} (Cx : CX E RX6 cX6_readOrder 3 4 86) {B' : Blk} (hret : RetV E V A H0 cX6_readOrder (jb M 12 B')) {H : Heap} {locs : List Loc} {ls : Array Slot} {l1 : Int32} {B : Blk} (hW : Wd V A H0 (jb M 12 B) (eS E) H locs) (hl : lv_has ls 3 [(0, .ref (vA V 12 0)), (1, .int l1)]) (hF : FX6_readOrder B l1 = some B') : Wq E H locs 0 ls [] := by
  unfold FX6_readOrder at hF
  refine q_aload_n Cx dX6_readOrder_0 rfl (lv_at hl 0 rfl) ?_
  refine q_aload_n Cx dX6_readOrder_1 rfl (lv_at hl 0 rfl) ?_
  refine qb_get (v := .int ((B 0) 17)) Cx hW oZ ic6 17 (by decide) rfl wd_731 dX6_readOrder_2 ?_
  obtain ⟨r1, e2, hF⟩ := c1_some hF
  refine q_callI (as := [.int ((B 0) 17)]) (rest := []) Cx (kX6_letter e2) okX6_letter ovX6_letter wd_1018 ⟨rfl, rfl, by decide, by decide⟩ hW oZ ic6 rfl hl.1 (Nat.le_of_ble_eq_true rfl) rfl dX6_readOrder_5 (fun H locs hW => ?_)
  refine q_istore_n (lv' := [(2, .int r1), (0, .ref (vA V 12 0)), (1, .int l1)]) Cx dX6_readOrder_8 rfl hl (by decide) rfl (fun ls hl => ?_)
  refine q_aload_n Cx dX6_readOrder_9 rfl (lv_at hl 1 rfl) ?_
  refine q_get (v := .ref (vA V 12 11)) Cx hW oZ ic6 15 (by decide) rfl wd_729 dX6_readOrder_10 ?_
  refine q_iload_n Cx dX6_readOrder_13 rfl (lv_at hl 2 rfl) ?_
  refine q_iload_n Cx dX6_readOrder_14 rfl (lv_at hl 0 rfl) ?_
  obtain ⟨h4, B3, e5, hF⟩ := stb_some hF
  refine qb_iast Cx hW az_11 h4 e5 dX6_readOrder_15 (fun H locs hW => ?_)
  refine q_iload_n Cx dX6_readOrder_16 rfl (lv_at hl 0 rfl) ?_
  by_cases c6 : r1 = (100 : Int32)
  · have hF := (if_pos c6).symm.trans hF
    refine q_lookup (tgt := 94) (off := 77) Cx dX6_readOrder_17 (by decide) (ho := (by rw [c6]; decide)) (by decide) ?_
    refine q_aload_n Cx dX6_readOrder_94 rfl (lv_at hl 1 rfl) ?_
    refine q_dup Cx dX6_readOrder_95 rfl ?_
    refine qb_get (v := .int ((B3 0) 17)) Cx hW oZ ic6 17 (by decide) rfl wd_731 dX6_readOrder_96 ?_
    refine q_iconst (v := (1 : Int32)) Cx dX6_readOrder_99 (by decide) ?_
    refine q_iadd Cx dX6_readOrder_100 ?_
    obtain ⟨B7, e8, hF⟩ := lt1_some hF
    refine qb_put Cx hW oZ ic6 17 (by decide) (Nat.le_of_ble_eq_true rfl) e8 rfl rfl ⟨nI32 _, rfl⟩ wd_731 dX6_readOrder_101 (fun H locs hW => ?_)
    refine q_aload_n Cx dX6_readOrder_104 rfl (lv_at hl 1 rfl) ?_
    refine q_iload_n Cx dX6_readOrder_105 rfl (lv_at hl 2 rfl) ?_
    refine q_bipush (v := (61 : Int32)) Cx dX6_readOrder_106 (by decide) ?_
    obtain ⟨B11, e10, hF⟩ := c1_some hF
    refine q_callV (as := [.int l1, .int (61 : Int32)]) (rest := []) Cx (kX6_readTwo e10) okX6_readTwo ovX6_readTwo wd_1046 ⟨rfl, rfl, by decide, by decide⟩ hW oZ ic6 rfl hl.1 (Nat.le_of_ble_eq_true rfl) rfl dX6_readOrder_108 (fun H locs hW => ?_)
    refine q_goto (tgt := 222) Cx dX6_readOrder_111 (by decide) ?_
    obtain rfl := Option.some.inj hF
    exact hret _ _ _ _ dX6_readOrder_222 hW
  · have hF := (if_neg c6).symm.trans hF
    by_cases c12 : r1 = (109 : Int32)
    · have hF := (if_pos c12).symm.trans hF
      refine q_lookup (tgt := 165) (off := 148) Cx dX6_readOrder_17 (by decide) (ho := (lv_osw c6 (by decide)).trans <| (by rw [c12]; decide)) (by decide) ?_
      refine q_aload_n Cx dX6_readOrder_165 rfl (lv_at hl 1 rfl) ?_
      refine q_dup Cx dX6_readOrder_166 rfl ?_
      refine qb_get (v := .int ((B3 0) 17)) Cx hW oZ ic6 17 (by decide) rfl wd_731 dX6_readOrder_167 ?_
      refine q_iconst (v := (1 : Int32)) Cx dX6_readOrder_170 (by decide) ?_
      refine q_iadd Cx dX6_readOrder_171 ?_
      obtain ⟨B13, e14, hF⟩ := lt1_some hF
      refine qb_put Cx hW oZ ic6 17 (by decide) (Nat.le_of_ble_eq_true rfl) e14 rfl rfl ⟨nI32 _, rfl⟩ wd_731 dX6_readOrder_172 (fun H locs hW => ?_)
      refine q_aload_n Cx dX6_readOrder_175 rfl (lv_at hl 1 rfl) ?_
      refine q_iload_n Cx dX6_readOrder_176 rfl (lv_at hl 2 rfl) ?_
      refine q_bipush (v := (58 : Int32)) Cx dX6_readOrder_177 (by decide) ?_
      obtain ⟨B17, e16, hF⟩ := c1_some hF
      refine q_callV (as := [.int l1, .int (58 : Int32)]) (rest := []) Cx (kX6_readTwo e16) okX6_readTwo ovX6_readTwo wd_1046 ⟨rfl, rfl, by decide, by decide⟩ hW oZ ic6 rfl hl.1 (Nat.le_of_ble_eq_true rfl) rfl dX6_readOrder_179 (fun H locs hW => ?_)
      refine q_goto (tgt := 222) Cx dX6_readOrder_182 (by decide) ?_
      obtain rfl := Option.some.inj hF
      exact hret _ _ _ _ dX6_readOrder_222 hW
    · have hF := (if_neg c12).symm.trans hF
      by_cases c18 : r1 = (111 : Int32)
      · have hF := (if_pos c18).symm.trans hF
        refine q_lookup (tgt := 114) (off := 97) Cx dX6_readOrder_17 (by decide) (ho := (lv_osw c6 (by decide)).trans <| (lv_osw c12 (by decide)).trans <| (by rw [c18]; decide)) (by decide) ?_
        refine q_aload_n Cx dX6_readOrder_114 rfl (lv_at hl 1 rfl) ?_
        refine q_dup Cx dX6_readOrder_115 rfl ?_
        refine qb_get (v := .int ((B3 0) 17)) Cx hW oZ ic6 17 (by decide) rfl wd_731 dX6_readOrder_116 ?_
        refine q_iconst (v := (1 : Int32)) Cx dX6_readOrder_119 (by decide) ?_
        refine q_iadd Cx dX6_readOrder_120 ?_
        obtain ⟨B19, e20, hF⟩ := lt1_some hF
        refine qb_put Cx hW oZ ic6 17 (by decide) (Nat.le_of_ble_eq_true rfl) e20 rfl rfl ⟨nI32 _, rfl⟩ wd_731 dX6_readOrder_121 (fun H locs hW => ?_)
        refine q_aload_n Cx dX6_readOrder_124 rfl (lv_at hl 1 rfl) ?_
        refine q_iload_n Cx dX6_readOrder_125 rfl (lv_at hl 2 rfl) ?_
        refine q_bipush (v := (42 : Int32)) Cx dX6_readOrder_126 (by decide) ?_
        obtain ⟨B23, e22, hF⟩ := c1_some hF
        refine q_callV (as := [.int l1, .int (42 : Int32)]) (rest := []) Cx (kX6_readTwo e22) okX6_readTwo ovX6_readTwo wd_1046 ⟨rfl, rfl, by decide, by decide⟩ hW oZ ic6 rfl hl.1 (Nat.le_of_ble_eq_true rfl) rfl dX6_readOrder_128 (fun H locs hW => ?_)
        refine q_aload_n Cx dX6_readOrder_131 rfl (lv_at hl 1 rfl) ?_
        refine q_bipush (v := (64 : Int32)) Cx dX6_readOrder_132 (by decide) ?_
        obtain ⟨B26, e25, hF⟩ := c1_some hF
        refine q_callV (as := [.int (64 : Int32)]) (rest := []) Cx (kX6_takes e25) okX6_takes ovX6_takes wd_1034 ⟨rfl, rfl, by decide, by decide⟩ hW oZ ic6 rfl hl.1 (Nat.le_of_ble_eq_true rfl) rfl dX6_readOrder_134 (fun H locs hW => ?_)
        refine q_aload_n Cx dX6_readOrder_137 rfl (lv_at hl 1 rfl) ?_
        refine q_get (v := .ref (vA V 12 11)) Cx hW oZ ic6 15 (by decide) rfl wd_729 dX6_readOrder_138 ?_
        refine q_iload_n Cx dX6_readOrder_141 rfl (lv_at hl 2 rfl) ?_
        refine q_iconst (v := (3 : Int32)) Cx dX6_readOrder_142 (by decide) ?_
        refine q_iadd Cx dX6_readOrder_143 ?_
        refine q_aload_n Cx dX6_readOrder_144 rfl (lv_at hl 1 rfl) ?_
        refine qb_get (v := .int ((B26 0) 18)) Cx hW oZ ic6 18 (by decide) rfl wd_732 dX6_readOrder_145 ?_
        refine q_bipush (v := (-6 : Int32)) Cx dX6_readOrder_148 (by decide) ?_
        refine q_icmp_ne (tgt := 160) Cx dX6_readOrder_150 (by decide) (fun c27 => ?_) (fun c27 => ?_)
        · have hF := (if_neg c27).symm.trans hF
          refine q_iconst (v := (0 : Int32)) Cx dX6_readOrder_160 (by decide) ?_
          exact wX6_readOrder_161 Cx hret hW (lv_sub hl [] rfl) hF
        · have hF := (if_pos c27).symm.trans hF
          refine q_aload_n Cx dX6_readOrder_153 rfl (lv_at hl 1 rfl) ?_
          obtain ⟨r31, B33, e32, hF⟩ := c2_some hF
          refine q_callI (as := []) (rest := [.int (l1 + (3 : Int32)), .ref (vA V 12 11)]) Cx (kX6_takesNumber e32) okX6_takesNumber ovX6_takesNumber wd_1038 ⟨rfl, rfl, by decide, by decide⟩ hW oZ ic6 rfl hl.1 (Nat.le_of_ble_eq_true rfl) rfl dX6_readOrder_154 (fun H locs hW => ?_)
          refine q_goto (tgt := 161) Cx dX6_readOrder_157 (by decide) ?_
          exact wX6_readOrder_161 Cx hret hW (lv_sub hl [] rfl) hF
      · have hF := (if_neg c18).symm.trans hF
        by_cases c34 : r1 = (114 : Int32)
        · have hF := (if_pos c34).symm.trans hF
          refine q_lookup (tgt := 185) (off := 168) Cx dX6_readOrder_17 (by decide) (ho := (lv_osw c6 (by decide)).trans <| (lv_osw c12 (by decide)).trans <| (lv_osw c18 (by decide)).trans <| (by rw [c34]; decide)) (by decide) ?_
          refine q_aload_n Cx dX6_readOrder_185 rfl (lv_at hl 1 rfl) ?_
          refine q_dup Cx dX6_readOrder_186 rfl ?_
          refine qb_get (v := .int ((B3 0) 17)) Cx hW oZ ic6 17 (by decide) rfl wd_731 dX6_readOrder_187 ?_
          refine q_iconst (v := (1 : Int32)) Cx dX6_readOrder_190 (by decide) ?_
          refine q_iadd Cx dX6_readOrder_191 ?_
          obtain ⟨B35, e36, hF⟩ := lt1_some hF
          refine qb_put Cx hW oZ ic6 17 (by decide) (Nat.le_of_ble_eq_true rfl) e36 rfl rfl ⟨nI32 _, rfl⟩ wd_731 dX6_readOrder_192 (fun H locs hW => ?_)
          refine q_aload_n Cx dX6_readOrder_195 rfl (lv_at hl 1 rfl) ?_
          refine q_iload_n Cx dX6_readOrder_196 rfl (lv_at hl 2 rfl) ?_
          refine q_bipush (v := (42 : Int32)) Cx dX6_readOrder_197 (by decide) ?_
          obtain ⟨B39, e38, hF⟩ := c1_some hF
          refine q_callV (as := [.int l1, .int (42 : Int32)]) (rest := []) Cx (kX6_readTwo e38) okX6_readTwo ovX6_readTwo wd_1046 ⟨rfl, rfl, by decide, by decide⟩ hW oZ ic6 rfl hl.1 (Nat.le_of_ble_eq_true rfl) rfl dX6_readOrder_199 (fun H locs hW => ?_)
          refine q_goto (tgt := 222) Cx dX6_readOrder_202 (by decide) ?_
          obtain rfl := Option.some.inj hF
          exact hret _ _ _ _ dX6_readOrder_222 hW
        · have hF := (if_neg c34).symm.trans hF
          by_cases c40 : r1 = (116 : Int32)
          · have hF := (if_pos c40).symm.trans hF
            refine q_lookup (tgt := 76) (off := 59) Cx dX6_readOrder_17 (by decide) (ho := (lv_osw c6 (by decide)).trans <| (lv_osw c12 (by decide)).trans <| (lv_osw c18 (by decide)).trans <| (lv_osw c34 (by decide)).trans <| (by rw [c40]; decide)) (by decide) ?_
            refine q_aload_n Cx dX6_readOrder_76 rfl (lv_at hl 1 rfl) ?_
            refine q_dup Cx dX6_readOrder_77 rfl ?_
            refine qb_get (v := .int ((B3 0) 17)) Cx hW oZ ic6 17 (by decide) rfl wd_731 dX6_readOrder_78 ?_
            refine q_iconst (v := (1 : Int32)) Cx dX6_readOrder_81 (by decide) ?_
            refine q_iadd Cx dX6_readOrder_82 ?_
            obtain ⟨B41, e42, hF⟩ := lt1_some hF
            refine qb_put Cx hW oZ ic6 17 (by decide) (Nat.le_of_ble_eq_true rfl) e42 rfl rfl ⟨nI32 _, rfl⟩ wd_731 dX6_readOrder_83 (fun H locs hW => ?_)
            refine q_aload_n Cx dX6_readOrder_86 rfl (lv_at hl 1 rfl) ?_
            refine q_iload_n Cx dX6_readOrder_87 rfl (lv_at hl 2 rfl) ?_
            obtain ⟨B45, e44, hF⟩ := c1_some hF
            refine q_callV (as := [.int l1]) (rest := []) Cx (kX6_readTask e44) okX6_readTask ovX6_readTask wd_1022 ⟨rfl, rfl, by decide, by decide⟩ hW oZ ic6 rfl hl.1 (Nat.le_of_ble_eq_true rfl) rfl dX6_readOrder_88 (fun H locs hW => ?_)
            refine q_goto (tgt := 222) Cx dX6_readOrder_91 (by decide) ?_
            obtain rfl := Option.some.inj hF
            exact hret _ _ _ _ dX6_readOrder_222 hW
          · have hF := (if_neg c40).symm.trans hF
            by_cases c46 : r1 = (120 : Int32)
            · have hF := (if_pos c46).symm.trans hF
              refine q_lookup (tgt := 205) (off := 188) Cx dX6_readOrder_17 (by decide) (ho := (lv_osw c6 (by decide)).trans <| (lv_osw c12 (by decide)).trans <| (lv_osw c18 (by decide)).trans <| (lv_osw c34 (by decide)).trans <| (lv_osw c40 (by decide)).trans <| (by rw [c46]; decide)) (by decide) ?_
              refine q_aload_n Cx dX6_readOrder_205 rfl (lv_at hl 1 rfl) ?_
              refine q_dup Cx dX6_readOrder_206 rfl ?_
              refine qb_get (v := .int ((B3 0) 17)) Cx hW oZ ic6 17 (by decide) rfl wd_731 dX6_readOrder_207 ?_
              refine q_iconst (v := (1 : Int32)) Cx dX6_readOrder_210 (by decide) ?_
              refine q_iadd Cx dX6_readOrder_211 ?_
              obtain ⟨B47, e48, hF⟩ := lt1_some hF
              refine qb_put Cx hW oZ ic6 17 (by decide) (Nat.le_of_ble_eq_true rfl) e48 rfl rfl ⟨nI32 _, rfl⟩ wd_731 dX6_readOrder_212 (fun H locs hW => ?_)
              refine q_goto (tgt := 222) Cx dX6_readOrder_215 (by decide) ?_
              obtain rfl := Option.some.inj hF
              exact hret _ _ _ _ dX6_readOrder_222 hW
            · have hF := (if_neg c46).symm.trans hF
              refine q_lookup (tgt := 218) (off := 201) Cx dX6_readOrder_17 (by decide) (ho := (lv_osw c6 (by decide)).trans <| (lv_osw c12 (by decide)).trans <| (lv_osw c18 (by decide)).trans <| (lv_osw c34 (by decide)).trans <| (lv_osw c40 (by decide)).trans <| (lv_osw c46 (by decide)).trans <| rfl) (by decide) ?_
              refine q_aload_n Cx dX6_readOrder_218 rfl (lv_at hl 1 rfl) ?_
              obtain ⟨B51, e50, hF⟩ := c1_some hF
              refine q_callV (as := []) (rest := []) Cx (kX6_fail e50) okX6_fail ovX6_fail wd_1030 ⟨rfl, rfl, by decide, by decide⟩ hW oZ ic6 rfl hl.1 (Nat.le_of_ble_eq_true rfl) rfl dX6_readOrder_219 (fun H locs hW => ?_)
              obtain rfl := Option.some.inj hF
              exact hret _ _ _ _ dX6_readOrder_222 hW
set_option maxRecDepth 100000 in
theorem kX6_readOrder {l : Launch} {V : VT} {M : Mem} {B : Blk} {l1 : Int32} {B' : Blk} (hF : FX6_readOrder B l1 = some B') : MetV l V yX6_readOrder cX6_readOrder 3 ({ frames := 4, cells := 0, slots := 0, locals := 86 } : Room) [.ref (vA V 12 0), .int l1] (jb M 12 B) (jb M 12 B') := metV_of (by decide) (Nat.le_of_ble_eq_true rfl) (fun E H0 _ Cx hret H locs ls hW hl => wX6_readOrder Cx hret hW hl hF)
theorem dX6_readPad_0 : decode cX6_readPad 0 = .ok (.aload_n 0, 1) := by decide +kernel
theorem dX6_readPad_1 : decode cX6_readPad 1 = .ok (.bipush (-6), 2) := by decide +kernel
theorem dX6_readPad_3 : decode cX6_readPad 3 = .ok (.putfield 177, 3) := by decide +kernel
theorem dX6_readPad_6 : decode cX6_readPad 6 = .ok (.aload_n 0, 1) := by decide +kernel
theorem dX6_readPad_7 : decode cX6_readPad 7 = .ok (.iconst 0, 1) := by decide +kernel
theorem dX6_readPad_8 : decode cX6_readPad 8 = .ok (.putfield 180, 3) := by decide +kernel
theorem dX6_readPad_11 : decode cX6_readPad 11 = .ok (.aload_n 0, 1) := by decide +kernel
theorem dX6_readPad_12 : decode cX6_readPad 12 = .ok (.iconst 0, 1) := by decide +kernel
theorem dX6_readPad_13 : decode cX6_readPad 13 = .ok (.putfield 204, 3) := by decide +kernel
theorem dX6_readPad_16 : decode cX6_readPad 16 = .ok (.iconst 1, 1) := by decide +kernel
theorem dX6_readPad_17 : decode cX6_readPad 17 = .ok (.istore_n 1, 1) := by decide +kernel
theorem dX6_readPad_18 : decode cX6_readPad 18 = .ok (.iload_n 1, 1) := by decide +kernel
theorem dX6_readPad_19 : decode cX6_readPad 19 = .ok (.ifCond .eq 78, 3) := by decide +kernel
theorem dX6_readPad_22 : decode cX6_readPad 22 = .ok (.aload_n 0, 1) := by decide +kernel
theorem dX6_readPad_23 : decode cX6_readPad 23 = .ok (.bipush 6, 2) := by decide +kernel
theorem dX6_readPad_25 : decode cX6_readPad 25 = .ok (.aload_n 0, 1) := by decide +kernel
theorem dX6_readPad_26 : decode cX6_readPad 26 = .ok (.getfield 204, 3) := by decide +kernel
theorem dX6_readPad_29 : decode cX6_readPad 29 = .ok (.imul, 1) := by decide +kernel
theorem dX6_readPad_30 : decode cX6_readPad 30 = .ok (.invokevirtual 207, 3) := by decide +kernel
theorem dX6_readPad_33 : decode cX6_readPad 33 = .ok (.aload_n 0, 1) := by decide +kernel
theorem dX6_readPad_34 : decode cX6_readPad 34 = .ok (.dup, 1) := by decide +kernel
theorem dX6_readPad_35 : decode cX6_readPad 35 = .ok (.getfield 204, 3) := by decide +kernel
theorem dX6_readPad_38 : decode cX6_readPad 38 = .ok (.iconst 1, 1) := by decide +kernel
theorem dX6_readPad_39 : decode cX6_readPad 39 = .ok (.iadd, 1) := by decide +kernel
theorem dX6_readPad_40 : decode cX6_readPad 40 = .ok (.putfield 204, 3) := by decide +kernel
theorem dX6_readPad_43 : decode cX6_readPad 43 = .ok (.aload_n 0, 1) := by decide +kernel
theorem dX6_readPad_44 : decode cX6_readPad 44 = .ok (.getfield 177, 3) := by decide +kernel
theorem dX6_readPad_47 : decode cX6_readPad 47 = .ok (.bipush (-6), 2) := by decide +kernel
theorem dX6_readPad_49 : decode cX6_readPad 49 = .ok (.if_icmp .ne 18, 3) := by decide +kernel
theorem dX6_readPad_52 : decode cX6_readPad 52 = .ok (.aload_n 0, 1) := by decide +kernel
theorem dX6_readPad_53 : decode cX6_readPad 53 = .ok (.getfield 180, 3) := by decide +kernel
theorem dX6_readPad_56 : decode cX6_readPad 56 = .ok (.aload_n 0, 1) := by decide +kernel
theorem dX6_readPad_57 : decode cX6_readPad 57 = .ok (.getfield 162, 3) := by decide +kernel
theorem dX6_readPad_60 : decode cX6_readPad 60 = .ok (.if_icmp .ge 7, 3) := by decide +kernel
theorem dX6_readPad_63 : decode cX6_readPad 63 = .ok (.iconst 1, 1) := by decide +kernel
theorem dX6_readPad_64 : decode cX6_readPad 64 = .ok (.goto 4, 3) := by decide +kernel
theorem dX6_readPad_67 : decode cX6_readPad 67 = .ok (.iconst 0, 1) := by decide +kernel
theorem dX6_readPad_68 : decode cX6_readPad 68 = .ok (.istore_n 1, 1) := by decide +kernel
theorem dX6_readPad_69 : decode cX6_readPad 69 = .ok (.iload_n 1, 1) := by decide +kernel
theorem dX6_readPad_70 : decode cX6_readPad 70 = .ok (.ifCond .eq (-52), 3) := by decide +kernel
theorem dX6_readPad_73 : decode cX6_readPad 73 = .ok (.aload_n 0, 1) := by decide +kernel
theorem dX6_readPad_74 : decode cX6_readPad 74 = .ok (.bipush 59, 2) := by decide +kernel
theorem dX6_readPad_76 : decode cX6_readPad 76 = .ok (.invokevirtual 192, 3) := by decide +kernel
theorem dX6_readPad_79 : decode cX6_readPad 79 = .ok (.aload_n 0, 1) := by decide +kernel
theorem dX6_readPad_80 : decode cX6_readPad 80 = .ok (.getfield 177, 3) := by decide +kernel
theorem dX6_readPad_83 : decode cX6_readPad 83 = .ok (.bipush (-6), 2) := by decide +kernel
theorem dX6_readPad_85 : decode cX6_readPad 85 = .ok (.if_icmp .ne 7, 3) := by decide +kernel
theorem dX6_readPad_88 : decode cX6_readPad 88 = .ok (.iconst 1, 1) := by decide +kernel
theorem dX6_readPad_89 : decode cX6_readPad 89 = .ok (.goto 4, 3) := by decide +kernel
theorem dX6_readPad_92 : decode cX6_readPad 92 = .ok (.iconst 0, 1) := by decide +kernel
theorem dX6_readPad_93 : decode cX6_readPad 93 = .ok (.istore_n 1, 1) := by decide +kernel
theorem dX6_readPad_94 : decode cX6_readPad 94 = .ok (.goto (-76), 3) := by decide +kernel
theorem dX6_readPad_97 : decode cX6_readPad 97 = .ok (.aload_n 0, 1) := by decide +kernel
theorem dX6_readPad_98 : decode cX6_readPad 98 = .ok (.aload_n 0, 1) := by decide +kernel
theorem dX6_readPad_99 : decode cX6_readPad 99 = .ok (.getfield 177, 3) := by decide +kernel
theorem dX6_readPad_102 : decode cX6_readPad 102 = .ok (.aload_n 0, 1) := by decide +kernel
theorem dX6_readPad_103 : decode cX6_readPad 103 = .ok (.getfield 162, 3) := by decide +kernel
theorem dX6_readPad_106 : decode cX6_readPad 106 = .ok (.if_icmp .le 10, 3) := by decide +kernel
theorem dX6_readPad_109 : decode cX6_readPad 109 = .ok (.aload_n 0, 1) := by decide +kernel
theorem dX6_readPad_110 : decode cX6_readPad 110 = .ok (.getfield 162, 3) := by decide +kernel
theorem dX6_readPad_113 : decode cX6_readPad 113 = .ok (.goto 7, 3) := by decide +kernel
theorem dX6_readPad_116 : decode cX6_readPad 116 = .ok (.aload_n 0, 1) := by decide +kernel
theorem dX6_readPad_117 : decode cX6_readPad 117 = .ok (.getfield 177, 3) := by decide +kernel
theorem dX6_readPad_120 : decode cX6_readPad 120 = .ok (.putfield 177, 3) := by decide +kernel
theorem dX6_readPad_123 : decode cX6_readPad 123 = .ok (.return_, 1) := by decide +kernel
theorem okX6_readPad : CalOK yX6_readPad cX6_readPad 2 (none) 0 := ⟨wd_73, wd_1013, by decide +kernel⟩
theorem ovX6_readPad : VirOK yX6_readPad := ⟨wd_1012, wd_55⟩
def FX6_readPad_120 (s0 : Int32) (B : Blk) : Option Blk :=
  lt1 (bs B 0 18 s0) fun B9 =>
  some B9
set_option maxRecDepth 100000 in
set_option maxHeartbeats 4000000 in
theorem wX6_readPad_120 {E : WE} {V : VT} {A : Nat → Prop} {H0 : Heap} {M : Mem} (Cx : CX E RX6 cX6_readPad 2 5 108) {B' : Blk} (hret : RetV E V A H0 cX6_readPad (jb M 12 B')) {H : Heap} {locs : List Loc} {ls : Array Slot} {s0 : Int32} {B : Blk} (hW : Wd V A H0 (jb M 12 B) (eS E) H locs) (hl : lv_has ls 2 []) (hF : FX6_readPad_120 s0 B = some B') : Wq E H locs 120 ls [.int s0, .ref (vA V 12 0)] := by
  unfold FX6_readPad_120 at hF
  obtain ⟨B9, e10, hF⟩ := lt1_some hF
  refine qb_put Cx hW oZ ic6 18 (by decide) (Nat.le_of_ble_eq_true rfl) e10 rfl rfl ⟨nI32 _, rfl⟩ wd_732 dX6_readPad_120 (fun H locs hW => ?_)
  obtain rfl := Option.some.inj hF
  exact hret _ _ _ _ dX6_readPad_123 hW
def FX6_readPad_68 (k18 : Int32 → Blk → Option Blk) (s0 : Int32) (B : Blk) : Option Blk :=
  if s0 = 0 then
    k18 s0 B
  else
    c1 (FX6_takes B (59 : Int32)) fun B20 =>
    if ((B20 0) 18) = (-6 : Int32) then
      k18 (1 : Int32) B20
    else
      k18 (0 : Int32) B20
set_option maxRecDepth 100000 in
set_option maxHeartbeats 4000000 in
theorem wX6_readPad_68 {E : WE} {V : VT} {A : Nat → Prop} {H0 : Heap} {M : Mem} (Cx : CX E RX6 cX6_readPad 2 5 108) {B' : Blk} (hret : RetV E V A H0 cX6_readPad (jb M 12 B')) {k18 : Int32 → Blk → Option Blk} (hk18 : ∀ {H : Heap} {locs : List Loc} {ls : Array Slot} {B : Blk} {l1 : Int32}, Wd V A H0 (jb M 12 B) (eS E) H locs → lv_has ls 2 [(0, .ref (vA V 12 0)), (1, .int l1)] → k18 l1 B = some B' → Wq E H locs 18 ls []) {H : Heap} {locs : List Loc} {ls : Array Slot} {s0 : Int32} {B : Blk} (hW : Wd V A H0 (jb M 12 B) (eS E) H locs) (hl : lv_has ls 2 [(0, .ref (vA V 12 0))]) (hF : FX6_readPad_68 k18 s0 B = some B') : Wq E H locs 68 ls [.int s0] := by
  unfold FX6_readPad_68 at hF
  refine q_istore_n (lv' := [(1, .int s0), (0, .ref (vA V 12 0))]) Cx dX6_readPad_68 rfl hl (by decide) rfl (fun ls hl => ?_)
  refine q_iload_n Cx dX6_readPad_69 rfl (lv_at hl 0 rfl) ?_
  refine q_if_eq (tgt := 18) Cx dX6_readPad_70 (by decide) (fun c17 => ?_) (fun c17 => ?_)
  · have hF := (if_pos c17).symm.trans hF
    exact hk18 hW (lv_sub hl [1, 0] rfl) hF
  · have hF := (if_neg c17).symm.trans hF
    refine q_aload_n Cx dX6_readPad_73 rfl (lv_at hl 1 rfl) ?_
    refine q_bipush (v := (59 : Int32)) Cx dX6_readPad_74 (by decide) ?_
    obtain ⟨B20, e19, hF⟩ := c1_some hF
    refine q_callV (as := [.int (59 : Int32)]) (rest := []) Cx (kX6_takes e19) okX6_takes ovX6_takes wd_1034 ⟨rfl, rfl, by decide, by decide⟩ hW oZ ic6 rfl hl.1 (Nat.le_of_ble_eq_true rfl) rfl dX6_readPad_76 (fun H locs hW => ?_)
    refine q_aload_n Cx dX6_readPad_79 rfl (lv_at hl 1 rfl) ?_
    refine qb_get (v := .int ((B20 0) 18)) Cx hW oZ ic6 18 (by decide) rfl wd_732 dX6_readPad_80 ?_
    refine q_bipush (v := (-6 : Int32)) Cx dX6_readPad_83 (by decide) ?_
    refine q_icmp_ne (tgt := 92) Cx dX6_readPad_85 (by decide) (fun c21 => ?_) (fun c21 => ?_)
    · have hF := (if_neg c21).symm.trans hF
      refine q_iconst (v := (0 : Int32)) Cx dX6_readPad_92 (by decide) ?_
      refine q_istore_n (lv' := [(1, .int (0 : Int32)), (0, .ref (vA V 12 0))]) Cx dX6_readPad_93 rfl hl (by decide) rfl (fun ls hl => ?_)
      refine q_goto (tgt := 18) Cx dX6_readPad_94 (by decide) ?_
      exact hk18 hW (lv_sub hl [1, 0] rfl) hF
    · have hF := (if_pos c21).symm.trans hF
      refine q_iconst (v := (1 : Int32)) Cx dX6_readPad_88 (by decide) ?_
      refine q_goto (tgt := 93) Cx dX6_readPad_89 (by decide) ?_
      refine q_istore_n (lv' := [(1, .int (1 : Int32)), (0, .ref (vA V 12 0))]) Cx dX6_readPad_93 rfl hl (by decide) rfl (fun ls hl => ?_)
      refine q_goto (tgt := 18) Cx dX6_readPad_94 (by decide) ?_
      exact hk18 hW (lv_sub hl [1, 0] rfl) hF
def FX6_readPad_67 (k18 : Int32 → Blk → Option Blk) (B : Blk) : Option Blk :=
  FX6_readPad_68 k18 (0 : Int32) B
set_option maxRecDepth 100000 in
set_option maxHeartbeats 4000000 in
theorem wX6_readPad_67 {E : WE} {V : VT} {A : Nat → Prop} {H0 : Heap} {M : Mem} (Cx : CX E RX6 cX6_readPad 2 5 108) {B' : Blk} (hret : RetV E V A H0 cX6_readPad (jb M 12 B')) {k18 : Int32 → Blk → Option Blk} (hk18 : ∀ {H : Heap} {locs : List Loc} {ls : Array Slot} {B : Blk} {l1 : Int32}, Wd V A H0 (jb M 12 B) (eS E) H locs → lv_has ls 2 [(0, .ref (vA V 12 0)), (1, .int l1)] → k18 l1 B = some B' → Wq E H locs 18 ls []) {H : Heap} {locs : List Loc} {ls : Array Slot} {B : Blk} (hW : Wd V A H0 (jb M 12 B) (eS E) H locs) (hl : lv_has ls 2 [(0, .ref (vA V 12 0))]) (hF : FX6_readPad_67 k18 B = some B') : Wq E H locs 67 ls [] := by
  unfold FX6_readPad_67 at hF
  refine q_iconst (v := (0 : Int32)) Cx dX6_readPad_67 (by decide) ?_
  exact wX6_readPad_68 Cx hret hk18 hW (lv_sub hl [0] rfl) hF
def FX6_readPad_18s (k18 : Int32 → Blk → Option Blk) (l1 : Int32) (B : Blk) : Option Blk :=
  if l1 = 0 then
    if ((B 0) 18) ≤ ((B 0) 8) then
      FX6_readPad_120 ((B 0) 18) B
    else
      FX6_readPad_120 ((B 0) 8) B
  else
    c1 (FX6_readOrder B ((6 : Int32) * ((B 0) 16))) fun B13 =>
    lt1 (bs B13 0 16 (((B13 0) 16) + (1 : Int32))) fun B14 =>
    if ((B14 0) 18) = (-6 : Int32) then
      if ((B14 0) 8) ≤ ((B14 0) 17) then
        FX6_readPad_67 k18 B14
      else
        FX6_readPad_68 k18 (1 : Int32) B14
    else
      FX6_readPad_67 k18 B14
set_option maxRecDepth 100000 in
set_option maxHeartbeats 4000000 in
theorem wX6_readPad_18s {E : WE} {V : VT} {A : Nat → Prop} {H0 : Heap} {M : Mem} (Cx : CX E RX6 cX6_readPad 2 5 108) {B' : Blk} (hret : RetV E V A H0 cX6_readPad (jb M 12 B')) {k18 : Int32 → Blk → Option Blk} (hk18 : ∀ {H : Heap} {locs : List Loc} {ls : Array Slot} {B : Blk} {l1 : Int32}, Wd V A H0 (jb M 12 B) (eS E) H locs → lv_has ls 2 [(0, .ref (vA V 12 0)), (1, .int l1)] → k18 l1 B = some B' → Wq E H locs 18 ls []) {H : Heap} {locs : List Loc} {ls : Array Slot} {l1 : Int32} {B : Blk} (hW : Wd V A H0 (jb M 12 B) (eS E) H locs) (hl : lv_has ls 2 [(0, .ref (vA V 12 0)), (1, .int l1)]) (hF : FX6_readPad_18s k18 l1 B = some B') : Wq E H locs 18 ls [] := by
  unfold FX6_readPad_18s at hF
  refine q_iload_n Cx dX6_readPad_18 rfl (lv_at hl 1 rfl) ?_
  refine q_if_eq (tgt := 97) Cx dX6_readPad_19 (by decide) (fun c7 => ?_) (fun c7 => ?_)
  · have hF := (if_pos c7).symm.trans hF
    refine q_aload_n Cx dX6_readPad_97 rfl (lv_at hl 0 rfl) ?_
    refine q_aload_n Cx dX6_readPad_98 rfl (lv_at hl 0 rfl) ?_
    refine qb_get (v := .int ((B 0) 18)) Cx hW oZ ic6 18 (by decide) rfl wd_732 dX6_readPad_99 ?_
    refine q_aload_n Cx dX6_readPad_102 rfl (lv_at hl 0 rfl) ?_
    refine qb_get (v := .int ((B 0) 8)) Cx hW oZ ic6 8 (by decide) rfl wd_722 dX6_readPad_103 ?_
    refine q_icmp_le (tgt := 116) Cx dX6_readPad_106 (by decide) (fun c8 => ?_) (fun c8 => ?_)
    · have hF := (if_pos c8).symm.trans hF
      refine q_aload_n Cx dX6_readPad_116 rfl (lv_at hl 0 rfl) ?_
      refine qb_get (v := .int ((B 0) 18)) Cx hW oZ ic6 18 (by decide) rfl wd_732 dX6_readPad_117 ?_
      exact wX6_readPad_120 Cx hret hW (lv_sub hl [] rfl) hF
    · have hF := (if_neg c8).symm.trans hF
      refine q_aload_n Cx dX6_readPad_109 rfl (lv_at hl 0 rfl) ?_
      refine qb_get (v := .int ((B 0) 8)) Cx hW oZ ic6 8 (by decide) rfl wd_722 dX6_readPad_110 ?_
      refine q_goto (tgt := 120) Cx dX6_readPad_113 (by decide) ?_
      exact wX6_readPad_120 Cx hret hW (lv_sub hl [] rfl) hF
  · have hF := (if_neg c7).symm.trans hF
    refine q_aload_n Cx dX6_readPad_22 rfl (lv_at hl 0 rfl) ?_
    refine q_bipush (v := (6 : Int32)) Cx dX6_readPad_23 (by decide) ?_
    refine q_aload_n Cx dX6_readPad_25 rfl (lv_at hl 0 rfl) ?_
    refine qb_get (v := .int ((B 0) 16)) Cx hW oZ ic6 16 (by decide) rfl wd_730 dX6_readPad_26 ?_
    refine q_imul Cx dX6_readPad_29 ?_
    obtain ⟨B13, e12, hF⟩ := c1_some hF
    refine q_callV (as := [.int ((6 : Int32) * ((B 0) 16))]) (rest := []) Cx (kX6_readOrder e12) okX6_readOrder ovX6_readOrder wd_1014 ⟨rfl, rfl, by decide, by decide⟩ hW oZ ic6 rfl hl.1 (Nat.le_of_ble_eq_true rfl) rfl dX6_readPad_30 (fun H locs hW => ?_)
    refine q_aload_n Cx dX6_readPad_33 rfl (lv_at hl 0 rfl) ?_
    refine q_dup Cx dX6_readPad_34 rfl ?_
    refine qb_get (v := .int ((B13 0) 16)) Cx hW oZ ic6 16 (by decide) rfl wd_730 dX6_readPad_35 ?_
    refine q_iconst (v := (1 : Int32)) Cx dX6_readPad_38 (by decide) ?_
    refine q_iadd Cx dX6_readPad_39 ?_
    obtain ⟨B14, e15, hF⟩ := lt1_some hF
    refine qb_put Cx hW oZ ic6 16 (by decide) (Nat.le_of_ble_eq_true rfl) e15 rfl rfl ⟨nI32 _, rfl⟩ wd_730 dX6_readPad_40 (fun H locs hW => ?_)
    refine q_aload_n Cx dX6_readPad_43 rfl (lv_at hl 0 rfl) ?_
    refine qb_get (v := .int ((B14 0) 18)) Cx hW oZ ic6 18 (by decide) rfl wd_732 dX6_readPad_44 ?_
    refine q_bipush (v := (-6 : Int32)) Cx dX6_readPad_47 (by decide) ?_
    refine q_icmp_ne (tgt := 67) Cx dX6_readPad_49 (by decide) (fun c16 => ?_) (fun c16 => ?_)
    · have hF := (if_neg c16).symm.trans hF
      exact wX6_readPad_67 Cx hret hk18 hW (lv_sub hl [0] rfl) hF
    · have hF := (if_pos c16).symm.trans hF
      refine q_aload_n Cx dX6_readPad_52 rfl (lv_at hl 0 rfl) ?_
      refine qb_get (v := .int ((B14 0) 17)) Cx hW oZ ic6 17 (by decide) rfl wd_731 dX6_readPad_53 ?_
      refine q_aload_n Cx dX6_readPad_56 rfl (lv_at hl 0 rfl) ?_
      refine qb_get (v := .int ((B14 0) 8)) Cx hW oZ ic6 8 (by decide) rfl wd_722 dX6_readPad_57 ?_
      refine q_icmp_ge (tgt := 67) Cx dX6_readPad_60 (by decide) (fun c22 => ?_) (fun c22 => ?_)
      · have hF := (if_pos c22).symm.trans hF
        exact wX6_readPad_67 Cx hret hk18 hW (lv_sub hl [0] rfl) hF
      · have hF := (if_neg c22).symm.trans hF
        refine q_iconst (v := (1 : Int32)) Cx dX6_readPad_63 (by decide) ?_
        refine q_goto (tgt := 68) Cx dX6_readPad_64 (by decide) ?_
        exact wX6_readPad_68 Cx hret hk18 hW (lv_sub hl [0] rfl) hF
def FX6_readPad_18 : Nat → Int32 → Blk → Option Blk
  | 0 => fun _ _ => none
  | n + 1 => FX6_readPad_18s (FX6_readPad_18 n)
set_option maxRecDepth 100000 in
theorem wX6_readPad_18 {E : WE} {V : VT} {A : Nat → Prop} {H0 : Heap} {M : Mem} (Cx : CX E RX6 cX6_readPad 2 5 108) {B' : Blk} (hret : RetV E V A H0 cX6_readPad (jb M 12 B')) : ∀ (n : Nat) {H : Heap} {locs : List Loc} {ls : Array Slot} {l1 : Int32} {B : Blk}, Wd V A H0 (jb M 12 B) (eS E) H locs → lv_has ls 2 [(0, .ref (vA V 12 0)), (1, .int l1)] → FX6_readPad_18 n l1 B = some B' → Wq E H locs 18 ls [] := by
  intro n
  induction n with
  | zero => intro _ _ _ _ _ hW hl hF; cases hF
  | succ n ih => intro _ _ _ _ _ hW hl hF; exact wX6_readPad_18s Cx hret ih hW hl hF
def FX6_readPad (B : Blk) : Option Blk :=
  lt1 (bs B 0 18 (-6 : Int32)) fun B1 =>
  lt1 (bs B1 0 17 (0 : Int32)) fun B3 =>
  lt1 (bs B3 0 16 (0 : Int32)) fun B5 =>
  FX6_readPad_18 fu (1 : Int32) B5
set_option maxRecDepth 100000 in
set_option maxHeartbeats 4000000 in
theorem wX6_readPad {E : WE} {V : VT} {A : Nat → Prop} {H0 : Heap} {M : Mem} (Cx : CX E RX6 cX6_readPad 2 5 108) {B' : Blk} (hret : RetV E V A H0 cX6_readPad (jb M 12 B')) {H : Heap} {locs : List Loc} {ls : Array Slot} {B : Blk} (hW : Wd V A H0 (jb M 12 B) (eS E) H locs) (hl : lv_has ls 2 [(0, .ref (vA V 12 0))]) (hF : FX6_readPad B = some B') : Wq E H locs 0 ls [] := by
  unfold FX6_readPad at hF
  refine q_aload_n Cx dX6_readPad_0 rfl (lv_at hl 0 rfl) ?_
  refine q_bipush (v := (-6 : Int32)) Cx dX6_readPad_1 (by decide) ?_
  obtain ⟨B1, e2, hF⟩ := lt1_some hF
  refine qb_put Cx hW oZ ic6 18 (by decide) (Nat.le_of_ble_eq_true rfl) e2 rfl rfl ⟨nI32 _, rfl⟩ wd_732 dX6_readPad_3 (fun H locs hW => ?_)
  refine q_aload_n Cx dX6_readPad_6 rfl (lv_at hl 0 rfl) ?_
  refine q_iconst (v := (0 : Int32)) Cx dX6_readPad_7 (by decide) ?_
  obtain ⟨B3, e4, hF⟩ := lt1_some hF
  refine qb_put Cx hW oZ ic6 17 (by decide) (Nat.le_of_ble_eq_true rfl) e4 rfl rfl ⟨nI32 _, rfl⟩ wd_731 dX6_readPad_8 (fun H locs hW => ?_)
  refine q_aload_n Cx dX6_readPad_11 rfl (lv_at hl 0 rfl) ?_
  refine q_iconst (v := (0 : Int32)) Cx dX6_readPad_12 (by decide) ?_
  obtain ⟨B5, e6, hF⟩ := lt1_some hF
  refine qb_put Cx hW oZ ic6 16 (by decide) (Nat.le_of_ble_eq_true rfl) e6 rfl rfl ⟨nI32 _, rfl⟩ wd_730 dX6_readPad_13 (fun H locs hW => ?_)
  refine q_iconst (v := (1 : Int32)) Cx dX6_readPad_16 (by decide) ?_
  refine q_istore_n (lv' := [(1, .int (1 : Int32)), (0, .ref (vA V 12 0))]) Cx dX6_readPad_17 rfl hl (by decide) rfl (fun ls hl => ?_)
  exact wX6_readPad_18 Cx hret fu hW (lv_sub hl [1, 0] rfl) hF
set_option maxRecDepth 100000 in
theorem kX6_readPad {l : Launch} {V : VT} {M : Mem} {B : Blk} {B' : Blk} (hF : FX6_readPad B = some B') : MetV l V yX6_readPad cX6_readPad 2 ({ frames := 5, cells := 0, slots := 0, locals := 108 } : Room) [.ref (vA V 12 0)] (jb M 12 B) (jb M 12 B') := metV_of (by decide) (Nat.le_of_ble_eq_true rfl) (fun E H0 _ Cx hret H locs ls hW hl => wX6_readPad Cx hret hW hl hF)
theorem dX6_fault_0 : decode cX6_fault 0 = .ok (.aload_n 0, 1) := by decide +kernel
theorem dX6_fault_1 : decode cX6_fault 1 = .ok (.invokevirtual 210, 3) := by decide +kernel
theorem dX6_fault_4 : decode cX6_fault 4 = .ok (.aload_n 0, 1) := by decide +kernel
theorem dX6_fault_5 : decode cX6_fault 5 = .ok (.getfield 177, 3) := by decide +kernel
theorem dX6_fault_8 : decode cX6_fault 8 = .ok (.ireturn, 1) := by decide +kernel
theorem okX6_fault : CalOK yX6_fault cX6_fault 1 (some .int) 0 := ⟨wd_73, wd_1009, by decide +kernel⟩
theorem ovX6_fault : VirOK yX6_fault := ⟨wd_1007, wd_1008⟩
def FX6_fault (B : Blk) : Option (Int32 × Blk) :=
  c1 (FX6_readPad B) fun B3 =>
  some (((B3 0) 18), B3)
set_option maxRecDepth 100000 in
set_option maxHeartbeats 4000000 in
theorem wX6_fault {E : WE} {V : VT} {A : Nat → Prop} {H0 : Heap} {M : Mem} (Cx : CX E RX6 cX6_fault 1 6 129) {r : Int32} {B' : Blk} (hret : RetI E V A H0 cX6_fault .int r (jb M 12 B')) {H : Heap} {locs : List Loc} {ls : Array Slot} {B : Blk} (hW : Wd V A H0 (jb M 12 B) (eS E) H locs) (hl : lv_has ls 1 [(0, .ref (vA V 12 0))]) (hF : FX6_fault B = some (r, B')) : Wq E H locs 0 ls [] := by
  unfold FX6_fault at hF
  refine q_aload_n Cx dX6_fault_0 rfl (lv_at hl 0 rfl) ?_
  obtain ⟨B3, e2, hF⟩ := c1_some hF
  refine q_callV (as := []) (rest := []) Cx (kX6_readPad e2) okX6_readPad ovX6_readPad wd_1010 ⟨rfl, rfl, by decide, by decide⟩ hW oZ ic6 rfl hl.1 (Nat.le_of_ble_eq_true rfl) rfl dX6_fault_1 (fun H locs hW => ?_)
  refine q_aload_n Cx dX6_fault_4 rfl (lv_at hl 0 rfl) ?_
  refine qb_get (v := .int ((B3 0) 18)) Cx hW oZ ic6 18 (by decide) rfl wd_732 dX6_fault_5 ?_
  obtain ⟨rfl, rfl⟩ := Prod.mk.inj (Option.some.inj hF)
  exact hret _ _ _ _ dX6_fault_8 (nI32 _) hW
set_option maxRecDepth 100000 in
theorem kX6_fault {l : Launch} {V : VT} {M : Mem} {B : Blk} {r : Int32} {B' : Blk} (hF : FX6_fault B = some (r, B')) : MetI l V yX6_fault cX6_fault 1 .int ({ frames := 6, cells := 0, slots := 0, locals := 129 } : Room) [.ref (vA V 12 0)] r (jb M 12 B) (jb M 12 B') := metI_of (by decide) (Nat.le_of_ble_eq_true rfl) (fun E H0 _ Cx hret H locs ls hW hl => wX6_fault Cx hret hW hl hF)
theorem dX6_does_0 : decode cX6_does 0 = .ok (.aload_n 0, 1) := by decide +kernel
theorem dX6_does_1 : decode cX6_does 1 = .ok (.getfield 46, 3) := by decide +kernel
theorem dX6_does_4 : decode cX6_does 4 = .ok (.iload_n 1, 1) := by decide +kernel
theorem dX6_does_5 : decode cX6_does 5 = .ok (.iconst 1, 1) := by decide +kernel
theorem dX6_does_6 : decode cX6_does 6 = .ok (.iadd, 1) := by decide +kernel
theorem dX6_does_7 : decode cX6_does 7 = .ok (.iaload, 1) := by decide +kernel
theorem dX6_does_8 : decode cX6_does 8 = .ok (.istore_n 2, 1) := by decide +kernel
theorem dX6_does_9 : decode cX6_does 9 = .ok (.aload_n 0, 1) := by decide +kernel
theorem dX6_does_10 : decode cX6_does 10 = .ok (.getfield 46, 3) := by decide +kernel
theorem dX6_does_13 : decode cX6_does 13 = .ok (.iload_n 1, 1) := by decide +kernel
theorem dX6_does_14 : decode cX6_does 14 = .ok (.iconst 2, 1) := by decide +kernel
theorem dX6_does_15 : decode cX6_does 15 = .ok (.iadd, 1) := by decide +kernel
theorem dX6_does_16 : decode cX6_does 16 = .ok (.iaload, 1) := by decide +kernel
theorem dX6_does_17 : decode cX6_does 17 = .ok (.istore_n 3, 1) := by decide +kernel
theorem dX6_does_18 : decode cX6_does 18 = .ok (.aload_n 0, 1) := by decide +kernel
theorem dX6_does_19 : decode cX6_does 19 = .ok (.getfield 46, 3) := by decide +kernel
theorem dX6_does_22 : decode cX6_does 22 = .ok (.iload_n 1, 1) := by decide +kernel
theorem dX6_does_23 : decode cX6_does 23 = .ok (.iaload, 1) := by decide +kernel
theorem dX6_does_24 : decode cX6_does 24 = .ok (.lookupswitch 119 #[(100, 83), (109, 105), (111, 90), (114, 112), (116, 52)], 52) := by decide +kernel
theorem dX6_does_76 : decode cX6_does 76 = .ok (.aload_n 0, 1) := by decide +kernel
theorem dX6_does_77 : decode cX6_does 77 = .ok (.iload_n 2, 1) := by decide +kernel
theorem dX6_does_78 : decode cX6_does 78 = .ok (.iload_n 3, 1) := by decide +kernel
theorem dX6_does_79 : decode cX6_does 79 = .ok (.aload_n 0, 1) := by decide +kernel
theorem dX6_does_80 : decode cX6_does 80 = .ok (.getfield 46, 3) := by decide +kernel
theorem dX6_does_83 : decode cX6_does 83 = .ok (.iload_n 1, 1) := by decide +kernel
theorem dX6_does_84 : decode cX6_does 84 = .ok (.iconst 3, 1) := by decide +kernel
theorem dX6_does_85 : decode cX6_does 85 = .ok (.iadd, 1) := by decide +kernel
theorem dX6_does_86 : decode cX6_does 86 = .ok (.iaload, 1) := by decide +kernel
theorem dX6_does_87 : decode cX6_does 87 = .ok (.aload_n 0, 1) := by decide +kernel
theorem dX6_does_88 : decode cX6_does 88 = .ok (.getfield 46, 3) := by decide +kernel
theorem dX6_does_91 : decode cX6_does 91 = .ok (.iload_n 1, 1) := by decide +kernel
theorem dX6_does_92 : decode cX6_does 92 = .ok (.iconst 4, 1) := by decide +kernel
theorem dX6_does_93 : decode cX6_does 93 = .ok (.iadd, 1) := by decide +kernel
theorem dX6_does_94 : decode cX6_does 94 = .ok (.iaload, 1) := by decide +kernel
theorem dX6_does_95 : decode cX6_does 95 = .ok (.aload_n 0, 1) := by decide +kernel
theorem dX6_does_96 : decode cX6_does 96 = .ok (.getfield 46, 3) := by decide +kernel
theorem dX6_does_99 : decode cX6_does 99 = .ok (.iload_n 1, 1) := by decide +kernel
theorem dX6_does_100 : decode cX6_does 100 = .ok (.iconst 5, 1) := by decide +kernel
theorem dX6_does_101 : decode cX6_does 101 = .ok (.iadd, 1) := by decide +kernel
theorem dX6_does_102 : decode cX6_does 102 = .ok (.iaload, 1) := by decide +kernel
theorem dX6_does_103 : decode cX6_does 103 = .ok (.invokevirtual 213, 3) := by decide +kernel
theorem dX6_does_106 : decode cX6_does 106 = .ok (.ireturn, 1) := by decide +kernel
theorem dX6_does_107 : decode cX6_does 107 = .ok (.aload_n 0, 1) := by decide +kernel
theorem dX6_does_108 : decode cX6_does 108 = .ok (.iload_n 2, 1) := by decide +kernel
theorem dX6_does_109 : decode cX6_does 109 = .ok (.iload_n 3, 1) := by decide +kernel
theorem dX6_does_110 : decode cX6_does 110 = .ok (.invokevirtual 217, 3) := by decide +kernel
theorem dX6_does_113 : decode cX6_does 113 = .ok (.ireturn, 1) := by decide +kernel
theorem dX6_does_114 : decode cX6_does 114 = .ok (.aload_n 0, 1) := by decide +kernel
theorem dX6_does_115 : decode cX6_does 115 = .ok (.iload_n 2, 1) := by decide +kernel
theorem dX6_does_116 : decode cX6_does 116 = .ok (.iload_n 3, 1) := by decide +kernel
theorem dX6_does_117 : decode cX6_does 117 = .ok (.aload_n 0, 1) := by decide +kernel
theorem dX6_does_118 : decode cX6_does 118 = .ok (.getfield 46, 3) := by decide +kernel
theorem dX6_does_121 : decode cX6_does 121 = .ok (.iload_n 1, 1) := by decide +kernel
theorem dX6_does_122 : decode cX6_does 122 = .ok (.iconst 3, 1) := by decide +kernel
theorem dX6_does_123 : decode cX6_does 123 = .ok (.iadd, 1) := by decide +kernel
theorem dX6_does_124 : decode cX6_does 124 = .ok (.iaload, 1) := by decide +kernel
theorem dX6_does_125 : decode cX6_does 125 = .ok (.invokevirtual 220, 3) := by decide +kernel
theorem dX6_does_128 : decode cX6_does 128 = .ok (.ireturn, 1) := by decide +kernel
theorem dX6_does_129 : decode cX6_does 129 = .ok (.aload_n 0, 1) := by decide +kernel
theorem dX6_does_130 : decode cX6_does 130 = .ok (.iload_n 2, 1) := by decide +kernel
theorem dX6_does_131 : decode cX6_does 131 = .ok (.iload_n 3, 1) := by decide +kernel
theorem dX6_does_132 : decode cX6_does 132 = .ok (.invokevirtual 224, 3) := by decide +kernel
theorem dX6_does_135 : decode cX6_does 135 = .ok (.ireturn, 1) := by decide +kernel
theorem dX6_does_136 : decode cX6_does 136 = .ok (.aload_n 0, 1) := by decide +kernel
theorem dX6_does_137 : decode cX6_does 137 = .ok (.iload_n 2, 1) := by decide +kernel
theorem dX6_does_138 : decode cX6_does 138 = .ok (.iload_n 3, 1) := by decide +kernel
theorem dX6_does_139 : decode cX6_does 139 = .ok (.invokevirtual 227, 3) := by decide +kernel
theorem dX6_does_142 : decode cX6_does 142 = .ok (.ireturn, 1) := by decide +kernel
theorem dX6_does_143 : decode cX6_does 143 = .ok (.aload_n 0, 1) := by decide +kernel
theorem dX6_does_144 : decode cX6_does 144 = .ok (.invokevirtual 230, 3) := by decide +kernel
theorem dX6_does_147 : decode cX6_does 147 = .ok (.ireturn, 1) := by decide +kernel
theorem okX6_does : CalOK yX6_does cX6_does 4 (some .int) 1 := ⟨wd_73, wd_1057, by decide +kernel⟩
theorem ovX6_does : VirOK yX6_does := ⟨wd_1056, wd_65⟩
def FX6_does (B : Blk) (l1 : Int32) : Option (Int32 × Blk) :=
  ld (B 11) 252 (l1 + (1 : Int32)) fun v1 =>
  ld (B 11) 252 (l1 + (2 : Int32)) fun v4 =>
  ld (B 11) 252 l1 fun v7 =>
  if v7 = (100 : Int32) then
    c2 (FX6_duration B v1 v4) fun r11 B13 =>
    some (r11, B13)
  else
    if v7 = (109 : Int32) then
      c2 (FX6_move B v1 v4) fun r15 B17 =>
      some (r15, B17)
    else
      if v7 = (111 : Int32) then
        ld (B 11) 252 (l1 + (3 : Int32)) fun v19 =>
        c2 (FX6_offer B v1 v4 v19) fun r22 B24 =>
        some (r22, B24)
      else
        if v7 = (114 : Int32) then
          c2 (FX6_refund B v1 v4) fun r26 B28 =>
          some (r26, B28)
        else
          if v7 = (116 : Int32) then
            ld (B 11) 252 (l1 + (3 : Int32)) fun v30 =>
            ld (B 11) 252 (l1 + (4 : Int32)) fun v33 =>
            ld (B 11) 252 (l1 + (5 : Int32)) fun v36 =>
            c2 (FX6_task B v1 v4 v30 v33 v36) fun r39 B41 =>
            some (r39, B41)
          else
            c2 (FX6_trade B) fun r42 B44 =>
            some (r42, B44)
set_option maxRecDepth 100000 in
set_option maxHeartbeats 4000000 in
theorem wX6_does {E : WE} {V : VT} {A : Nat → Prop} {H0 : Heap} {M : Mem} (Cx : CX E RX6 cX6_does 4 5 116) {r : Int32} {B' : Blk} (hret : RetI E V A H0 cX6_does .int r (jb M 12 B')) {H : Heap} {locs : List Loc} {ls : Array Slot} {l1 : Int32} {B : Blk} (hW : Wd V A H0 (jb M 12 B) (eS E) H locs) (hl : lv_has ls 4 [(0, .ref (vA V 12 0)), (1, .int l1)]) (hF : FX6_does B l1 = some (r, B')) : Wq E H locs 0 ls [] := by
  unfold FX6_does at hF
  refine q_aload_n Cx dX6_does_0 rfl (lv_at hl 0 rfl) ?_
  refine q_get (v := .ref (vA V 12 11)) Cx hW oZ ic6 15 (by decide) rfl wd_729 dX6_does_1 ?_
  refine q_iload_n Cx dX6_does_4 rfl (lv_at hl 1 rfl) ?_
  refine q_iconst (v := (1 : Int32)) Cx dX6_does_5 (by decide) ?_
  refine q_iadd Cx dX6_does_6 ?_
  obtain ⟨h2, v1, e3, hF⟩ := ld_some hF
  refine qb_iald Cx hW az_11 h2 e3 dX6_does_7 ?_
  refine q_istore_n (lv' := [(2, .int v1), (0, .ref (vA V 12 0)), (1, .int l1)]) Cx dX6_does_8 rfl hl (by decide) rfl (fun ls hl => ?_)
  refine q_aload_n Cx dX6_does_9 rfl (lv_at hl 1 rfl) ?_
  refine q_get (v := .ref (vA V 12 11)) Cx hW oZ ic6 15 (by decide) rfl wd_729 dX6_does_10 ?_
  refine q_iload_n Cx dX6_does_13 rfl (lv_at hl 2 rfl) ?_
  refine q_iconst (v := (2 : Int32)) Cx dX6_does_14 (by decide) ?_
  refine q_iadd Cx dX6_does_15 ?_
  obtain ⟨h5, v4, e6, hF⟩ := ld_some hF
  refine qb_iald Cx hW az_11 h5 e6 dX6_does_16 ?_
  refine q_istore_n (lv' := [(3, .int v4), (2, .int v1), (0, .ref (vA V 12 0)), (1, .int l1)]) Cx dX6_does_17 rfl hl (by decide) rfl (fun ls hl => ?_)
  refine q_aload_n Cx dX6_does_18 rfl (lv_at hl 2 rfl) ?_
  refine q_get (v := .ref (vA V 12 11)) Cx hW oZ ic6 15 (by decide) rfl wd_729 dX6_does_19 ?_
  refine q_iload_n Cx dX6_does_22 rfl (lv_at hl 3 rfl) ?_
  obtain ⟨h8, v7, e9, hF⟩ := ld_some hF
  refine qb_iald Cx hW az_11 h8 e9 dX6_does_23 ?_
  by_cases c10 : v7 = (100 : Int32)
  · have hF := (if_pos c10).symm.trans hF
    refine q_lookup (tgt := 107) (off := 83) Cx dX6_does_24 (by decide) (ho := (by rw [c10]; decide)) (by decide) ?_
    refine q_aload_n Cx dX6_does_107 rfl (lv_at hl 2 rfl) ?_
    refine q_iload_n Cx dX6_does_108 rfl (lv_at hl 1 rfl) ?_
    refine q_iload_n Cx dX6_does_109 rfl (lv_at hl 0 rfl) ?_
    obtain ⟨r11, B13, e12, hF⟩ := c2_some hF
    refine q_callI (as := [.int v1, .int v4]) (rest := []) Cx (kX6_duration e12) okX6_duration ovX6_duration wd_1059 ⟨rfl, rfl, by decide, by decide⟩ hW oZ ic6 rfl hl.1 (Nat.le_of_ble_eq_true rfl) rfl dX6_does_110 (fun H locs hW => ?_)
    obtain ⟨rfl, rfl⟩ := Prod.mk.inj (Option.some.inj hF)
    exact hret _ _ _ _ dX6_does_113 (nI32 _) hW
  · have hF := (if_neg c10).symm.trans hF
    by_cases c14 : v7 = (109 : Int32)
    · have hF := (if_pos c14).symm.trans hF
      refine q_lookup (tgt := 129) (off := 105) Cx dX6_does_24 (by decide) (ho := (lv_osw c10 (by decide)).trans <| (by rw [c14]; decide)) (by decide) ?_
      refine q_aload_n Cx dX6_does_129 rfl (lv_at hl 2 rfl) ?_
      refine q_iload_n Cx dX6_does_130 rfl (lv_at hl 1 rfl) ?_
      refine q_iload_n Cx dX6_does_131 rfl (lv_at hl 0 rfl) ?_
      obtain ⟨r15, B17, e16, hF⟩ := c2_some hF
      refine q_callI (as := [.int v1, .int v4]) (rest := []) Cx (kX6_move e16) okX6_move ovX6_move wd_1061 ⟨rfl, rfl, by decide, by decide⟩ hW oZ ic6 rfl hl.1 (Nat.le_of_ble_eq_true rfl) rfl dX6_does_132 (fun H locs hW => ?_)
      obtain ⟨rfl, rfl⟩ := Prod.mk.inj (Option.some.inj hF)
      exact hret _ _ _ _ dX6_does_135 (nI32 _) hW
    · have hF := (if_neg c14).symm.trans hF
      by_cases c18 : v7 = (111 : Int32)
      · have hF := (if_pos c18).symm.trans hF
        refine q_lookup (tgt := 114) (off := 90) Cx dX6_does_24 (by decide) (ho := (lv_osw c10 (by decide)).trans <| (lv_osw c14 (by decide)).trans <| (by rw [c18]; decide)) (by decide) ?_
        refine q_aload_n Cx dX6_does_114 rfl (lv_at hl 2 rfl) ?_
        refine q_iload_n Cx dX6_does_115 rfl (lv_at hl 1 rfl) ?_
        refine q_iload_n Cx dX6_does_116 rfl (lv_at hl 0 rfl) ?_
        refine q_aload_n Cx dX6_does_117 rfl (lv_at hl 2 rfl) ?_
        refine q_get (v := .ref (vA V 12 11)) Cx hW oZ ic6 15 (by decide) rfl wd_729 dX6_does_118 ?_
        refine q_iload_n Cx dX6_does_121 rfl (lv_at hl 3 rfl) ?_
        refine q_iconst (v := (3 : Int32)) Cx dX6_does_122 (by decide) ?_
        refine q_iadd Cx dX6_does_123 ?_
        obtain ⟨h20, v19, e21, hF⟩ := ld_some hF
        refine qb_iald Cx hW az_11 h20 e21 dX6_does_124 ?_
        obtain ⟨r22, B24, e23, hF⟩ := c2_some hF
        refine q_callI (as := [.int v1, .int v4, .int v19]) (rest := []) Cx (kX6_offer e23) okX6_offer ovX6_offer wd_1060 ⟨rfl, rfl, by decide, by decide⟩ hW oZ ic6 rfl hl.1 (Nat.le_of_ble_eq_true rfl) rfl dX6_does_125 (fun H locs hW => ?_)
        obtain ⟨rfl, rfl⟩ := Prod.mk.inj (Option.some.inj hF)
        exact hret _ _ _ _ dX6_does_128 (nI32 _) hW
      · have hF := (if_neg c18).symm.trans hF
        by_cases c25 : v7 = (114 : Int32)
        · have hF := (if_pos c25).symm.trans hF
          refine q_lookup (tgt := 136) (off := 112) Cx dX6_does_24 (by decide) (ho := (lv_osw c10 (by decide)).trans <| (lv_osw c14 (by decide)).trans <| (lv_osw c18 (by decide)).trans <| (by rw [c25]; decide)) (by decide) ?_
          refine q_aload_n Cx dX6_does_136 rfl (lv_at hl 2 rfl) ?_
          refine q_iload_n Cx dX6_does_137 rfl (lv_at hl 1 rfl) ?_
          refine q_iload_n Cx dX6_does_138 rfl (lv_at hl 0 rfl) ?_
          obtain ⟨r26, B28, e27, hF⟩ := c2_some hF
          refine q_callI (as := [.int v1, .int v4]) (rest := []) Cx (kX6_refund e27) okX6_refund ovX6_refund wd_1062 ⟨rfl, rfl, by decide, by decide⟩ hW oZ ic6 rfl hl.1 (Nat.le_of_ble_eq_true rfl) rfl dX6_does_139 (fun H locs hW => ?_)
          obtain ⟨rfl, rfl⟩ := Prod.mk.inj (Option.some.inj hF)
          exact hret _ _ _ _ dX6_does_142 (nI32 _) hW
        · have hF := (if_neg c25).symm.trans hF
          by_cases c29 : v7 = (116 : Int32)
          · have hF := (if_pos c29).symm.trans hF
            refine q_lookup (tgt := 76) (off := 52) Cx dX6_does_24 (by decide) (ho := (lv_osw c10 (by decide)).trans <| (lv_osw c14 (by decide)).trans <| (lv_osw c18 (by decide)).trans <| (lv_osw c25 (by decide)).trans <| (by rw [c29]; decide)) (by decide) ?_
            refine q_aload_n Cx dX6_does_76 rfl (lv_at hl 2 rfl) ?_
            refine q_iload_n Cx dX6_does_77 rfl (lv_at hl 1 rfl) ?_
            refine q_iload_n Cx dX6_does_78 rfl (lv_at hl 0 rfl) ?_
            refine q_aload_n Cx dX6_does_79 rfl (lv_at hl 2 rfl) ?_
            refine q_get (v := .ref (vA V 12 11)) Cx hW oZ ic6 15 (by decide) rfl wd_729 dX6_does_80 ?_
            refine q_iload_n Cx dX6_does_83 rfl (lv_at hl 3 rfl) ?_
            refine q_iconst (v := (3 : Int32)) Cx dX6_does_84 (by decide) ?_
            refine q_iadd Cx dX6_does_85 ?_
            obtain ⟨h31, v30, e32, hF⟩ := ld_some hF
            refine qb_iald Cx hW az_11 h31 e32 dX6_does_86 ?_
            refine q_aload_n Cx dX6_does_87 rfl (lv_at hl 2 rfl) ?_
            refine q_get (v := .ref (vA V 12 11)) Cx hW oZ ic6 15 (by decide) rfl wd_729 dX6_does_88 ?_
            refine q_iload_n Cx dX6_does_91 rfl (lv_at hl 3 rfl) ?_
            refine q_iconst (v := (4 : Int32)) Cx dX6_does_92 (by decide) ?_
            refine q_iadd Cx dX6_does_93 ?_
            obtain ⟨h34, v33, e35, hF⟩ := ld_some hF
            refine qb_iald Cx hW az_11 h34 e35 dX6_does_94 ?_
            refine q_aload_n Cx dX6_does_95 rfl (lv_at hl 2 rfl) ?_
            refine q_get (v := .ref (vA V 12 11)) Cx hW oZ ic6 15 (by decide) rfl wd_729 dX6_does_96 ?_
            refine q_iload_n Cx dX6_does_99 rfl (lv_at hl 3 rfl) ?_
            refine q_iconst (v := (5 : Int32)) Cx dX6_does_100 (by decide) ?_
            refine q_iadd Cx dX6_does_101 ?_
            obtain ⟨h37, v36, e38, hF⟩ := ld_some hF
            refine qb_iald Cx hW az_11 h37 e38 dX6_does_102 ?_
            obtain ⟨r39, B41, e40, hF⟩ := c2_some hF
            refine q_callI (as := [.int v1, .int v4, .int v30, .int v33, .int v36]) (rest := []) Cx (kX6_task e40) okX6_task ovX6_task wd_1058 ⟨rfl, rfl, by decide, by decide⟩ hW oZ ic6 rfl hl.1 (Nat.le_of_ble_eq_true rfl) rfl dX6_does_103 (fun H locs hW => ?_)
            obtain ⟨rfl, rfl⟩ := Prod.mk.inj (Option.some.inj hF)
            exact hret _ _ _ _ dX6_does_106 (nI32 _) hW
          · have hF := (if_neg c29).symm.trans hF
            refine q_lookup (tgt := 143) (off := 119) Cx dX6_does_24 (by decide) (ho := (lv_osw c10 (by decide)).trans <| (lv_osw c14 (by decide)).trans <| (lv_osw c18 (by decide)).trans <| (lv_osw c25 (by decide)).trans <| (lv_osw c29 (by decide)).trans <| rfl) (by decide) ?_
            refine q_aload_n Cx dX6_does_143 rfl (lv_at hl 2 rfl) ?_
            obtain ⟨r42, B44, e43, hF⟩ := c2_some hF
            refine q_callI (as := []) (rest := []) Cx (kX6_trade e43) okX6_trade ovX6_trade wd_1063 ⟨rfl, rfl, by decide, by decide⟩ hW oZ ic6 rfl hl.1 (Nat.le_of_ble_eq_true rfl) rfl dX6_does_144 (fun H locs hW => ?_)
            obtain ⟨rfl, rfl⟩ := Prod.mk.inj (Option.some.inj hF)
            exact hret _ _ _ _ dX6_does_147 (nI32 _) hW
set_option maxRecDepth 100000 in
theorem kX6_does {l : Launch} {V : VT} {M : Mem} {B : Blk} {l1 : Int32} {r : Int32} {B' : Blk} (hF : FX6_does B l1 = some (r, B')) : MetI l V yX6_does cX6_does 4 .int ({ frames := 5, cells := 0, slots := 0, locals := 116 } : Room) [.ref (vA V 12 0), .int l1] r (jb M 12 B) (jb M 12 B') := metI_of (by decide) (Nat.le_of_ble_eq_true rfl) (fun E H0 _ Cx hret H locs ls hW hl => wX6_does Cx hret hW hl hF)
theorem dX6_carryOut_0 : decode cX6_carryOut 0 = .ok (.aload_n 0, 1) := by decide +kernel
theorem dX6_carryOut_1 : decode cX6_carryOut 1 = .ok (.invokevirtual 210, 3) := by decide +kernel
theorem dX6_carryOut_4 : decode cX6_carryOut 4 = .ok (.aload_n 0, 1) := by decide +kernel
theorem dX6_carryOut_5 : decode cX6_carryOut 5 = .ok (.getfield 177, 3) := by decide +kernel
theorem dX6_carryOut_8 : decode cX6_carryOut 8 = .ok (.bipush (-6), 2) := by decide +kernel
theorem dX6_carryOut_10 : decode cX6_carryOut 10 = .ok (.if_icmp .eq 6, 3) := by decide +kernel
theorem dX6_carryOut_13 : decode cX6_carryOut 13 = .ok (.bipush (-3), 2) := by decide +kernel
theorem dX6_carryOut_15 : decode cX6_carryOut 15 = .ok (.ireturn, 1) := by decide +kernel
theorem dX6_carryOut_16 : decode cX6_carryOut 16 = .ok (.aload_n 0, 1) := by decide +kernel
theorem dX6_carryOut_17 : decode cX6_carryOut 17 = .ok (.invokevirtual 60, 3) := by decide +kernel
theorem dX6_carryOut_20 : decode cX6_carryOut 20 = .ok (.aload_n 0, 1) := by decide +kernel
theorem dX6_carryOut_21 : decode cX6_carryOut 21 = .ok (.iconst 1, 1) := by decide +kernel
theorem dX6_carryOut_22 : decode cX6_carryOut 22 = .ok (.putfield 49, 3) := by decide +kernel
theorem dX6_carryOut_25 : decode cX6_carryOut 25 = .ok (.iconst 0, 1) := by decide +kernel
theorem dX6_carryOut_26 : decode cX6_carryOut 26 = .ok (.istore_n 1, 1) := by decide +kernel
theorem dX6_carryOut_27 : decode cX6_carryOut 27 = .ok (.iload_n 1, 1) := by decide +kernel
theorem dX6_carryOut_28 : decode cX6_carryOut 28 = .ok (.aload_n 0, 1) := by decide +kernel
theorem dX6_carryOut_29 : decode cX6_carryOut 29 = .ok (.getfield 204, 3) := by decide +kernel
theorem dX6_carryOut_32 : decode cX6_carryOut 32 = .ok (.if_icmp .ge 20, 3) := by decide +kernel
theorem dX6_carryOut_35 : decode cX6_carryOut 35 = .ok (.aload_n 0, 1) := by decide +kernel
theorem dX6_carryOut_36 : decode cX6_carryOut 36 = .ok (.bipush 6, 2) := by decide +kernel
theorem dX6_carryOut_38 : decode cX6_carryOut 38 = .ok (.iload_n 1, 1) := by decide +kernel
theorem dX6_carryOut_39 : decode cX6_carryOut 39 = .ok (.imul, 1) := by decide +kernel
theorem dX6_carryOut_40 : decode cX6_carryOut 40 = .ok (.invokevirtual 233, 3) := by decide +kernel
theorem dX6_carryOut_43 : decode cX6_carryOut 43 = .ok (.ifCond .lt 9, 3) := by decide +kernel
theorem dX6_carryOut_46 : decode cX6_carryOut 46 = .ok (.iinc 1 1, 3) := by decide +kernel
theorem dX6_carryOut_49 : decode cX6_carryOut 49 = .ok (.goto (-22), 3) := by decide +kernel
theorem dX6_carryOut_52 : decode cX6_carryOut 52 = .ok (.aload_n 0, 1) := by decide +kernel
theorem dX6_carryOut_53 : decode cX6_carryOut 53 = .ok (.iconst 0, 1) := by decide +kernel
theorem dX6_carryOut_54 : decode cX6_carryOut 54 = .ok (.putfield 49, 3) := by decide +kernel
theorem dX6_carryOut_57 : decode cX6_carryOut 57 = .ok (.aload_n 0, 1) := by decide +kernel
theorem dX6_carryOut_58 : decode cX6_carryOut 58 = .ok (.iconst 0, 1) := by decide +kernel
theorem dX6_carryOut_59 : decode cX6_carryOut 59 = .ok (.putfield 162, 3) := by decide +kernel
theorem dX6_carryOut_62 : decode cX6_carryOut 62 = .ok (.iload_n 1, 1) := by decide +kernel
theorem dX6_carryOut_63 : decode cX6_carryOut 63 = .ok (.ireturn, 1) := by decide +kernel
theorem okX6_carryOut : CalOK yX6_carryOut cX6_carryOut 2 (some .int) 0 := ⟨wd_73, wd_1053, by decide +kernel⟩
theorem ovX6_carryOut : VirOK yX6_carryOut := ⟨wd_1051, wd_1052⟩
def FX6_carryOut_52 (l1 : Int32) (B : Blk) : Option (Int32 × Blk) :=
  lt1 (bs B 0 6 (0 : Int32)) fun B11 =>
  lt1 (bs B11 0 8 (0 : Int32)) fun B13 =>
  some (l1, B13)
set_option maxRecDepth 100000 in
set_option maxHeartbeats 4000000 in
theorem wX6_carryOut_52 {E : WE} {V : VT} {A : Nat → Prop} {H0 : Heap} {M : Mem} (Cx : CX E RX6 cX6_carryOut 2 6 139) {r : Int32} {B' : Blk} (hret : RetI E V A H0 cX6_carryOut .int r (jb M 12 B')) {H : Heap} {locs : List Loc} {ls : Array Slot} {l1 : Int32} {B : Blk} (hW : Wd V A H0 (jb M 12 B) (eS E) H locs) (hl : lv_has ls 2 [(0, .ref (vA V 12 0)), (1, .int l1)]) (hF : FX6_carryOut_52 l1 B = some (r, B')) : Wq E H locs 52 ls [] := by
  unfold FX6_carryOut_52 at hF
  refine q_aload_n Cx dX6_carryOut_52 rfl (lv_at hl 0 rfl) ?_
  refine q_iconst (v := (0 : Int32)) Cx dX6_carryOut_53 (by decide) ?_
  obtain ⟨B11, e12, hF⟩ := lt1_some hF
  refine qb_put Cx hW oZ ic6 6 (by decide) (Nat.le_of_ble_eq_true rfl) e12 rfl rfl ⟨by decide, by decide⟩ wd_720 dX6_carryOut_54 (fun H locs hW => ?_)
  refine q_aload_n Cx dX6_carryOut_57 rfl (lv_at hl 0 rfl) ?_
  refine q_iconst (v := (0 : Int32)) Cx dX6_carryOut_58 (by decide) ?_
  obtain ⟨B13, e14, hF⟩ := lt1_some hF
  refine qb_put Cx hW oZ ic6 8 (by decide) (Nat.le_of_ble_eq_true rfl) e14 rfl rfl ⟨nI32 _, rfl⟩ wd_722 dX6_carryOut_59 (fun H locs hW => ?_)
  refine q_iload_n Cx dX6_carryOut_62 rfl (lv_at hl 1 rfl) ?_
  obtain ⟨rfl, rfl⟩ := Prod.mk.inj (Option.some.inj hF)
  exact hret _ _ _ _ dX6_carryOut_63 (nI32 _) hW
def FX6_carryOut_27s (k27 : Int32 → Blk → Option (Int32 × Blk)) (l1 : Int32) (B : Blk) : Option (Int32 × Blk) :=
  if ((B 0) 16) ≤ l1 then
    FX6_carryOut_52 l1 B
  else
    c2 (FX6_does B ((6 : Int32) * l1)) fun r15 B17 =>
    if r15 < 0 then
      FX6_carryOut_52 l1 B17
    else
      lt1 (l1 + (1 : Int32)) fun x19 =>
      k27 x19 B17
set_option maxRecDepth 100000 in
set_option maxHeartbeats 4000000 in
theorem wX6_carryOut_27s {E : WE} {V : VT} {A : Nat → Prop} {H0 : Heap} {M : Mem} (Cx : CX E RX6 cX6_carryOut 2 6 139) {r : Int32} {B' : Blk} (hret : RetI E V A H0 cX6_carryOut .int r (jb M 12 B')) {k27 : Int32 → Blk → Option (Int32 × Blk)} (hk27 : ∀ {H : Heap} {locs : List Loc} {ls : Array Slot} {B : Blk} {l1 : Int32}, Wd V A H0 (jb M 12 B) (eS E) H locs → lv_has ls 2 [(0, .ref (vA V 12 0)), (1, .int l1)] → k27 l1 B = some (r, B') → Wq E H locs 27 ls []) {H : Heap} {locs : List Loc} {ls : Array Slot} {l1 : Int32} {B : Blk} (hW : Wd V A H0 (jb M 12 B) (eS E) H locs) (hl : lv_has ls 2 [(0, .ref (vA V 12 0)), (1, .int l1)]) (hF : FX6_carryOut_27s k27 l1 B = some (r, B')) : Wq E H locs 27 ls [] := by
  unfold FX6_carryOut_27s at hF
  refine q_iload_n Cx dX6_carryOut_27 rfl (lv_at hl 1 rfl) ?_
  refine q_aload_n Cx dX6_carryOut_28 rfl (lv_at hl 0 rfl) ?_
  refine qb_get (v := .int ((B 0) 16)) Cx hW oZ ic6 16 (by decide) rfl wd_730 dX6_carryOut_29 ?_
  refine q_icmp_ge (tgt := 52) Cx dX6_carryOut_32 (by decide) (fun c10 => ?_) (fun c10 => ?_)
  · have hF := (if_pos c10).symm.trans hF
    exact wX6_carryOut_52 Cx hret hW (lv_sub hl [0, 1] rfl) hF
  · have hF := (if_neg c10).symm.trans hF
    refine q_aload_n Cx dX6_carryOut_35 rfl (lv_at hl 0 rfl) ?_
    refine q_bipush (v := (6 : Int32)) Cx dX6_carryOut_36 (by decide) ?_
    refine q_iload_n Cx dX6_carryOut_38 rfl (lv_at hl 1 rfl) ?_
    refine q_imul Cx dX6_carryOut_39 ?_
    obtain ⟨r15, B17, e16, hF⟩ := c2_some hF
    refine q_callI (as := [.int ((6 : Int32) * l1)]) (rest := []) Cx (kX6_does e16) okX6_does ovX6_does wd_1054 ⟨rfl, rfl, by decide, by decide⟩ hW oZ ic6 rfl hl.1 (Nat.le_of_ble_eq_true rfl) rfl dX6_carryOut_40 (fun H locs hW => ?_)
    refine q_if_lt (tgt := 52) Cx dX6_carryOut_43 (by decide) (fun c18 => ?_) (fun c18 => ?_)
    · have hF := (if_pos c18).symm.trans hF
      exact wX6_carryOut_52 Cx hret hW (lv_sub hl [0, 1] rfl) hF
    · have hF := (if_neg c18).symm.trans hF
      obtain ⟨x19, e20, hF⟩ := lt1_some hF
      refine q_iinc (k := 1) (v := x19) (lv' := [(1, .int x19), (0, .ref (vA V 12 0))]) Cx dX6_carryOut_46 hl rfl e20.symm (by decide) rfl (fun ls hl => ?_)
      refine q_goto (tgt := 27) Cx dX6_carryOut_49 (by decide) ?_
      exact hk27 hW (lv_sub hl [1, 0] rfl) hF
def FX6_carryOut_27 : Nat → Int32 → Blk → Option (Int32 × Blk)
  | 0 => fun _ _ => none
  | n + 1 => FX6_carryOut_27s (FX6_carryOut_27 n)
set_option maxRecDepth 100000 in
theorem wX6_carryOut_27 {E : WE} {V : VT} {A : Nat → Prop} {H0 : Heap} {M : Mem} (Cx : CX E RX6 cX6_carryOut 2 6 139) {r : Int32} {B' : Blk} (hret : RetI E V A H0 cX6_carryOut .int r (jb M 12 B')) : ∀ (n : Nat) {H : Heap} {locs : List Loc} {ls : Array Slot} {l1 : Int32} {B : Blk}, Wd V A H0 (jb M 12 B) (eS E) H locs → lv_has ls 2 [(0, .ref (vA V 12 0)), (1, .int l1)] → FX6_carryOut_27 n l1 B = some (r, B') → Wq E H locs 27 ls [] := by
  intro n
  induction n with
  | zero => intro _ _ _ _ _ hW hl hF; cases hF
  | succ n ih => intro _ _ _ _ _ hW hl hF; exact wX6_carryOut_27s Cx hret ih hW hl hF
def FX6_carryOut (B : Blk) : Option (Int32 × Blk) :=
  c1 (FX6_readPad B) fun B3 =>
  if ((B3 0) 18) = (-6 : Int32) then
    c1 (FX6_record B3) fun B7 =>
    lt1 (bs B7 0 6 (1 : Int32)) fun B8 =>
    FX6_carryOut_27 fu (0 : Int32) B8
  else
    some ((-3 : Int32), B3)
set_option maxRecDepth 100000 in
set_option maxHeartbeats 4000000 in
theorem wX6_carryOut {E : WE} {V : VT} {A : Nat → Prop} {H0 : Heap} {M : Mem} (Cx : CX E RX6 cX6_carryOut 2 6 139) {r : Int32} {B' : Blk} (hret : RetI E V A H0 cX6_carryOut .int r (jb M 12 B')) {H : Heap} {locs : List Loc} {ls : Array Slot} {B : Blk} (hW : Wd V A H0 (jb M 12 B) (eS E) H locs) (hl : lv_has ls 2 [(0, .ref (vA V 12 0))]) (hF : FX6_carryOut B = some (r, B')) : Wq E H locs 0 ls [] := by
  unfold FX6_carryOut at hF
  refine q_aload_n Cx dX6_carryOut_0 rfl (lv_at hl 0 rfl) ?_
  obtain ⟨B3, e2, hF⟩ := c1_some hF
  refine q_callV (as := []) (rest := []) Cx (kX6_readPad e2) okX6_readPad ovX6_readPad wd_1010 ⟨rfl, rfl, by decide, by decide⟩ hW oZ ic6 rfl hl.1 (Nat.le_of_ble_eq_true rfl) rfl dX6_carryOut_1 (fun H locs hW => ?_)
  refine q_aload_n Cx dX6_carryOut_4 rfl (lv_at hl 0 rfl) ?_
  refine qb_get (v := .int ((B3 0) 18)) Cx hW oZ ic6 18 (by decide) rfl wd_732 dX6_carryOut_5 ?_
  refine q_bipush (v := (-6 : Int32)) Cx dX6_carryOut_8 (by decide) ?_
  refine q_icmp_eq (tgt := 16) Cx dX6_carryOut_10 (by decide) (fun c4 => ?_) (fun c4 => ?_)
  · have hF := (if_pos c4).symm.trans hF
    refine q_aload_n Cx dX6_carryOut_16 rfl (lv_at hl 0 rfl) ?_
    obtain ⟨B7, e6, hF⟩ := c1_some hF
    refine q_callV (as := []) (rest := []) Cx (kX6_record e6) okX6_record ovX6_record wd_787 ⟨rfl, rfl, by decide, by decide⟩ hW oZ ic6 rfl hl.1 (Nat.le_of_ble_eq_true rfl) rfl dX6_carryOut_17 (fun H locs hW => ?_)
    refine q_aload_n Cx dX6_carryOut_20 rfl (lv_at hl 0 rfl) ?_
    refine q_iconst (v := (1 : Int32)) Cx dX6_carryOut_21 (by decide) ?_
    obtain ⟨B8, e9, hF⟩ := lt1_some hF
    refine qb_put Cx hW oZ ic6 6 (by decide) (Nat.le_of_ble_eq_true rfl) e9 rfl rfl ⟨by decide, by decide⟩ wd_720 dX6_carryOut_22 (fun H locs hW => ?_)
    refine q_iconst (v := (0 : Int32)) Cx dX6_carryOut_25 (by decide) ?_
    refine q_istore_n (lv' := [(1, .int (0 : Int32)), (0, .ref (vA V 12 0))]) Cx dX6_carryOut_26 rfl hl (by decide) rfl (fun ls hl => ?_)
    exact wX6_carryOut_27 Cx hret fu hW (lv_sub hl [1, 0] rfl) hF
  · have hF := (if_neg c4).symm.trans hF
    refine q_bipush (v := (-3 : Int32)) Cx dX6_carryOut_13 (by decide) ?_
    obtain ⟨rfl, rfl⟩ := Prod.mk.inj (Option.some.inj hF)
    exact hret _ _ _ _ dX6_carryOut_15 (nI32 _) hW
set_option maxRecDepth 100000 in
theorem kX6_carryOut {l : Launch} {V : VT} {M : Mem} {B : Blk} {r : Int32} {B' : Blk} (hF : FX6_carryOut B = some (r, B')) : MetI l V yX6_carryOut cX6_carryOut 2 .int ({ frames := 6, cells := 0, slots := 0, locals := 139 } : Room) [.ref (vA V 12 0)] r (jb M 12 B) (jb M 12 B') := metI_of (by decide) (Nat.le_of_ble_eq_true rfl) (fun E H0 _ Cx hret H locs ls hW hl => wX6_carryOut Cx hret hW hl hF)
