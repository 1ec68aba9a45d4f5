theorem dX3_append_0 : decode cX3_append 0 = .ok (.lload_n 1, 1) := by decide +kernel
theorem dX3_append_1 : decode cX3_append 1 = .ok (.lstore_n 3, 1) := by decide +kernel
theorem dX3_append_2 : decode cX3_append 2 = .ok (.iconst 0, 1) := by decide +kernel
theorem dX3_append_3 : decode cX3_append 3 = .ok (.istore 5, 2) := by decide +kernel
theorem dX3_append_5 : decode cX3_append 5 = .ok (.iload 5, 2) := by decide +kernel
theorem dX3_append_7 : decode cX3_append 7 = .ok (.bipush 8, 2) := by decide +kernel
theorem dX3_append_9 : decode cX3_append 9 = .ok (.if_icmp .ge 51, 3) := by decide +kernel
theorem dX3_append_12 : decode cX3_append 12 = .ok (.lload_n 3, 1) := by decide +kernel
theorem dX3_append_13 : decode cX3_append 13 = .ok (.ldc2_w 19, 3) := by decide +kernel
theorem dX3_append_16 : decode cX3_append 16 = .ok (.land, 1) := by decide +kernel
theorem dX3_append_17 : decode cX3_append 17 = .ok (.lconst 0, 1) := by decide +kernel
theorem dX3_append_18 : decode cX3_append 18 = .ok (.lcmp, 1) := by decide +kernel
theorem dX3_append_19 : decode cX3_append 19 = .ok (.ifCond .eq 41, 3) := by decide +kernel
theorem dX3_append_22 : decode cX3_append 22 = .ok (.lload_n 3, 1) := by decide +kernel
theorem dX3_append_23 : decode cX3_append 23 = .ok (.ldc2_w 19, 3) := by decide +kernel
theorem dX3_append_26 : decode cX3_append 26 = .ok (.land, 1) := by decide +kernel
theorem dX3_append_27 : decode cX3_append 27 = .ok (.ldc2_w 21, 3) := by decide +kernel
theorem dX3_append_30 : decode cX3_append 30 = .ok (.lcmp, 1) := by decide +kernel
theorem dX3_append_31 : decode cX3_append 31 = .ok (.ifCond .lt 15, 3) := by decide +kernel
theorem dX3_append_34 : decode cX3_append 34 = .ok (.lload_n 3, 1) := by decide +kernel
theorem dX3_append_35 : decode cX3_append 35 = .ok (.ldc2_w 19, 3) := by decide +kernel
theorem dX3_append_38 : decode cX3_append 38 = .ok (.land, 1) := by decide +kernel
theorem dX3_append_39 : decode cX3_append 39 = .ok (.ldc2_w 23, 3) := by decide +kernel
theorem dX3_append_42 : decode cX3_append 42 = .ok (.lcmp, 1) := by decide +kernel
theorem dX3_append_43 : decode cX3_append 43 = .ok (.ifCond .le 6, 3) := by decide +kernel
theorem dX3_append_46 : decode cX3_append 46 = .ok (.bipush (-2), 2) := by decide +kernel
theorem dX3_append_48 : decode cX3_append 48 = .ok (.ireturn, 1) := by decide +kernel
theorem dX3_append_49 : decode cX3_append 49 = .ok (.lload_n 3, 1) := by decide +kernel
theorem dX3_append_50 : decode cX3_append 50 = .ok (.bipush 8, 2) := by decide +kernel
theorem dX3_append_52 : decode cX3_append 52 = .ok (.lushr, 1) := by decide +kernel
theorem dX3_append_53 : decode cX3_append 53 = .ok (.lstore_n 3, 1) := by decide +kernel
theorem dX3_append_54 : decode cX3_append 54 = .ok (.iinc 5 1, 3) := by decide +kernel
theorem dX3_append_57 : decode cX3_append 57 = .ok (.goto (-52), 3) := by decide +kernel
theorem dX3_append_60 : decode cX3_append 60 = .ok (.iload 5, 2) := by decide +kernel
theorem dX3_append_62 : decode cX3_append 62 = .ok (.ifCond .eq 9, 3) := by decide +kernel
theorem dX3_append_65 : decode cX3_append 65 = .ok (.lload_n 3, 1) := by decide +kernel
theorem dX3_append_66 : decode cX3_append 66 = .ok (.lconst 0, 1) := by decide +kernel
theorem dX3_append_67 : decode cX3_append 67 = .ok (.lcmp, 1) := by decide +kernel
theorem dX3_append_68 : decode cX3_append 68 = .ok (.ifCond .eq 6, 3) := by decide +kernel
theorem dX3_append_71 : decode cX3_append 71 = .ok (.bipush (-2), 2) := by decide +kernel
theorem dX3_append_73 : decode cX3_append 73 = .ok (.ireturn, 1) := by decide +kernel
theorem dX3_append_74 : decode cX3_append 74 = .ok (.aload_n 0, 1) := by decide +kernel
theorem dX3_append_75 : decode cX3_append 75 = .ok (.getfield 25, 3) := by decide +kernel
theorem dX3_append_78 : decode cX3_append 78 = .ok (.iload 5, 2) := by decide +kernel
theorem dX3_append_80 : decode cX3_append 80 = .ok (.iadd, 1) := by decide +kernel
theorem dX3_append_81 : decode cX3_append 81 = .ok (.bipush 80, 2) := by decide +kernel
theorem dX3_append_83 : decode cX3_append 83 = .ok (.if_icmp .le 6, 3) := by decide +kernel
theorem dX3_append_86 : decode cX3_append 86 = .ok (.bipush (-4), 2) := by decide +kernel
theorem dX3_append_88 : decode cX3_append 88 = .ok (.ireturn, 1) := by decide +kernel
theorem dX3_append_89 : decode cX3_append 89 = .ok (.iconst 1, 1) := by decide +kernel
theorem dX3_append_90 : decode cX3_append 90 = .ok (.istore 6, 2) := by decide +kernel
theorem dX3_append_92 : decode cX3_append 92 = .ok (.iload 6, 2) := by decide +kernel
theorem dX3_append_94 : decode cX3_append 94 = .ok (.iload 5, 2) := by decide +kernel
theorem dX3_append_96 : decode cX3_append 96 = .ok (.if_icmp .gt 39, 3) := by decide +kernel
theorem dX3_append_99 : decode cX3_append 99 = .ok (.aload_n 0, 1) := by decide +kernel
theorem dX3_append_100 : decode cX3_append 100 = .ok (.getfield 9, 3) := by decide +kernel
theorem dX3_append_103 : decode cX3_append 103 = .ok (.aload_n 0, 1) := by decide +kernel
theorem dX3_append_104 : decode cX3_append 104 = .ok (.getfield 25, 3) := by decide +kernel
theorem dX3_append_107 : decode cX3_append 107 = .ok (.iload 5, 2) := by decide +kernel
theorem dX3_append_109 : decode cX3_append 109 = .ok (.iadd, 1) := by decide +kernel
theorem dX3_append_110 : decode cX3_append 110 = .ok (.iload 6, 2) := by decide +kernel
theorem dX3_append_112 : decode cX3_append 112 = .ok (.isub, 1) := by decide +kernel
theorem dX3_append_113 : decode cX3_append 113 = .ok (.lload_n 1, 1) := by decide +kernel
theorem dX3_append_114 : decode cX3_append 114 = .ok (.bipush 8, 2) := by decide +kernel
theorem dX3_append_116 : decode cX3_append 116 = .ok (.iload 6, 2) := by decide +kernel
theorem dX3_append_118 : decode cX3_append 118 = .ok (.iconst 1, 1) := by decide +kernel
theorem dX3_append_119 : decode cX3_append 119 = .ok (.isub, 1) := by decide +kernel
theorem dX3_append_120 : decode cX3_append 120 = .ok (.imul, 1) := by decide +kernel
theorem dX3_append_121 : decode cX3_append 121 = .ok (.lushr, 1) := by decide +kernel
theorem dX3_append_122 : decode cX3_append 122 = .ok (.ldc2_w 19, 3) := by decide +kernel
theorem dX3_append_125 : decode cX3_append 125 = .ok (.land, 1) := by decide +kernel
theorem dX3_append_126 : decode cX3_append 126 = .ok (.l2i, 1) := by decide +kernel
theorem dX3_append_127 : decode cX3_append 127 = .ok (.i2c, 1) := by decide +kernel
theorem dX3_append_128 : decode cX3_append 128 = .ok (.castore, 1) := by decide +kernel
theorem dX3_append_129 : decode cX3_append 129 = .ok (.iinc 6 1, 3) := by decide +kernel
theorem dX3_append_132 : decode cX3_append 132 = .ok (.goto (-40), 3) := by decide +kernel
theorem dX3_append_135 : decode cX3_append 135 = .ok (.aload_n 0, 1) := by decide +kernel
theorem dX3_append_136 : decode cX3_append 136 = .ok (.dup, 1) := by decide +kernel
theorem dX3_append_137 : decode cX3_append 137 = .ok (.getfield 25, 3) := by decide +kernel
theorem dX3_append_140 : decode cX3_append 140 = .ok (.iload 5, 2) := by decide +kernel
theorem dX3_append_142 : decode cX3_append 142 = .ok (.iadd, 1) := by decide +kernel
theorem dX3_append_143 : decode cX3_append 143 = .ok (.putfield 25, 3) := by decide +kernel
theorem dX3_append_146 : decode cX3_append 146 = .ok (.aload_n 0, 1) := by decide +kernel
theorem dX3_append_147 : decode cX3_append 147 = .ok (.getfield 25, 3) := by decide +kernel
theorem dX3_append_150 : decode cX3_append 150 = .ok (.ireturn, 1) := by decide +kernel
theorem okX3_append : CalOK yX3_append cX3_append 7 (some .int) 1 := ⟨wd_72, wd_613, by decide +kernel⟩
theorem ovX3_append : VirOK yX3_append := ⟨wd_611, wd_612⟩
def FX3_append_92s (k92 : Int64 → Int32 → Int32 → Blk → Option (Int32 × Blk)) (l1 : Int64) (l5 : Int32) (l6 : Int32) (B : Blk) : Option (Int32 × Blk) :=
  if l5 < l6 then
    lt1 (bs B 5 1 (((B 5) 1) + l5)) fun B6 =>
    some (((B6 5) 1), B6)
  else
    stb B 6 80 ((((B 5) 1) + l5) - l6) (vp_nar .char ((((((l1.toUInt64 >>> (((8 : Int32) * (l6 - (1 : Int32))).toInt64.toUInt64 &&& Int64.toUInt64 63)).toInt64) &&& (255 : Int64)).toInt32).toUInt32 % 65536).toInt32)) fun B8 =>
    lt1 (l6 + (1 : Int32)) fun x11 =>
    k92 l1 l5 x11 B8
set_option maxRecDepth 100000 in
set_option maxHeartbeats 4000000 in
theorem wX3_append_92s {E : WE} {V : VT} {A : Nat → Prop} {H0 : Heap} {M : Mem} (Cx : CX E RX3 cX3_append 7 0 0) {r : Int32} {B' : Blk} (hret : RetI E V A H0 cX3_append .int r (jb M 11 B')) {k92 : Int64 → Int32 → Int32 → Blk → Option (Int32 × Blk)} (hk92 : ∀ {H : Heap} {locs : List Loc} {ls : Array Slot} {B : Blk} {l1 : Int64} {l5 : Int32} {l6 : Int32}, Wd V A H0 (jb M 11 B) (eS E) H locs → lv_has ls 7 [(0, .ref (vA V 11 5)), (1, .long l1), (5, .int l5), (6, .int l6)] → k92 l1 l5 l6 B = some (r, B') → Wq E H locs 92 ls []) {H : Heap} {locs : List Loc} {ls : Array Slot} {l1 : Int64} {l5 : Int32} {l6 : Int32} {B : Blk} (hW : Wd V A H0 (jb M 11 B) (eS E) H locs) (hl : lv_has ls 7 [(0, .ref (vA V 11 5)), (1, .long l1), (5, .int l5), (6, .int l6)]) (hF : FX3_append_92s k92 l1 l5 l6 B = some (r, B')) : Wq E H locs 92 ls [] := by
  unfold FX3_append_92s at hF
  refine q_iload Cx dX3_append_92 (lv_at hl 3 rfl) ?_
  refine q_iload Cx dX3_append_94 (lv_at hl 2 rfl) ?_
  refine q_icmp_gt (tgt := 135) Cx dX3_append_96 (by decide) (fun c5 => ?_) (fun c5 => ?_)
  · have hF := (if_pos c5).symm.trans hF
    refine q_aload_n Cx dX3_append_135 rfl (lv_at hl 0 rfl) ?_
    refine q_dup Cx dX3_append_136 rfl ?_
    refine qb_get (v := .int ((B 5) 1)) Cx hW oQ ic3 1 (by decide) rfl wd_225 dX3_append_137 ?_
    refine q_iload Cx dX3_append_140 (lv_at hl 2 rfl) ?_
    refine q_iadd Cx dX3_append_142 ?_
    obtain ⟨B6, e7, hF⟩ := lt1_some hF
    refine qb_put Cx hW oQ ic3 1 (by decide) (Nat.le_of_ble_eq_true rfl) e7 rfl rfl ⟨nI32 _, rfl⟩ wd_225 dX3_append_143 (fun H locs hW => ?_)
    refine q_aload_n Cx dX3_append_146 rfl (lv_at hl 0 rfl) ?_
    refine qb_get (v := .int ((B6 5) 1)) Cx hW oQ ic3 1 (by decide) rfl wd_225 dX3_append_147 ?_
    obtain ⟨rfl, rfl⟩ := Prod.mk.inj (Option.some.inj hF)
    exact hret _ _ _ _ dX3_append_150 (nI32 _) hW
  · have hF := (if_neg c5).symm.trans hF
    refine q_aload_n Cx dX3_append_99 rfl (lv_at hl 0 rfl) ?_
    refine q_get (v := .ref (vA V 11 6)) Cx hW oQ ic3 0 (by decide) rfl wd_224 dX3_append_100 ?_
    refine q_aload_n Cx dX3_append_103 rfl (lv_at hl 0 rfl) ?_
    refine qb_get (v := .int ((B 5) 1)) Cx hW oQ ic3 1 (by decide) rfl wd_225 dX3_append_104 ?_
    refine q_iload Cx dX3_append_107 (lv_at hl 2 rfl) ?_
    refine q_iadd Cx dX3_append_109 ?_
    refine q_iload Cx dX3_append_110 (lv_at hl 3 rfl) ?_
    refine q_isub Cx dX3_append_112 ?_
    refine q_lload_n Cx dX3_append_113 rfl (lv_at hl 1 rfl) ?_
    refine q_bipush (v := (8 : Int32)) Cx dX3_append_114 (by decide) ?_
    refine q_iload Cx dX3_append_116 (lv_at hl 3 rfl) ?_
    refine q_iconst (v := (1 : Int32)) Cx dX3_append_118 (by decide) ?_
    refine q_isub Cx dX3_append_119 ?_
    refine q_imul Cx dX3_append_120 ?_
    refine q_lushr Cx dX3_append_121 ?_
    refine q_ldc2 (v := (255 : Int64)) Cx dX3_append_122 wd_614 ?_
    refine q_land Cx dX3_append_125 ?_
    refine q_l2i Cx dX3_append_126 ?_
    refine q_i2c Cx dX3_append_127 ?_
    obtain ⟨h9, B8, e10, hF⟩ := stb_some hF
    refine qb_cast Cx hW ax_6 h9 e10 dX3_append_128 (fun H locs hW => ?_)
    obtain ⟨x11, e12, hF⟩ := lt1_some hF
    refine q_iinc (k := 3) (v := x11) (lv' := [(6, .int x11), (0, .ref (vA V 11 5)), (1, .long l1), (5, .int l5)]) Cx dX3_append_129 hl rfl e12.symm (by decide) rfl (fun ls hl => ?_)
    refine q_goto (tgt := 92) Cx dX3_append_132 (by decide) ?_
    exact hk92 hW (lv_sub hl [1, 2, 3, 0] rfl) hF
def FX3_append_92 : Nat → Int64 → Int32 → Int32 → Blk → Option (Int32 × Blk)
  | 0 => fun _ _ _ _ => none
  | n + 1 => FX3_append_92s (FX3_append_92 n)
set_option maxRecDepth 100000 in
theorem wX3_append_92 {E : WE} {V : VT} {A : Nat → Prop} {H0 : Heap} {M : Mem} (Cx : CX E RX3 cX3_append 7 0 0) {r : Int32} {B' : Blk} (hret : RetI E V A H0 cX3_append .int r (jb M 11 B')) : ∀ (n : Nat) {H : Heap} {locs : List Loc} {ls : Array Slot} {l1 : Int64} {l5 : Int32} {l6 : Int32} {B : Blk}, Wd V A H0 (jb M 11 B) (eS E) H locs → lv_has ls 7 [(0, .ref (vA V 11 5)), (1, .long l1), (5, .int l5), (6, .int l6)] → FX3_append_92 n l1 l5 l6 B = some (r, B') → Wq E H locs 92 ls [] := by
  intro n
  induction n with
  | zero => intro _ _ _ _ _ _ _ hW hl hF; cases hF
  | succ n ih => intro _ _ _ _ _ _ _ hW hl hF; exact wX3_append_92s Cx hret ih hW hl hF
def FX3_append_60 (l1 : Int64) (l3 : Int64) (l5 : Int32) (B : Blk) : Option (Int32 × Blk) :=
  if l5 = 0 then
    some ((-2 : Int32), B)
  else
    if (lg_cmp l3 (0 : Int64)) = 0 then
      if (((B 5) 1) + l5) ≤ (80 : Int32) then
        FX3_append_92 fu l1 l5 (1 : Int32) B
      else
        some ((-4 : Int32), B)
    else
      some ((-2 : Int32), B)
set_option maxRecDepth 100000 in
set_option maxHeartbeats 4000000 in
theorem wX3_append_60 {E : WE} {V : VT} {A : Nat → Prop} {H0 : Heap} {M : Mem} (Cx : CX E RX3 cX3_append 7 0 0) {r : Int32} {B' : Blk} (hret : RetI E V A H0 cX3_append .int r (jb M 11 B')) {H : Heap} {locs : List Loc} {ls : Array Slot} {l1 : Int64} {l3 : Int64} {l5 : Int32} {B : Blk} (hW : Wd V A H0 (jb M 11 B) (eS E) H locs) (hl : lv_has ls 7 [(0, .ref (vA V 11 5)), (1, .long l1), (3, .long l3), (5, .int l5)]) (hF : FX3_append_60 l1 l3 l5 B = some (r, B')) : Wq E H locs 60 ls [] := by
  unfold FX3_append_60 at hF
  refine q_iload Cx dX3_append_60 (lv_at hl 3 rfl) ?_
  refine q_if_eq (tgt := 71) Cx dX3_append_62 (by decide) (fun c2 => ?_) (fun c2 => ?_)
  · have hF := (if_pos c2).symm.trans hF
    refine q_bipush (v := (-2 : Int32)) Cx dX3_append_71 (by decide) ?_
    obtain ⟨rfl, rfl⟩ := Prod.mk.inj (Option.some.inj hF)
    exact hret _ _ _ _ dX3_append_73 (nI32 _) hW
  · have hF := (if_neg c2).symm.trans hF
    refine q_lload_n Cx dX3_append_65 rfl (lv_at hl 2 rfl) ?_
    refine q_lconst (v := (0 : Int64)) Cx dX3_append_66 (by decide) ?_
    refine q_lcmp Cx dX3_append_67 ?_
    refine q_if_eq (tgt := 74) Cx dX3_append_68 (by decide) (fun c3 => ?_) (fun c3 => ?_)
    · have hF := (if_pos c3).symm.trans hF
      refine q_aload_n Cx dX3_append_74 rfl (lv_at hl 0 rfl) ?_
      refine qb_get (v := .int ((B 5) 1)) Cx hW oQ ic3 1 (by decide) rfl wd_225 dX3_append_75 ?_
      refine q_iload Cx dX3_append_78 (lv_at hl 3 rfl) ?_
      refine q_iadd Cx dX3_append_80 ?_
      refine q_bipush (v := (80 : Int32)) Cx dX3_append_81 (by decide) ?_
      refine q_icmp_le (tgt := 89) Cx dX3_append_83 (by decide) (fun c4 => ?_) (fun c4 => ?_)
      · have hF := (if_pos c4).symm.trans hF
        refine q_iconst (v := (1 : Int32)) Cx dX3_append_89 (by decide) ?_
        refine q_istore (lv' := [(6, .int (1 : Int32)), (0, .ref (vA V 11 5)), (1, .long l1), (3, .long l3), (5, .int l5)]) Cx dX3_append_90 hl (by decide) rfl (fun ls hl => ?_)
        exact wX3_append_92 Cx hret fu hW (lv_sub hl [1, 2, 4, 0] rfl) hF
      · have hF := (if_neg c4).symm.trans hF
        refine q_bipush (v := (-4 : Int32)) Cx dX3_append_86 (by decide) ?_
        obtain ⟨rfl, rfl⟩ := Prod.mk.inj (Option.some.inj hF)
        exact hret _ _ _ _ dX3_append_88 (nI32 _) hW
    · have hF := (if_neg c3).symm.trans hF
      refine q_bipush (v := (-2 : Int32)) Cx dX3_append_71 (by decide) ?_
      obtain ⟨rfl, rfl⟩ := Prod.mk.inj (Option.some.inj hF)
      exact hret _ _ _ _ dX3_append_73 (nI32 _) hW
def FX3_append_5s (k5 : Int64 → Int64 → Int32 → Blk → Option (Int32 × Blk)) (l1 : Int64) (l3 : Int64) (l5 : Int32) (B : Blk) : Option (Int32 × Blk) :=
  if (8 : Int32) ≤ l5 then
    FX3_append_60 l1 l3 l5 B
  else
    if (lg_cmp (l3 &&& (255 : Int64)) (0 : Int64)) = 0 then
      FX3_append_60 l1 l3 l5 B
    else
      if (lg_cmp (l3 &&& (255 : Int64)) (33 : Int64)) < 0 then
        some ((-2 : Int32), B)
      else
        if (lg_cmp (l3 &&& (255 : Int64)) (126 : Int64)) ≤ 0 then
          lt1 ((l3.toUInt64 >>> ((8 : Int32).toInt64.toUInt64 &&& Int64.toUInt64 63)).toInt64) fun x16 =>
          lt1 (l5 + (1 : Int32)) fun x18 =>
          k5 l1 x16 x18 B
        else
          some ((-2 : Int32), B)
set_option maxRecDepth 100000 in
set_option maxHeartbeats 4000000 in
theorem wX3_append_5s {E : WE} {V : VT} {A : Nat → Prop} {H0 : Heap} {M : Mem} (Cx : CX E RX3 cX3_append 7 0 0) {r : Int32} {B' : Blk} (hret : RetI E V A H0 cX3_append .int r (jb M 11 B')) {k5 : Int64 → Int64 → Int32 → Blk → Option (Int32 × Blk)} (hk5 : ∀ {H : Heap} {locs : List Loc} {ls : Array Slot} {B : Blk} {l1 : Int64} {l3 : Int64} {l5 : Int32}, Wd V A H0 (jb M 11 B) (eS E) H locs → lv_has ls 7 [(0, .ref (vA V 11 5)), (1, .long l1), (3, .long l3), (5, .int l5)] → k5 l1 l3 l5 B = some (r, B') → Wq E H locs 5 ls []) {H : Heap} {locs : List Loc} {ls : Array Slot} {l1 : Int64} {l3 : Int64} {l5 : Int32} {B : Blk} (hW : Wd V A H0 (jb M 11 B) (eS E) H locs) (hl : lv_has ls 7 [(0, .ref (vA V 11 5)), (1, .long l1), (3, .long l3), (5, .int l5)]) (hF : FX3_append_5s k5 l1 l3 l5 B = some (r, B')) : Wq E H locs 5 ls [] := by
  unfold FX3_append_5s at hF
  refine q_iload Cx dX3_append_5 (lv_at hl 3 rfl) ?_
  refine q_bipush (v := (8 : Int32)) Cx dX3_append_7 (by decide) ?_
  refine q_icmp_ge (tgt := 60) Cx dX3_append_9 (by decide) (fun c1 => ?_) (fun c1 => ?_)
  · have hF := (if_pos c1).symm.trans hF
    exact wX3_append_60 Cx hret hW (lv_sub hl [0, 1, 2, 3] rfl) hF
  · have hF := (if_neg c1).symm.trans hF
    refine q_lload_n Cx dX3_append_12 rfl (lv_at hl 2 rfl) ?_
    refine q_ldc2 (v := (255 : Int64)) Cx dX3_append_13 wd_614 ?_
    refine q_land Cx dX3_append_16 ?_
    refine q_lconst (v := (0 : Int64)) Cx dX3_append_17 (by decide) ?_
    refine q_lcmp Cx dX3_append_18 ?_
    refine q_if_eq (tgt := 60) Cx dX3_append_19 (by decide) (fun c13 => ?_) (fun c13 => ?_)
    · have hF := (if_pos c13).symm.trans hF
      exact wX3_append_60 Cx hret hW (lv_sub hl [0, 1, 2, 3] rfl) hF
    · have hF := (if_neg c13).symm.trans hF
      refine q_lload_n Cx dX3_append_22 rfl (lv_at hl 2 rfl) ?_
      refine q_ldc2 (v := (255 : Int64)) Cx dX3_append_23 wd_614 ?_
      refine q_land Cx dX3_append_26 ?_
      refine q_ldc2 (v := (33 : Int64)) Cx dX3_append_27 wd_615 ?_
      refine q_lcmp Cx dX3_append_30 ?_
      refine q_if_lt (tgt := 46) Cx dX3_append_31 (by decide) (fun c14 => ?_) (fun c14 => ?_)
      · have hF := (if_pos c14).symm.trans hF
        refine q_bipush (v := (-2 : Int32)) Cx dX3_append_46 (by decide) ?_
        obtain ⟨rfl, rfl⟩ := Prod.mk.inj (Option.some.inj hF)
        exact hret _ _ _ _ dX3_append_48 (nI32 _) hW
      · have hF := (if_neg c14).symm.trans hF
        refine q_lload_n Cx dX3_append_34 rfl (lv_at hl 2 rfl) ?_
        refine q_ldc2 (v := (255 : Int64)) Cx dX3_append_35 wd_614 ?_
        refine q_land Cx dX3_append_38 ?_
        refine q_ldc2 (v := (126 : Int64)) Cx dX3_append_39 wd_616 ?_
        refine q_lcmp Cx dX3_append_42 ?_
        refine q_if_le (tgt := 49) Cx dX3_append_43 (by decide) (fun c15 => ?_) (fun c15 => ?_)
        · have hF := (if_pos c15).symm.trans hF
          refine q_lload_n Cx dX3_append_49 rfl (lv_at hl 2 rfl) ?_
          refine q_bipush (v := (8 : Int32)) Cx dX3_append_50 (by decide) ?_
          refine q_lushr Cx dX3_append_52 ?_
          obtain ⟨x16, e17, hF⟩ := lt1_some hF
          refine q_topl e17 ?_
          refine q_lstore_n (lv' := [(3, .long x16), (0, .ref (vA V 11 5)), (1, .long l1), (5, .int l5)]) Cx dX3_append_53 rfl hl (by decide) rfl (fun ls hl => ?_)
          obtain ⟨x18, e19, hF⟩ := lt1_some hF
          refine q_iinc (k := 3) (v := x18) (lv' := [(5, .int x18), (3, .long x16), (0, .ref (vA V 11 5)), (1, .long l1)]) Cx dX3_append_54 hl rfl e19.symm (by decide) rfl (fun ls hl => ?_)
          refine q_goto (tgt := 5) Cx dX3_append_57 (by decide) ?_
          exact hk5 hW (lv_sub hl [2, 3, 1, 0] rfl) hF
        · have hF := (if_neg c15).symm.trans hF
          refine q_bipush (v := (-2 : Int32)) Cx dX3_append_46 (by decide) ?_
          obtain ⟨rfl, rfl⟩ := Prod.mk.inj (Option.some.inj hF)
          exact hret _ _ _ _ dX3_append_48 (nI32 _) hW
def FX3_append_5 : Nat → Int64 → Int64 → Int32 → Blk → Option (Int32 × Blk)
  | 0 => fun _ _ _ _ => none
  | n + 1 => FX3_append_5s (FX3_append_5 n)
set_option maxRecDepth 100000 in
theorem wX3_append_5 {E : WE} {V : VT} {A : Nat → Prop} {H0 : Heap} {M : Mem} (Cx : CX E RX3 cX3_append 7 0 0) {r : Int32} {B' : Blk} (hret : RetI E V A H0 cX3_append .int r (jb M 11 B')) : ∀ (n : Nat) {H : Heap} {locs : List Loc} {ls : Array Slot} {l1 : Int64} {l3 : Int64} {l5 : Int32} {B : Blk}, Wd V A H0 (jb M 11 B) (eS E) H locs → lv_has ls 7 [(0, .ref (vA V 11 5)), (1, .long l1), (3, .long l3), (5, .int l5)] → FX3_append_5 n l1 l3 l5 B = some (r, B') → Wq E H locs 5 ls [] := by
  intro n
  induction n with
  | zero => intro _ _ _ _ _ _ _ hW hl hF; cases hF
  | succ n ih => intro _ _ _ _ _ _ _ hW hl hF; exact wX3_append_5s Cx hret ih hW hl hF
def FX3_append (B : Blk) (l1 : Int64) : Option (Int32 × Blk) :=
  FX3_append_5 fu l1 l1 (0 : Int32) B
set_option maxRecDepth 100000 in
set_option maxHeartbeats 4000000 in
theorem wX3_append {E : WE} {V : VT} {A : Nat → Prop} {H0 : Heap} {M : Mem} (Cx : CX E RX3 cX3_append 7 0 0) {r : Int32} {B' : Blk} (hret : RetI E V A H0 cX3_append .int r (jb M 11 B')) {H : Heap} {locs : List Loc} {ls : Array Slot} {l1 : Int64} {B : Blk} (hW : Wd V A H0 (jb M 11 B) (eS E) H locs) (hl : lv_has ls 7 [(0, .ref (vA V 11 5)), (1, .long l1)]) (hF : FX3_append B l1 = some (r, B')) : Wq E H locs 0 ls [] := by
  unfold FX3_append at hF
  refine q_lload_n Cx dX3_append_0 rfl (lv_at hl 1 rfl) ?_
  refine q_lstore_n (lv' := [(3, .long l1), (0, .ref (vA V 11 5)), (1, .long l1)]) Cx dX3_append_1 rfl hl (by decide) rfl (fun ls hl => ?_)
  refine q_iconst (v := (0 : Int32)) Cx dX3_append_2 (by decide) ?_
  refine q_istore (lv' := [(5, .int (0 : Int32)), (3, .long l1), (0, .ref (vA V 11 5)), (1, .long l1)]) Cx dX3_append_3 hl (by decide) rfl (fun ls hl => ?_)
  exact wX3_append_5 Cx hret fu hW (lv_sub hl [2, 3, 1, 0] rfl) hF
set_option maxRecDepth 100000 in
theorem kX3_append {l : Launch} {V : VT} {M : Mem} {B : Blk} {l1 : Int64} {r : Int32} {B' : Blk} (hF : FX3_append B l1 = some (r, B')) : MetI l V yX3_append cX3_append 7 .int ({ frames := 0, cells := 0, slots := 0, locals := 0 } : Room) [.ref (vA V 11 5), .long l1] r (jb M 11 B) (jb M 11 B') := metI_of (by decide) (Nat.le_of_ble_eq_true rfl) (fun E H0 _ Cx hret H locs ls hW hl => wX3_append Cx hret hW hl hF)
theorem dX3_clear_0 : decode cX3_clear 0 = .ok (.aload_n 0, 1) := by decide +kernel
theorem dX3_clear_1 : decode cX3_clear 1 = .ok (.getfield 25, 3) := by decide +kernel
theorem dX3_clear_4 : decode cX3_clear 4 = .ok (.istore_n 1, 1) := by decide +kernel
theorem dX3_clear_5 : decode cX3_clear 5 = .ok (.aload_n 0, 1) := by decide +kernel
theorem dX3_clear_6 : decode cX3_clear 6 = .ok (.iconst 0, 1) := by decide +kernel
theorem dX3_clear_7 : decode cX3_clear 7 = .ok (.putfield 25, 3) := by decide +kernel
theorem dX3_clear_10 : decode cX3_clear 10 = .ok (.iload_n 1, 1) := by decide +kernel
theorem dX3_clear_11 : decode cX3_clear 11 = .ok (.ireturn, 1) := by decide +kernel
theorem okX3_clear : CalOK yX3_clear cX3_clear 2 (some .int) 0 := ⟨wd_72, wd_624, by decide +kernel⟩
theorem ovX3_clear : VirOK yX3_clear := ⟨wd_622, wd_623⟩
def FX3_clear (B : Blk) : Option (Int32 × Blk) :=
  lt1 ((B 5) 1) fun x1 =>
  lt1 (bs B 5 1 (0 : Int32)) fun B3 =>
  some (x1, B3)
set_option maxRecDepth 100000 in
set_option maxHeartbeats 4000000 in
theorem wX3_clear {E : WE} {V : VT} {A : Nat → Prop} {H0 : Heap} {M : Mem} (Cx : CX E RX3 cX3_clear 2 0 0) {r : Int32} {B' : Blk} (hret : RetI E V A H0 cX3_clear .int r (jb M 11 B')) {H : Heap} {locs : List Loc} {ls : Array Slot} {B : Blk} (hW : Wd V A H0 (jb M 11 B) (eS E) H locs) (hl : lv_has ls 2 [(0, .ref (vA V 11 5))]) (hF : FX3_clear B = some (r, B')) : Wq E H locs 0 ls [] := by
  unfold FX3_clear at hF
  refine q_aload_n Cx dX3_clear_0 rfl (lv_at hl 0 rfl) ?_
  refine qb_get (v := .int ((B 5) 1)) Cx hW oQ ic3 1 (by decide) rfl wd_225 dX3_clear_1 ?_
  obtain ⟨x1, e2, hF⟩ := lt1_some hF
  refine q_topi e2 ?_
  refine q_istore_n (lv' := [(1, .int x1), (0, .ref (vA V 11 5))]) Cx dX3_clear_4 rfl hl (by decide) rfl (fun ls hl => ?_)
  refine q_aload_n Cx dX3_clear_5 rfl (lv_at hl 1 rfl) ?_
  refine q_iconst (v := (0 : Int32)) Cx dX3_clear_6 (by decide) ?_
  obtain ⟨B3, e4, hF⟩ := lt1_some hF
  refine qb_put Cx hW oQ ic3 1 (by decide) (Nat.le_of_ble_eq_true rfl) e4 rfl rfl ⟨nI32 _, rfl⟩ wd_225 dX3_clear_7 (fun H locs hW => ?_)
  refine q_iload_n Cx dX3_clear_10 rfl (lv_at hl 0 rfl) ?_
  obtain ⟨rfl, rfl⟩ := Prod.mk.inj (Option.some.inj hF)
  exact hret _ _ _ _ dX3_clear_11 (nI32 _) hW
set_option maxRecDepth 100000 in
theorem kX3_clear {l : Launch} {V : VT} {M : Mem} {B : Blk} {r : Int32} {B' : Blk} (hF : FX3_clear B = some (r, B')) : MetI l V yX3_clear cX3_clear 2 .int ({ frames := 0, cells := 0, slots := 0, locals := 0 } : Room) [.ref (vA V 11 5)] r (jb M 11 B) (jb M 11 B') := metI_of (by decide) (Nat.le_of_ble_eq_true rfl) (fun E H0 _ Cx hret H locs ls hW hl => wX3_clear Cx hret hW hl hF)
theorem dX3_toStart_0 : decode cX3_toStart 0 = .ok (.aload_n 0, 1) := by decide +kernel
theorem dX3_toStart_1 : decode cX3_toStart 1 = .ok (.iconst 0, 1) := by decide +kernel
theorem dX3_toStart_2 : decode cX3_toStart 2 = .ok (.putfield 29, 3) := by decide +kernel
theorem dX3_toStart_5 : decode cX3_toStart 5 = .ok (.return_, 1) := by decide +kernel
theorem okX3_toStart : CalOK yX3_toStart cX3_toStart 1 (none) 0 := ⟨wd_72, wd_636, by decide +kernel⟩
theorem ovX3_toStart : VirOK yX3_toStart := ⟨wd_634, wd_635⟩
def FX3_toStart (B : Blk) : Option Blk :=
  lt1 (bs B 5 2 (0 : Int32)) fun B1 =>
  some B1
set_option maxRecDepth 100000 in
set_option maxHeartbeats 4000000 in
theorem wX3_toStart {E : WE} {V : VT} {A : Nat → Prop} {H0 : Heap} {M : Mem} (Cx : CX E RX3 cX3_toStart 1 0 0) {B' : Blk} (hret : RetV E V A H0 cX3_toStart (jb M 11 B')) {H : Heap} {locs : List Loc} {ls : Array Slot} {B : Blk} (hW : Wd V A H0 (jb M 11 B) (eS E) H locs) (hl : lv_has ls 1 [(0, .ref (vA V 11 5))]) (hF : FX3_toStart B = some B') : Wq E H locs 0 ls [] := by
  unfold FX3_toStart at hF
  refine q_aload_n Cx dX3_toStart_0 rfl (lv_at hl 0 rfl) ?_
  refine q_iconst (v := (0 : Int32)) Cx dX3_toStart_1 (by decide) ?_
  obtain ⟨B1, e2, hF⟩ := lt1_some hF
  refine qb_put Cx hW oQ ic3 2 (by decide) (Nat.le_of_ble_eq_true rfl) e2 rfl rfl ⟨nI32 _, rfl⟩ wd_227 dX3_toStart_2 (fun H locs hW => ?_)
  obtain rfl := Option.some.inj hF
  exact hret _ _ _ _ dX3_toStart_5 hW
set_option maxRecDepth 100000 in
theorem kX3_toStart {l : Launch} {V : VT} {M : Mem} {B : Blk} {B' : Blk} (hF : FX3_toStart B = some B') : MetV l V yX3_toStart cX3_toStart 1 ({ frames := 0, cells := 0, slots := 0, locals := 0 } : Room) [.ref (vA V 11 5)] (jb M 11 B) (jb M 11 B') := metV_of (by decide) (Nat.le_of_ble_eq_true rfl) (fun E H0 _ Cx hret H locs ls hW hl => wX3_toStart Cx hret hW hl hF)
theorem dX3_here_0 : decode cX3_here 0 = .ok (.aload_n 0, 1) := by decide +kernel
theorem dX3_here_1 : decode cX3_here 1 = .ok (.getfield 29, 3) := by decide +kernel
theorem dX3_here_4 : decode cX3_here 4 = .ok (.ifCond .lt 26, 3) := by decide +kernel
theorem dX3_here_7 : decode cX3_here 7 = .ok (.aload_n 0, 1) := by decide +kernel
theorem dX3_here_8 : decode cX3_here 8 = .ok (.getfield 29, 3) := by decide +kernel
theorem dX3_here_11 : decode cX3_here 11 = .ok (.aload_n 0, 1) := by decide +kernel
theorem dX3_here_12 : decode cX3_here 12 = .ok (.getfield 25, 3) := by decide +kernel
theorem dX3_here_15 : decode cX3_here 15 = .ok (.if_icmp .ge 15, 3) := by decide +kernel
theorem dX3_here_18 : decode cX3_here 18 = .ok (.aload_n 0, 1) := by decide +kernel
theorem dX3_here_19 : decode cX3_here 19 = .ok (.getfield 9, 3) := by decide +kernel
theorem dX3_here_22 : decode cX3_here 22 = .ok (.aload_n 0, 1) := by decide +kernel
theorem dX3_here_23 : decode cX3_here 23 = .ok (.getfield 29, 3) := by decide +kernel
theorem dX3_here_26 : decode cX3_here 26 = .ok (.caload, 1) := by decide +kernel
theorem dX3_here_27 : decode cX3_here 27 = .ok (.goto 4, 3) := by decide +kernel
theorem dX3_here_30 : decode cX3_here 30 = .ok (.iconst 0, 1) := by decide +kernel
theorem dX3_here_31 : decode cX3_here 31 = .ok (.ireturn, 1) := by decide +kernel
theorem okX3_here : CalOK yX3_here cX3_here 1 (some .int) 0 := ⟨wd_72, wd_644, by decide +kernel⟩
theorem ovX3_here : VirOK yX3_here := ⟨wd_643, wd_15⟩
def FX3_here (B : Blk) : Option Int32 :=
  if ((B 5) 2) < 0 then
    some (0 : Int32)
  else
    if ((B 5) 1) ≤ ((B 5) 2) then
      some (0 : Int32)
    else
      ld (B 6) 80 ((B 5) 2) fun v3 =>
      some v3
set_option maxRecDepth 100000 in
set_option maxHeartbeats 4000000 in
theorem wX3_here {E : WE} {V : VT} {A : Nat → Prop} {H0 : Heap} {M : Mem} (Cx : CX E RX3 cX3_here 1 0 0) {r : Int32} {B : Blk} (hret : RetI E V A H0 cX3_here .int r (jb M 11 B)) {H : Heap} {locs : List Loc} {ls : Array Slot} (hW : Wd V A H0 (jb M 11 B) (eS E) H locs) (hl : lv_has ls 1 [(0, .ref (vA V 11 5))]) (hF : FX3_here B = some r) : Wq E H locs 0 ls [] := by
  unfold FX3_here at hF
  refine q_aload_n Cx dX3_here_0 rfl (lv_at hl 0 rfl) ?_
  refine qb_get (v := .int ((B 5) 2)) Cx hW oQ ic3 2 (by decide) rfl wd_227 dX3_here_1 ?_
  refine q_if_lt (tgt := 30) Cx dX3_here_4 (by decide) (fun c1 => ?_) (fun c1 => ?_)
  · have hF := (if_pos c1).symm.trans hF
    refine q_iconst (v := (0 : Int32)) Cx dX3_here_30 (by decide) ?_
    obtain rfl := Option.some.inj hF
    exact hret _ _ _ _ dX3_here_31 (nI32 _) hW
  · have hF := (if_neg c1).symm.trans hF
    refine q_aload_n Cx dX3_here_7 rfl (lv_at hl 0 rfl) ?_
    refine qb_get (v := .int ((B 5) 2)) Cx hW oQ ic3 2 (by decide) rfl wd_227 dX3_here_8 ?_
    refine q_aload_n Cx dX3_here_11 rfl (lv_at hl 0 rfl) ?_
    refine qb_get (v := .int ((B 5) 1)) Cx hW oQ ic3 1 (by decide) rfl wd_225 dX3_here_12 ?_
    refine q_icmp_ge (tgt := 30) Cx dX3_here_15 (by decide) (fun c2 => ?_) (fun c2 => ?_)
    · have hF := (if_pos c2).symm.trans hF
      refine q_iconst (v := (0 : Int32)) Cx dX3_here_30 (by decide) ?_
      obtain rfl := Option.some.inj hF
      exact hret _ _ _ _ dX3_here_31 (nI32 _) hW
    · have hF := (if_neg c2).symm.trans hF
      refine q_aload_n Cx dX3_here_18 rfl (lv_at hl 0 rfl) ?_
      refine q_get (v := .ref (vA V 11 6)) Cx hW oQ ic3 0 (by decide) rfl wd_224 dX3_here_19 ?_
      refine q_aload_n Cx dX3_here_22 rfl (lv_at hl 0 rfl) ?_
      refine qb_get (v := .int ((B 5) 2)) Cx hW oQ ic3 2 (by decide) rfl wd_227 dX3_here_23 ?_
      obtain ⟨h4, v3, e5, hF⟩ := ld_some hF
      refine qb_cald Cx hW ax_6 h4 e5 dX3_here_26 ?_
      refine q_goto (tgt := 31) Cx dX3_here_27 (by decide) ?_
      obtain rfl := Option.some.inj hF
      exact hret _ _ _ _ dX3_here_31 (nI32 _) hW
set_option maxRecDepth 100000 in
theorem kX3_here {l : Launch} {V : VT} {M : Mem} {B : Blk} {r : Int32} (hF : FX3_here B = some r) : MetI l V yX3_here cX3_here 1 .int ({ frames := 0, cells := 0, slots := 0, locals := 0 } : Room) [.ref (vA V 11 5)] r (jb M 11 B) (jb M 11 B) := metI_of (by decide) (Nat.le_of_ble_eq_true rfl) (fun E H0 _ Cx hret H locs ls hW hl => wX3_here Cx hret hW hl hF)
theorem dX3_readSign_0 : decode cX3_readSign 0 = .ok (.aload_n 0, 1) := by decide +kernel
theorem dX3_readSign_1 : decode cX3_readSign 1 = .ok (.invokevirtual 49, 3) := by decide +kernel
theorem dX3_readSign_4 : decode cX3_readSign 4 = .ok (.iload_n 1, 1) := by decide +kernel
theorem dX3_readSign_5 : decode cX3_readSign 5 = .ok (.if_icmp .eq 5, 3) := by decide +kernel
theorem dX3_readSign_8 : decode cX3_readSign 8 = .ok (.iconst 0, 1) := by decide +kernel
theorem dX3_readSign_9 : decode cX3_readSign 9 = .ok (.ireturn, 1) := by decide +kernel
theorem dX3_readSign_10 : decode cX3_readSign 10 = .ok (.aload_n 0, 1) := by decide +kernel
theorem dX3_readSign_11 : decode cX3_readSign 11 = .ok (.dup, 1) := by decide +kernel
theorem dX3_readSign_12 : decode cX3_readSign 12 = .ok (.getfield 29, 3) := by decide +kernel
theorem dX3_readSign_15 : decode cX3_readSign 15 = .ok (.iconst 1, 1) := by decide +kernel
theorem dX3_readSign_16 : decode cX3_readSign 16 = .ok (.iadd, 1) := by decide +kernel
theorem dX3_readSign_17 : decode cX3_readSign 17 = .ok (.putfield 29, 3) := by decide +kernel
theorem dX3_readSign_20 : decode cX3_readSign 20 = .ok (.iconst 1, 1) := by decide +kernel
theorem dX3_readSign_21 : decode cX3_readSign 21 = .ok (.ireturn, 1) := by decide +kernel
theorem okX3_readSign : CalOK yX3_readSign cX3_readSign 2 (some .boolean) 1 := ⟨wd_72, wd_648, by decide +kernel⟩
theorem ovX3_readSign : VirOK yX3_readSign := ⟨wd_647, wd_16⟩
def FX3_readSign (B : Blk) (l1 : Int32) : Option (Int32 × Blk) :=
  c1 (FX3_here B) fun r1 =>
  if r1 = l1 then
    lt1 (bs B 5 2 (((B 5) 2) + (1 : Int32))) fun B4 =>
    some ((1 : Int32), B4)
  else
    some ((0 : Int32), B)
set_option maxRecDepth 100000 in
set_option maxHeartbeats 4000000 in
theorem wX3_readSign {E : WE} {V : VT} {A : Nat → Prop} {H0 : Heap} {M : Mem} (Cx : CX E RX3 cX3_readSign 2 1 20) {r : Int32} {B' : Blk} (hret : RetI E V A H0 cX3_readSign .boolean r (jb M 11 B')) {H : Heap} {locs : List Loc} {ls : Array Slot} {l1 : Int32} {B : Blk} (hW : Wd V A H0 (jb M 11 B) (eS E) H locs) (hl : lv_has ls 2 [(0, .ref (vA V 11 5)), (1, .int l1)]) (hF : FX3_readSign B l1 = some (r, B')) : Wq E H locs 0 ls [] := by
  unfold FX3_readSign at hF
  refine q_aload_n Cx dX3_readSign_0 rfl (lv_at hl 0 rfl) ?_
  obtain ⟨r1, e2, hF⟩ := c1_some hF
  refine q_callI (as := []) (rest := []) Cx (kX3_here e2) okX3_here ovX3_here wd_641 ⟨rfl, rfl, by decide, by decide⟩ hW oQ ic3 rfl hl.1 (Nat.le_of_ble_eq_true rfl) rfl dX3_readSign_1 (fun H locs hW => ?_)
  refine q_iload_n Cx dX3_readSign_4 rfl (lv_at hl 1 rfl) ?_
  refine q_icmp_eq (tgt := 10) Cx dX3_readSign_5 (by decide) (fun c3 => ?_) (fun c3 => ?_)
  · have hF := (if_pos c3).symm.trans hF
    refine q_aload_n Cx dX3_readSign_10 rfl (lv_at hl 0 rfl) ?_
    refine q_dup Cx dX3_readSign_11 rfl ?_
    refine qb_get (v := .int ((B 5) 2)) Cx hW oQ ic3 2 (by decide) rfl wd_227 dX3_readSign_12 ?_
    refine q_iconst (v := (1 : Int32)) Cx dX3_readSign_15 (by decide) ?_
    refine q_iadd Cx dX3_readSign_16 ?_
    obtain ⟨B4, e5, hF⟩ := lt1_some hF
    refine qb_put Cx hW oQ ic3 2 (by decide) (Nat.le_of_ble_eq_true rfl) e5 rfl rfl ⟨nI32 _, rfl⟩ wd_227 dX3_readSign_17 (fun H locs hW => ?_)
    refine q_iconst (v := (1 : Int32)) Cx dX3_readSign_20 (by decide) ?_
    obtain ⟨rfl, rfl⟩ := Prod.mk.inj (Option.some.inj hF)
    exact hret _ _ _ _ dX3_readSign_21 (by rfl) hW
  · have hF := (if_neg c3).symm.trans hF
    refine q_iconst (v := (0 : Int32)) Cx dX3_readSign_8 (by decide) ?_
    obtain ⟨rfl, rfl⟩ := Prod.mk.inj (Option.some.inj hF)
    exact hret _ _ _ _ dX3_readSign_9 (by rfl) hW
set_option maxRecDepth 100000 in
theorem kX3_readSign {l : Launch} {V : VT} {M : Mem} {B : Blk} {l1 : Int32} {r : Int32} {B' : Blk} (hF : FX3_readSign B l1 = some (r, B')) : MetI l V yX3_readSign cX3_readSign 2 .boolean ({ frames := 1, cells := 0, slots := 0, locals := 20 } : Room) [.ref (vA V 11 5), .int l1] r (jb M 11 B) (jb M 11 B') := metI_of (by decide) (Nat.le_of_ble_eq_true rfl) (fun E H0 _ Cx hret H locs ls hW hl => wX3_readSign Cx hret hW hl hF)
theorem dX3_isDigit_0 : decode cX3_isDigit 0 = .ok (.aload_n 0, 1) := by decide +kernel
theorem dX3_isDigit_1 : decode cX3_isDigit 1 = .ok (.invokevirtual 49, 3) := by decide +kernel
theorem dX3_isDigit_4 : decode cX3_isDigit 4 = .ok (.bipush 48, 2) := by decide +kernel
theorem dX3_isDigit_6 : decode cX3_isDigit 6 = .ok (.if_icmp .lt 16, 3) := by decide +kernel
theorem dX3_isDigit_9 : decode cX3_isDigit 9 = .ok (.aload_n 0, 1) := by decide +kernel
theorem dX3_isDigit_10 : decode cX3_isDigit 10 = .ok (.invokevirtual 49, 3) := by decide +kernel
theorem dX3_isDigit_13 : decode cX3_isDigit 13 = .ok (.bipush 57, 2) := by decide +kernel
theorem dX3_isDigit_15 : decode cX3_isDigit 15 = .ok (.if_icmp .gt 7, 3) := by decide +kernel
theorem dX3_isDigit_18 : decode cX3_isDigit 18 = .ok (.iconst 1, 1) := by decide +kernel
theorem dX3_isDigit_19 : decode cX3_isDigit 19 = .ok (.goto 4, 3) := by decide +kernel
theorem dX3_isDigit_22 : decode cX3_isDigit 22 = .ok (.iconst 0, 1) := by decide +kernel
theorem dX3_isDigit_23 : decode cX3_isDigit 23 = .ok (.ireturn, 1) := by decide +kernel
theorem okX3_isDigit : CalOK yX3_isDigit cX3_isDigit 1 (some .boolean) 0 := ⟨wd_72, wd_660, by decide +kernel⟩
theorem ovX3_isDigit : VirOK yX3_isDigit := ⟨wd_659, wd_19⟩
def FX3_isDigit (B : Blk) : Option Int32 :=
  c1 (FX3_here B) fun r1 =>
  if r1 < (48 : Int32) then
    some (0 : Int32)
  else
    c1 (FX3_here B) fun r4 =>
    if (57 : Int32) < r4 then
      some (0 : Int32)
    else
      some (1 : Int32)
set_option maxRecDepth 100000 in
set_option maxHeartbeats 4000000 in
theorem wX3_isDigit {E : WE} {V : VT} {A : Nat → Prop} {H0 : Heap} {M : Mem} (Cx : CX E RX3 cX3_isDigit 1 1 20) {r : Int32} {B : Blk} (hret : RetI E V A H0 cX3_isDigit .boolean r (jb M 11 B)) {H : Heap} {locs : List Loc} {ls : Array Slot} (hW : Wd V A H0 (jb M 11 B) (eS E) H locs) (hl : lv_has ls 1 [(0, .ref (vA V 11 5))]) (hF : FX3_isDigit B = some r) : Wq E H locs 0 ls [] := by
  unfold FX3_isDigit at hF
  refine q_aload_n Cx dX3_isDigit_0 rfl (lv_at hl 0 rfl) ?_
  obtain ⟨r1, e2, hF⟩ := c1_some hF
  refine q_callI (as := []) (rest := []) Cx (kX3_here e2) okX3_here ovX3_here wd_641 ⟨rfl, rfl, by decide, by decide⟩ hW oQ ic3 rfl hl.1 (Nat.le_of_ble_eq_true rfl) rfl dX3_isDigit_1 (fun H locs hW => ?_)
  refine q_bipush (v := (48 : Int32)) Cx dX3_isDigit_4 (by decide) ?_
  refine q_icmp_lt (tgt := 22) Cx dX3_isDigit_6 (by decide) (fun c3 => ?_) (fun c3 => ?_)
  · have hF := (if_pos c3).symm.trans hF
    refine q_iconst (v := (0 : Int32)) Cx dX3_isDigit_22 (by decide) ?_
    obtain rfl := Option.some.inj hF
    exact hret _ _ _ _ dX3_isDigit_23 (by rfl) hW
  · have hF := (if_neg c3).symm.trans hF
    refine q_aload_n Cx dX3_isDigit_9 rfl (lv_at hl 0 rfl) ?_
    obtain ⟨r4, e5, hF⟩ := c1_some hF
    refine q_callI (as := []) (rest := []) Cx (kX3_here e5) okX3_here ovX3_here wd_641 ⟨rfl, rfl, by decide, by decide⟩ hW oQ ic3 rfl hl.1 (Nat.le_of_ble_eq_true rfl) rfl dX3_isDigit_10 (fun H locs hW => ?_)
    refine q_bipush (v := (57 : Int32)) Cx dX3_isDigit_13 (by decide) ?_
    refine q_icmp_gt (tgt := 22) Cx dX3_isDigit_15 (by decide) (fun c6 => ?_) (fun c6 => ?_)
    · have hF := (if_pos c6).symm.trans hF
      refine q_iconst (v := (0 : Int32)) Cx dX3_isDigit_22 (by decide) ?_
      obtain rfl := Option.some.inj hF
      exact hret _ _ _ _ dX3_isDigit_23 (by rfl) hW
    · have hF := (if_neg c6).symm.trans hF
      refine q_iconst (v := (1 : Int32)) Cx dX3_isDigit_18 (by decide) ?_
      refine q_goto (tgt := 23) Cx dX3_isDigit_19 (by decide) ?_
      obtain rfl := Option.some.inj hF
      exact hret _ _ _ _ dX3_isDigit_23 (by rfl) hW
set_option maxRecDepth 100000 in
theorem kX3_isDigit {l : Launch} {V : VT} {M : Mem} {B : Blk} {r : Int32} (hF : FX3_isDigit B = some r) : MetI l V yX3_isDigit cX3_isDigit 1 .boolean ({ frames := 1, cells := 0, slots := 0, locals := 20 } : Room) [.ref (vA V 11 5)] r (jb M 11 B) (jb M 11 B) := metI_of (by decide) (Nat.le_of_ble_eq_true rfl) (fun E H0 _ Cx hret H locs ls hW hl => wX3_isDigit Cx hret hW hl hF)
theorem dX3_keep_0 : decode cX3_keep 0 = .ok (.aload_n 0, 1) := by decide +kernel
theorem dX3_keep_1 : decode cX3_keep 1 = .ok (.getfield 46, 3) := by decide +kernel
theorem dX3_keep_4 : decode cX3_keep 4 = .ok (.aload_n 0, 1) := by decide +kernel
theorem dX3_keep_5 : decode cX3_keep 5 = .ok (.getfield 15, 3) := by decide +kernel
theorem dX3_keep_8 : decode cX3_keep 8 = .ok (.arraylength, 1) := by decide +kernel
theorem dX3_keep_9 : decode cX3_keep 9 = .ok (.if_icmp .lt 5, 3) := by decide +kernel
theorem dX3_keep_12 : decode cX3_keep 12 = .ok (.iconst 0, 1) := by decide +kernel
theorem dX3_keep_13 : decode cX3_keep 13 = .ok (.ireturn, 1) := by decide +kernel
theorem dX3_keep_14 : decode cX3_keep 14 = .ok (.aload_n 0, 1) := by decide +kernel
theorem dX3_keep_15 : decode cX3_keep 15 = .ok (.getfield 15, 3) := by decide +kernel
theorem dX3_keep_18 : decode cX3_keep 18 = .ok (.aload_n 0, 1) := by decide +kernel
theorem dX3_keep_19 : decode cX3_keep 19 = .ok (.getfield 46, 3) := by decide +kernel
theorem dX3_keep_22 : decode cX3_keep 22 = .ok (.iload_n 1, 1) := by decide +kernel
theorem dX3_keep_23 : decode cX3_keep 23 = .ok (.iastore, 1) := by decide +kernel
theorem dX3_keep_24 : decode cX3_keep 24 = .ok (.aload_n 0, 1) := by decide +kernel
theorem dX3_keep_25 : decode cX3_keep 25 = .ok (.dup, 1) := by decide +kernel
theorem dX3_keep_26 : decode cX3_keep 26 = .ok (.getfield 46, 3) := by decide +kernel
theorem dX3_keep_29 : decode cX3_keep 29 = .ok (.iconst 1, 1) := by decide +kernel
theorem dX3_keep_30 : decode cX3_keep 30 = .ok (.iadd, 1) := by decide +kernel
theorem dX3_keep_31 : decode cX3_keep 31 = .ok (.putfield 46, 3) := by decide +kernel
theorem dX3_keep_34 : decode cX3_keep 34 = .ok (.iconst 1, 1) := by decide +kernel
theorem dX3_keep_35 : decode cX3_keep 35 = .ok (.ireturn, 1) := by decide +kernel
theorem okX3_keep : CalOK yX3_keep cX3_keep 2 (some .boolean) 1 := ⟨wd_72, wd_664, by decide +kernel⟩
theorem ovX3_keep : VirOK yX3_keep := ⟨wd_663, wd_20⟩
def FX3_keep (B : Blk) (l1 : Int32) : Option (Int32 × Blk) :=
  if ((B 5) 5) < (5 : Int32) then
    stb B 7 5 ((B 5) 5) l1 fun B2 =>
    lt1 (bs B2 5 5 (((B2 5) 5) + (1 : Int32))) fun B5 =>
    some ((1 : Int32), B5)
  else
    some ((0 : Int32), B)
set_option maxRecDepth 100000 in
set_option maxHeartbeats 4000000 in
theorem wX3_keep {E : WE} {V : VT} {A : Nat → Prop} {H0 : Heap} {M : Mem} (Cx : CX E RX3 cX3_keep 2 0 0) {r : Int32} {B' : Blk} (hret : RetI E V A H0 cX3_keep .boolean r (jb M 11 B')) {H : Heap} {locs : List Loc} {ls : Array Slot} {l1 : Int32} {B : Blk} (hW : Wd V A H0 (jb M 11 B) (eS E) H locs) (hl : lv_has ls 2 [(0, .ref (vA V 11 5)), (1, .int l1)]) (hF : FX3_keep B l1 = some (r, B')) : Wq E H locs 0 ls [] := by
  unfold FX3_keep at hF
  refine q_aload_n Cx dX3_keep_0 rfl (lv_at hl 0 rfl) ?_
  refine qb_get (v := .int ((B 5) 5)) Cx hW oQ ic3 5 (by decide) rfl wd_232 dX3_keep_1 ?_
  refine q_aload_n Cx dX3_keep_4 rfl (lv_at hl 0 rfl) ?_
  refine q_get (v := .ref (vA V 11 7)) Cx hW oQ ic3 4 (by decide) rfl wd_230 dX3_keep_5 ?_
  refine q_alen (v := (5 : Int32)) Cx hW ax_7 (by decide) dX3_keep_8 ?_
  refine q_icmp_lt (tgt := 14) Cx dX3_keep_9 (by decide) (fun c1 => ?_) (fun c1 => ?_)
  · have hF := (if_pos c1).symm.trans hF
    refine q_aload_n Cx dX3_keep_14 rfl (lv_at hl 0 rfl) ?_
    refine q_get (v := .ref (vA V 11 7)) Cx hW oQ ic3 4 (by decide) rfl wd_230 dX3_keep_15 ?_
    refine q_aload_n Cx dX3_keep_18 rfl (lv_at hl 0 rfl) ?_
    refine qb_get (v := .int ((B 5) 5)) Cx hW oQ ic3 5 (by decide) rfl wd_232 dX3_keep_19 ?_
    refine q_iload_n Cx dX3_keep_22 rfl (lv_at hl 1 rfl) ?_
    obtain ⟨h3, B2, e4, hF⟩ := stb_some hF
    refine qb_iast Cx hW ax_7 h3 e4 dX3_keep_23 (fun H locs hW => ?_)
    refine q_aload_n Cx dX3_keep_24 rfl (lv_at hl 0 rfl) ?_
    refine q_dup Cx dX3_keep_25 rfl ?_
    refine qb_get (v := .int ((B2 5) 5)) Cx hW oQ ic3 5 (by decide) rfl wd_232 dX3_keep_26 ?_
    refine q_iconst (v := (1 : Int32)) Cx dX3_keep_29 (by decide) ?_
    refine q_iadd Cx dX3_keep_30 ?_
    obtain ⟨B5, e6, hF⟩ := lt1_some hF
    refine qb_put Cx hW oQ ic3 5 (by decide) (Nat.le_of_ble_eq_true rfl) e6 rfl rfl ⟨nI32 _, rfl⟩ wd_232 dX3_keep_31 (fun H locs hW => ?_)
    refine q_iconst (v := (1 : Int32)) Cx dX3_keep_34 (by decide) ?_
    obtain ⟨rfl, rfl⟩ := Prod.mk.inj (Option.some.inj hF)
    exact hret _ _ _ _ dX3_keep_35 (by rfl) hW
  · have hF := (if_neg c1).symm.trans hF
    refine q_iconst (v := (0 : Int32)) Cx dX3_keep_12 (by decide) ?_
    obtain ⟨rfl, rfl⟩ := Prod.mk.inj (Option.some.inj hF)
    exact hret _ _ _ _ dX3_keep_13 (by rfl) hW
set_option maxRecDepth 100000 in
theorem kX3_keep {l : Launch} {V : VT} {M : Mem} {B : Blk} {l1 : Int32} {r : Int32} {B' : Blk} (hF : FX3_keep B l1 = some (r, B')) : MetI l V yX3_keep cX3_keep 2 .boolean ({ frames := 0, cells := 0, slots := 0, locals := 0 } : Room) [.ref (vA V 11 5), .int l1] r (jb M 11 B) (jb M 11 B') := metI_of (by decide) (Nat.le_of_ble_eq_true rfl) (fun E H0 _ Cx hret H locs ls hW hl => wX3_keep Cx hret hW hl hF)
theorem dX3_readDigit_0 : decode cX3_readDigit 0 = .ok (.aload_n 0, 1) := by decide +kernel
theorem dX3_readDigit_1 : decode cX3_readDigit 1 = .ok (.invokevirtual 72, 3) := by decide +kernel
theorem dX3_readDigit_4 : decode cX3_readDigit 4 = .ok (.ifCond .ne 5, 3) := by decide +kernel
theorem dX3_readDigit_7 : decode cX3_readDigit 7 = .ok (.iconst 0, 1) := by decide +kernel
theorem dX3_readDigit_8 : decode cX3_readDigit 8 = .ok (.ireturn, 1) := by decide +kernel
theorem dX3_readDigit_9 : decode cX3_readDigit 9 = .ok (.aload_n 0, 1) := by decide +kernel
theorem dX3_readDigit_10 : decode cX3_readDigit 10 = .ok (.invokevirtual 49, 3) := by decide +kernel
theorem dX3_readDigit_13 : decode cX3_readDigit 13 = .ok (.bipush 48, 2) := by decide +kernel
theorem dX3_readDigit_15 : decode cX3_readDigit 15 = .ok (.isub, 1) := by decide +kernel
theorem dX3_readDigit_16 : decode cX3_readDigit 16 = .ok (.istore_n 1, 1) := by decide +kernel
theorem dX3_readDigit_17 : decode cX3_readDigit 17 = .ok (.aload_n 0, 1) := by decide +kernel
theorem dX3_readDigit_18 : decode cX3_readDigit 18 = .ok (.dup, 1) := by decide +kernel
theorem dX3_readDigit_19 : decode cX3_readDigit 19 = .ok (.getfield 29, 3) := by decide +kernel
theorem dX3_readDigit_22 : decode cX3_readDigit 22 = .ok (.iconst 1, 1) := by decide +kernel
theorem dX3_readDigit_23 : decode cX3_readDigit 23 = .ok (.iadd, 1) := by decide +kernel
theorem dX3_readDigit_24 : decode cX3_readDigit 24 = .ok (.putfield 29, 3) := by decide +kernel
theorem dX3_readDigit_27 : decode cX3_readDigit 27 = .ok (.aload_n 0, 1) := by decide +kernel
theorem dX3_readDigit_28 : decode cX3_readDigit 28 = .ok (.iload_n 1, 1) := by decide +kernel
theorem dX3_readDigit_29 : decode cX3_readDigit 29 = .ok (.invokevirtual 68, 3) := by decide +kernel
theorem dX3_readDigit_32 : decode cX3_readDigit 32 = .ok (.ireturn, 1) := by decide +kernel
theorem okX3_readDigit : CalOK yX3_readDigit cX3_readDigit 2 (some .boolean) 0 := ⟨wd_72, wd_656, by decide +kernel⟩
theorem ovX3_readDigit : VirOK yX3_readDigit := ⟨wd_655, wd_18⟩
def FX3_readDigit (B : Blk) : Option (Int32 × Blk) :=
  c1 (FX3_isDigit B) fun r1 =>
  if r1 = 0 then
    some ((0 : Int32), B)
  else
    c1 (FX3_here B) fun r4 =>
    lt1 (r4 - (48 : Int32)) fun x6 =>
    lt1 (bs B 5 2 (((B 5) 2) + (1 : Int32))) fun B8 =>
    c2 (FX3_keep B8 x6) fun r10 B12 =>
    rZ r10 (some (r10, B12))
set_option maxRecDepth 100000 in
set_option maxHeartbeats 4000000 in
theorem wX3_readDigit {E : WE} {V : VT} {A : Nat → Prop} {H0 : Heap} {M : Mem} (Cx : CX E RX3 cX3_readDigit 2 2 40) {r : Int32} {B' : Blk} (hret : RetI E V A H0 cX3_readDigit .boolean r (jb M 11 B')) {H : Heap} {locs : List Loc} {ls : Array Slot} {B : Blk} (hW : Wd V A H0 (jb M 11 B) (eS E) H locs) (hl : lv_has ls 2 [(0, .ref (vA V 11 5))]) (hF : FX3_readDigit B = some (r, B')) : Wq E H locs 0 ls [] := by
  unfold FX3_readDigit at hF
  refine q_aload_n Cx dX3_readDigit_0 rfl (lv_at hl 0 rfl) ?_
  obtain ⟨r1, e2, hF⟩ := c1_some hF
  refine q_callI (as := []) (rest := []) Cx (kX3_isDigit e2) okX3_isDigit ovX3_isDigit wd_657 ⟨rfl, rfl, by decide, by decide⟩ hW oQ ic3 rfl hl.1 (Nat.le_of_ble_eq_true rfl) rfl dX3_readDigit_1 (fun H locs hW => ?_)
  refine q_if_ne (tgt := 9) Cx dX3_readDigit_4 (by decide) (fun c3 => ?_) (fun c3 => ?_)
  · have hF := (if_neg c3).symm.trans hF
    refine q_aload_n Cx dX3_readDigit_9 rfl (lv_at hl 0 rfl) ?_
    obtain ⟨r4, e5, hF⟩ := c1_some hF
    refine q_callI (as := []) (rest := []) Cx (kX3_here e5) okX3_here ovX3_here wd_641 ⟨rfl, rfl, by decide, by decide⟩ hW oQ ic3 rfl hl.1 (Nat.le_of_ble_eq_true rfl) rfl dX3_readDigit_10 (fun H locs hW => ?_)
    refine q_bipush (v := (48 : Int32)) Cx dX3_readDigit_13 (by decide) ?_
    refine q_isub Cx dX3_readDigit_15 ?_
    obtain ⟨x6, e7, hF⟩ := lt1_some hF
    refine q_topi e7 ?_
    refine q_istore_n (lv' := [(1, .int x6), (0, .ref (vA V 11 5))]) Cx dX3_readDigit_16 rfl hl (by decide) rfl (fun ls hl => ?_)
    refine q_aload_n Cx dX3_readDigit_17 rfl (lv_at hl 1 rfl) ?_
    refine q_dup Cx dX3_readDigit_18 rfl ?_
    refine qb_get (v := .int ((B 5) 2)) Cx hW oQ ic3 2 (by decide) rfl wd_227 dX3_readDigit_19 ?_
    refine q_iconst (v := (1 : Int32)) Cx dX3_readDigit_22 (by decide) ?_
    refine q_iadd Cx dX3_readDigit_23 ?_
    obtain ⟨B8, e9, hF⟩ := lt1_some hF
    refine qb_put Cx hW oQ ic3 2 (by decide) (Nat.le_of_ble_eq_true rfl) e9 rfl rfl ⟨nI32 _, rfl⟩ wd_227 dX3_readDigit_24 (fun H locs hW => ?_)
    refine q_aload_n Cx dX3_readDigit_27 rfl (lv_at hl 1 rfl) ?_
    refine q_iload_n Cx dX3_readDigit_28 rfl (lv_at hl 0 rfl) ?_
    obtain ⟨r10, B12, e11, hF⟩ := c2_some hF
    refine q_callI (as := [.int x6]) (rest := []) Cx (kX3_keep e11) okX3_keep ovX3_keep wd_661 ⟨rfl, rfl, by decide, by decide⟩ hW oQ ic3 rfl hl.1 (Nat.le_of_ble_eq_true rfl) rfl dX3_readDigit_29 (fun H locs hW => ?_)
    obtain ⟨h13, hF⟩ := rZ_some hF
    obtain ⟨rfl, rfl⟩ := Prod.mk.inj (Option.some.inj hF)
    exact hret _ _ _ _ dX3_readDigit_32 h13 hW
  · have hF := (if_pos c3).symm.trans hF
    refine q_iconst (v := (0 : Int32)) Cx dX3_readDigit_7 (by decide) ?_
    obtain ⟨rfl, rfl⟩ := Prod.mk.inj (Option.some.inj hF)
    exact hret _ _ _ _ dX3_readDigit_8 (by rfl) hW
set_option maxRecDepth 100000 in
theorem kX3_readDigit {l : Launch} {V : VT} {M : Mem} {B : Blk} {r : Int32} {B' : Blk} (hF : FX3_readDigit B = some (r, B')) : MetI l V yX3_readDigit cX3_readDigit 2 .boolean ({ frames := 2, cells := 0, slots := 0, locals := 40 } : Room) [.ref (vA V 11 5)] r (jb M 11 B) (jb M 11 B') := metI_of (by decide) (Nat.le_of_ble_eq_true rfl) (fun E H0 _ Cx hret H locs ls hW hl => wX3_readDigit Cx hret hW hl hF)
theorem dX3_readNumber_0 : decode cX3_readNumber 0 = .ok (.aload_n 0, 1) := by decide +kernel
theorem dX3_readNumber_1 : decode cX3_readNumber 1 = .ok (.invokevirtual 72, 3) := by decide +kernel
theorem dX3_readNumber_4 : decode cX3_readNumber 4 = .ok (.ifCond .ne 5, 3) := by decide +kernel
theorem dX3_readNumber_7 : decode cX3_readNumber 7 = .ok (.iconst 0, 1) := by decide +kernel
theorem dX3_readNumber_8 : decode cX3_readNumber 8 = .ok (.ireturn, 1) := by decide +kernel
theorem dX3_readNumber_9 : decode cX3_readNumber 9 = .ok (.iconst 0, 1) := by decide +kernel
theorem dX3_readNumber_10 : decode cX3_readNumber 10 = .ok (.istore_n 1, 1) := by decide +kernel
theorem dX3_readNumber_11 : decode cX3_readNumber 11 = .ok (.iconst 0, 1) := by decide +kernel
theorem dX3_readNumber_12 : decode cX3_readNumber 12 = .ok (.istore_n 2, 1) := by decide +kernel
theorem dX3_readNumber_13 : decode cX3_readNumber 13 = .ok (.iload_n 2, 1) := by decide +kernel
theorem dX3_readNumber_14 : decode cX3_readNumber 14 = .ok (.iconst 5, 1) := by decide +kernel
theorem dX3_readNumber_15 : decode cX3_readNumber 15 = .ok (.if_icmp .ge 47, 3) := by decide +kernel
theorem dX3_readNumber_18 : decode cX3_readNumber 18 = .ok (.aload_n 0, 1) := by decide +kernel
theorem dX3_readNumber_19 : decode cX3_readNumber 19 = .ok (.invokevirtual 72, 3) := by decide +kernel
theorem dX3_readNumber_22 : decode cX3_readNumber 22 = .ok (.ifCond .eq 40, 3) := by decide +kernel
theorem dX3_readNumber_25 : decode cX3_readNumber 25 = .ok (.iload_n 2, 1) := by decide +kernel
theorem dX3_readNumber_26 : decode cX3_readNumber 26 = .ok (.ifCond .eq 7, 3) := by decide +kernel
theorem dX3_readNumber_29 : decode cX3_readNumber 29 = .ok (.iload_n 1, 1) := by decide +kernel
theorem dX3_readNumber_30 : decode cX3_readNumber 30 = .ok (.ifCond .le 32, 3) := by decide +kernel
theorem dX3_readNumber_33 : decode cX3_readNumber 33 = .ok (.iload_n 1, 1) := by decide +kernel
theorem dX3_readNumber_34 : decode cX3_readNumber 34 = .ok (.bipush 10, 2) := by decide +kernel
theorem dX3_readNumber_36 : decode cX3_readNumber 36 = .ok (.imul, 1) := by decide +kernel
theorem dX3_readNumber_37 : decode cX3_readNumber 37 = .ok (.aload_n 0, 1) := by decide +kernel
theorem dX3_readNumber_38 : decode cX3_readNumber 38 = .ok (.invokevirtual 49, 3) := by decide +kernel
theorem dX3_readNumber_41 : decode cX3_readNumber 41 = .ok (.iadd, 1) := by decide +kernel
theorem dX3_readNumber_42 : decode cX3_readNumber 42 = .ok (.bipush 48, 2) := by decide +kernel
theorem dX3_readNumber_44 : decode cX3_readNumber 44 = .ok (.isub, 1) := by decide +kernel
theorem dX3_readNumber_45 : decode cX3_readNumber 45 = .ok (.istore_n 1, 1) := by decide +kernel
theorem dX3_readNumber_46 : decode cX3_readNumber 46 = .ok (.aload_n 0, 1) := by decide +kernel
theorem dX3_readNumber_47 : decode cX3_readNumber 47 = .ok (.dup, 1) := by decide +kernel
theorem dX3_readNumber_48 : decode cX3_readNumber 48 = .ok (.getfield 29, 3) := by decide +kernel
theorem dX3_readNumber_51 : decode cX3_readNumber 51 = .ok (.iconst 1, 1) := by decide +kernel
theorem dX3_readNumber_52 : decode cX3_readNumber 52 = .ok (.iadd, 1) := by decide +kernel
theorem dX3_readNumber_53 : decode cX3_readNumber 53 = .ok (.putfield 29, 3) := by decide +kernel
theorem dX3_readNumber_56 : decode cX3_readNumber 56 = .ok (.iinc 2 1, 3) := by decide +kernel
theorem dX3_readNumber_59 : decode cX3_readNumber 59 = .ok (.goto (-46), 3) := by decide +kernel
theorem dX3_readNumber_62 : decode cX3_readNumber 62 = .ok (.aload_n 0, 1) := by decide +kernel
theorem dX3_readNumber_63 : decode cX3_readNumber 63 = .ok (.iload_n 1, 1) := by decide +kernel
theorem dX3_readNumber_64 : decode cX3_readNumber 64 = .ok (.invokevirtual 68, 3) := by decide +kernel
theorem dX3_readNumber_67 : decode cX3_readNumber 67 = .ok (.ireturn, 1) := by decide +kernel
theorem okX3_readNumber : CalOK yX3_readNumber cX3_readNumber 3 (some .boolean) 0 := ⟨wd_72, wd_668, by decide +kernel⟩
theorem ovX3_readNumber : VirOK yX3_readNumber := ⟨wd_667, wd_21⟩
def FX3_readNumber_62 (l1 : Int32) (B : Blk) : Option (Int32 × Blk) :=
  c2 (FX3_keep B l1) fun r5 B7 =>
  rZ r5 (some (r5, B7))
set_option maxRecDepth 100000 in
set_option maxHeartbeats 4000000 in
theorem wX3_readNumber_62 {E : WE} {V : VT} {A : Nat → Prop} {H0 : Heap} {M : Mem} (Cx : CX E RX3 cX3_readNumber 3 2 40) {r : Int32} {B' : Blk} (hret : RetI E V A H0 cX3_readNumber .boolean r (jb M 11 B')) {H : Heap} {locs : List Loc} {ls : Array Slot} {l1 : Int32} {B : Blk} (hW : Wd V A H0 (jb M 11 B) (eS E) H locs) (hl : lv_has ls 3 [(0, .ref (vA V 11 5)), (1, .int l1)]) (hF : FX3_readNumber_62 l1 B = some (r, B')) : Wq E H locs 62 ls [] := by
  unfold FX3_readNumber_62 at hF
  refine q_aload_n Cx dX3_readNumber_62 rfl (lv_at hl 0 rfl) ?_
  refine q_iload_n Cx dX3_readNumber_63 rfl (lv_at hl 1 rfl) ?_
  obtain ⟨r5, B7, e6, hF⟩ := c2_some hF
  refine q_callI (as := [.int l1]) (rest := []) Cx (kX3_keep e6) okX3_keep ovX3_keep wd_661 ⟨rfl, rfl, by decide, by decide⟩ hW oQ ic3 rfl hl.1 (Nat.le_of_ble_eq_true rfl) rfl dX3_readNumber_64 (fun H locs hW => ?_)
  obtain ⟨h8, hF⟩ := rZ_some hF
  obtain ⟨rfl, rfl⟩ := Prod.mk.inj (Option.some.inj hF)
  exact hret _ _ _ _ dX3_readNumber_67 h8 hW
def FX3_readNumber_33 (k13 : Int32 → Int32 → Blk → Option (Int32 × Blk)) (l1 : Int32) (l2 : Int32) (B : Blk) : Option (Int32 × Blk) :=
  c1 (FX3_here B) fun r13 =>
  lt1 (((l1 * (10 : Int32)) + r13) - (48 : Int32)) fun x15 =>
  lt1 (bs B 5 2 (((B 5) 2) + (1 : Int32))) fun B17 =>
  lt1 (l2 + (1 : Int32)) fun x19 =>
  k13 x15 x19 B17
set_option maxRecDepth 100000 in
set_option maxHeartbeats 4000000 in
theorem wX3_readNumber_33 {E : WE} {V : VT} {A : Nat → Prop} {H0 : Heap} {M : Mem} (Cx : CX E RX3 cX3_readNumber 3 2 40) {r : Int32} {B' : Blk} (hret : RetI E V A H0 cX3_readNumber .boolean r (jb M 11 B')) {k13 : Int32 → Int32 → Blk → Option (Int32 × Blk)} (hk13 : ∀ {H : Heap} {locs : List Loc} {ls : Array Slot} {B : Blk} {l1 : Int32} {l2 : Int32}, Wd V A H0 (jb M 11 B) (eS E) H locs → lv_has ls 3 [(0, .ref (vA V 11 5)), (1, .int l1), (2, .int l2)] → k13 l1 l2 B = some (r, B') → Wq E H locs 13 ls []) {H : Heap} {locs : List Loc} {ls : Array Slot} {l1 : Int32} {l2 : Int32} {B : Blk} (hW : Wd V A H0 (jb M 11 B) (eS E) H locs) (hl : lv_has ls 3 [(0, .ref (vA V 11 5)), (1, .int l1), (2, .int l2)]) (hF : FX3_readNumber_33 k13 l1 l2 B = some (r, B')) : Wq E H locs 33 ls [] := by
  unfold FX3_readNumber_33 at hF
  refine q_iload_n Cx dX3_readNumber_33 rfl (lv_at hl 1 rfl) ?_
  refine q_bipush (v := (10 : Int32)) Cx dX3_readNumber_34 (by decide) ?_
  refine q_imul Cx dX3_readNumber_36 ?_
  refine q_aload_n Cx dX3_readNumber_37 rfl (lv_at hl 0 rfl) ?_
  obtain ⟨r13, e14, hF⟩ := c1_some hF
  refine q_callI (as := []) (rest := [.int (l1 * (10 : Int32))]) Cx (kX3_here e14) okX3_here ovX3_here wd_641 ⟨rfl, rfl, by decide, by decide⟩ hW oQ ic3 rfl hl.1 (Nat.le_of_ble_eq_true rfl) rfl dX3_readNumber_38 (fun H locs hW => ?_)
  refine q_iadd Cx dX3_readNumber_41 ?_
  refine q_bipush (v := (48 : Int32)) Cx dX3_readNumber_42 (by decide) ?_
  refine q_isub Cx dX3_readNumber_44 ?_
  obtain ⟨x15, e16, hF⟩ := lt1_some hF
  refine q_topi e16 ?_
  refine q_istore_n (lv' := [(1, .int x15), (0, .ref (vA V 11 5)), (2, .int l2)]) Cx dX3_readNumber_45 rfl hl (by decide) rfl (fun ls hl => ?_)
  refine q_aload_n Cx dX3_readNumber_46 rfl (lv_at hl 1 rfl) ?_
  refine q_dup Cx dX3_readNumber_47 rfl ?_
  refine qb_get (v := .int ((B 5) 2)) Cx hW oQ ic3 2 (by decide) rfl wd_227 dX3_readNumber_48 ?_
  refine q_iconst (v := (1 : Int32)) Cx dX3_readNumber_51 (by decide) ?_
  refine q_iadd Cx dX3_readNumber_52 ?_
  obtain ⟨B17, e18, hF⟩ := lt1_some hF
  refine qb_put Cx hW oQ ic3 2 (by decide) (Nat.le_of_ble_eq_true rfl) e18 rfl rfl ⟨nI32 _, rfl⟩ wd_227 dX3_readNumber_53 (fun H locs hW => ?_)
  obtain ⟨x19, e20, hF⟩ := lt1_some hF
  refine q_iinc (k := 2) (v := x19) (lv' := [(2, .int x19), (1, .int x15), (0, .ref (vA V 11 5))]) Cx dX3_readNumber_56 hl rfl e20.symm (by decide) rfl (fun ls hl => ?_)
  refine q_goto (tgt := 13) Cx dX3_readNumber_59 (by decide) ?_
  exact hk13 hW (lv_sub hl [2, 1, 0] rfl) hF
def FX3_readNumber_13s (k13 : Int32 → Int32 → Blk → Option (Int32 × Blk)) (l1 : Int32) (l2 : Int32) (B : Blk) : Option (Int32 × Blk) :=
  if (5 : Int32) ≤ l2 then
    FX3_readNumber_62 l1 B
  else
    c1 (FX3_isDigit B) fun r9 =>
    if r9 = 0 then
      FX3_readNumber_62 l1 B
    else
      if l2 = 0 then
        FX3_readNumber_33 k13 l1 l2 B
      else
        if l1 ≤ 0 then
          FX3_readNumber_62 l1 B
        else
          FX3_readNumber_33 k13 l1 l2 B
set_option maxRecDepth 100000 in
set_option maxHeartbeats 4000000 in
theorem wX3_readNumber_13s {E : WE} {V : VT} {A : Nat → Prop} {H0 : Heap} {M : Mem} (Cx : CX E RX3 cX3_readNumber 3 2 40) {r : Int32} {B' : Blk} (hret : RetI E V A H0 cX3_readNumber .boolean r (jb M 11 B')) {k13 : Int32 → Int32 → Blk → Option (Int32 × Blk)} (hk13 : ∀ {H : Heap} {locs : List Loc} {ls : Array Slot} {B : Blk} {l1 : Int32} {l2 : Int32}, Wd V A H0 (jb M 11 B) (eS E) H locs → lv_has ls 3 [(0, .ref (vA V 11 5)), (1, .int l1), (2, .int l2)] → k13 l1 l2 B = some (r, B') → Wq E H locs 13 ls []) {H : Heap} {locs : List Loc} {ls : Array Slot} {l1 : Int32} {l2 : Int32} {B : Blk} (hW : Wd V A H0 (jb M 11 B) (eS E) H locs) (hl : lv_has ls 3 [(0, .ref (vA V 11 5)), (1, .int l1), (2, .int l2)]) (hF : FX3_readNumber_13s k13 l1 l2 B = some (r, B')) : Wq E H locs 13 ls [] := by
  unfold FX3_readNumber_13s at hF
  refine q_iload_n Cx dX3_readNumber_13 rfl (lv_at hl 2 rfl) ?_
  refine q_iconst (v := (5 : Int32)) Cx dX3_readNumber_14 (by decide) ?_
  refine q_icmp_ge (tgt := 62) Cx dX3_readNumber_15 (by decide) (fun c4 => ?_) (fun c4 => ?_)
  · have hF := (if_pos c4).symm.trans hF
    exact wX3_readNumber_62 Cx hret hW (lv_sub hl [0, 1] rfl) hF
  · have hF := (if_neg c4).symm.trans hF
    refine q_aload_n Cx dX3_readNumber_18 rfl (lv_at hl 0 rfl) ?_
    obtain ⟨r9, e10, hF⟩ := c1_some hF
    refine q_callI (as := []) (rest := []) Cx (kX3_isDigit e10) okX3_isDigit ovX3_isDigit wd_657 ⟨rfl, rfl, by decide, by decide⟩ hW oQ ic3 rfl hl.1 (Nat.le_of_ble_eq_true rfl) rfl dX3_readNumber_19 (fun H locs hW => ?_)
    refine q_if_eq (tgt := 62) Cx dX3_readNumber_22 (by decide) (fun c11 => ?_) (fun c11 => ?_)
    · have hF := (if_pos c11).symm.trans hF
      exact wX3_readNumber_62 Cx hret hW (lv_sub hl [0, 1] rfl) hF
    · have hF := (if_neg c11).symm.trans hF
      refine q_iload_n Cx dX3_readNumber_25 rfl (lv_at hl 2 rfl) ?_
      refine q_if_eq (tgt := 33) Cx dX3_readNumber_26 (by decide) (fun c12 => ?_) (fun c12 => ?_)
      · have hF := (if_pos c12).symm.trans hF
        exact wX3_readNumber_33 Cx hret hk13 hW (lv_sub hl [0, 1, 2] rfl) hF
      · have hF := (if_neg c12).symm.trans hF
        refine q_iload_n Cx dX3_readNumber_29 rfl (lv_at hl 1 rfl) ?_
        refine q_if_le (tgt := 62) Cx dX3_readNumber_30 (by decide) (fun c21 => ?_) (fun c21 => ?_)
        · have hF := (if_pos c21).symm.trans hF
          exact wX3_readNumber_62 Cx hret hW (lv_sub hl [0, 1] rfl) hF
        · have hF := (if_neg c21).symm.trans hF
          exact wX3_readNumber_33 Cx hret hk13 hW (lv_sub hl [0, 1, 2] rfl) hF
def FX3_readNumber_13 : Nat → Int32 → Int32 → Blk → Option (Int32 × Blk)
  | 0 => fun _ _ _ => none
  | n + 1 => FX3_readNumber_13s (FX3_readNumber_13 n)
set_option maxRecDepth 100000 in
theorem wX3_readNumber_13 {E : WE} {V : VT} {A : Nat → Prop} {H0 : Heap} {M : Mem} (Cx : CX E RX3 cX3_readNumber 3 2 40) {r : Int32} {B' : Blk} (hret : RetI E V A H0 cX3_readNumber .boolean r (jb M 11 B')) : ∀ (n : Nat) {H : Heap} {locs : List Loc} {ls : Array Slot} {l1 : Int32} {l2 : Int32} {B : Blk}, Wd V A H0 (jb M 11 B) (eS E) H locs → lv_has ls 3 [(0, .ref (vA V 11 5)), (1, .int l1), (2, .int l2)] → FX3_readNumber_13 n l1 l2 B = some (r, B') → Wq E H locs 13 ls [] := by
  intro n
  induction n with
  | zero => intro _ _ _ _ _ _ hW hl hF; cases hF
  | succ n ih => intro _ _ _ _ _ _ hW hl hF; exact wX3_readNumber_13s Cx hret ih hW hl hF
def FX3_readNumber (B : Blk) : Option (Int32 × Blk) :=
  c1 (FX3_isDigit B) fun r1 =>
  if r1 = 0 then
    some ((0 : Int32), B)
  else
    FX3_readNumber_13 fu (0 : Int32) (0 : Int32) B
set_option maxRecDepth 100000 in
set_option maxHeartbeats 4000000 in
theorem wX3_readNumber {E : WE} {V : VT} {A : Nat → Prop} {H0 : Heap} {M : Mem} (Cx : CX E RX3 cX3_readNumber 3 2 40) {r : Int32} {B' : Blk} (hret : RetI E V A H0 cX3_readNumber .boolean r (jb M 11 B')) {H : Heap} {locs : List Loc} {ls : Array Slot} {B : Blk} (hW : Wd V A H0 (jb M 11 B) (eS E) H locs) (hl : lv_has ls 3 [(0, .ref (vA V 11 5))]) (hF : FX3_readNumber B = some (r, B')) : Wq E H locs 0 ls [] := by
  unfold FX3_readNumber at hF
  refine q_aload_n Cx dX3_readNumber_0 rfl (lv_at hl 0 rfl) ?_
  obtain ⟨r1, e2, hF⟩ := c1_some hF
  refine q_callI (as := []) (rest := []) Cx (kX3_isDigit e2) okX3_isDigit ovX3_isDigit wd_657 ⟨rfl, rfl, by decide, by decide⟩ hW oQ ic3 rfl hl.1 (Nat.le_of_ble_eq_true rfl) rfl dX3_readNumber_1 (fun H locs hW => ?_)
  refine q_if_ne (tgt := 9) Cx dX3_readNumber_4 (by decide) (fun c3 => ?_) (fun c3 => ?_)
  · have hF := (if_neg c3).symm.trans hF
    refine q_iconst (v := (0 : Int32)) Cx dX3_readNumber_9 (by decide) ?_
    refine q_istore_n (lv' := [(1, .int (0 : Int32)), (0, .ref (vA V 11 5))]) Cx dX3_readNumber_10 rfl hl (by decide) rfl (fun ls hl => ?_)
    refine q_iconst (v := (0 : Int32)) Cx dX3_readNumber_11 (by decide) ?_
    refine q_istore_n (lv' := [(2, .int (0 : Int32)), (1, .int (0 : Int32)), (0, .ref (vA V 11 5))]) Cx dX3_readNumber_12 rfl hl (by decide) rfl (fun ls hl => ?_)
    exact wX3_readNumber_13 Cx hret fu hW (lv_sub hl [2, 1, 0] rfl) hF
  · have hF := (if_pos c3).symm.trans hF
    refine q_iconst (v := (0 : Int32)) Cx dX3_readNumber_7 (by decide) ?_
    obtain ⟨rfl, rfl⟩ := Prod.mk.inj (Option.some.inj hF)
    exact hret _ _ _ _ dX3_readNumber_8 (by rfl) hW
set_option maxRecDepth 100000 in
theorem kX3_readNumber {l : Launch} {V : VT} {M : Mem} {B : Blk} {r : Int32} {B' : Blk} (hF : FX3_readNumber B = some (r, B')) : MetI l V yX3_readNumber cX3_readNumber 3 .boolean ({ frames := 2, cells := 0, slots := 0, locals := 40 } : Room) [.ref (vA V 11 5)] r (jb M 11 B) (jb M 11 B') := metI_of (by decide) (Nat.le_of_ble_eq_true rfl) (fun E H0 _ Cx hret H locs ls hW hl => wX3_readNumber Cx hret hW hl hF)
theorem dX3_readTask_0 : decode cX3_readTask 0 = .ok (.aload_n 0, 1) := by decide +kernel
theorem dX3_readTask_1 : decode cX3_readTask 1 = .ok (.invokevirtual 49, 3) := by decide +kernel
theorem dX3_readTask_4 : decode cX3_readTask 4 = .ok (.bipush 51, 2) := by decide +kernel
theorem dX3_readTask_6 : decode cX3_readTask 6 = .ok (.if_icmp .gt 10, 3) := by decide +kernel
theorem dX3_readTask_9 : decode cX3_readTask 9 = .ok (.aload_n 0, 1) := by decide +kernel
theorem dX3_readTask_10 : decode cX3_readTask 10 = .ok (.invokevirtual 65, 3) := by decide +kernel
theorem dX3_readTask_13 : decode cX3_readTask 13 = .ok (.ifCond .ne 5, 3) := by decide +kernel
theorem dX3_readTask_16 : decode cX3_readTask 16 = .ok (.iconst 0, 1) := by decide +kernel
theorem dX3_readTask_17 : decode cX3_readTask 17 = .ok (.ireturn, 1) := by decide +kernel
theorem dX3_readTask_18 : decode cX3_readTask 18 = .ok (.aload_n 0, 1) := by decide +kernel
theorem dX3_readTask_19 : decode cX3_readTask 19 = .ok (.bipush 47, 2) := by decide +kernel
theorem dX3_readTask_21 : decode cX3_readTask 21 = .ok (.invokevirtual 42, 3) := by decide +kernel
theorem dX3_readTask_24 : decode cX3_readTask 24 = .ok (.ifCond .eq 46, 3) := by decide +kernel
theorem dX3_readTask_27 : decode cX3_readTask 27 = .ok (.aload_n 0, 1) := by decide +kernel
theorem dX3_readTask_28 : decode cX3_readTask 28 = .ok (.invokevirtual 62, 3) := by decide +kernel
theorem dX3_readTask_31 : decode cX3_readTask 31 = .ok (.ifCond .eq 39, 3) := by decide +kernel
theorem dX3_readTask_34 : decode cX3_readTask 34 = .ok (.aload_n 0, 1) := by decide +kernel
theorem dX3_readTask_35 : decode cX3_readTask 35 = .ok (.bipush 60, 2) := by decide +kernel
theorem dX3_readTask_37 : decode cX3_readTask 37 = .ok (.invokevirtual 42, 3) := by decide +kernel
theorem dX3_readTask_40 : decode cX3_readTask 40 = .ok (.ifCond .eq 30, 3) := by decide +kernel
theorem dX3_readTask_43 : decode cX3_readTask 43 = .ok (.aload_n 0, 1) := by decide +kernel
theorem dX3_readTask_44 : decode cX3_readTask 44 = .ok (.invokevirtual 62, 3) := by decide +kernel
theorem dX3_readTask_47 : decode cX3_readTask 47 = .ok (.ifCond .eq 23, 3) := by decide +kernel
theorem dX3_readTask_50 : decode cX3_readTask 50 = .ok (.aload_n 0, 1) := by decide +kernel
theorem dX3_readTask_51 : decode cX3_readTask 51 = .ok (.bipush 36, 2) := by decide +kernel
theorem dX3_readTask_53 : decode cX3_readTask 53 = .ok (.invokevirtual 42, 3) := by decide +kernel
theorem dX3_readTask_56 : decode cX3_readTask 56 = .ok (.ifCond .eq 14, 3) := by decide +kernel
theorem dX3_readTask_59 : decode cX3_readTask 59 = .ok (.aload_n 0, 1) := by decide +kernel
theorem dX3_readTask_60 : decode cX3_readTask 60 = .ok (.invokevirtual 62, 3) := by decide +kernel
theorem dX3_readTask_63 : decode cX3_readTask 63 = .ok (.ifCond .eq 7, 3) := by decide +kernel
theorem dX3_readTask_66 : decode cX3_readTask 66 = .ok (.iconst 1, 1) := by decide +kernel
theorem dX3_readTask_67 : decode cX3_readTask 67 = .ok (.goto 4, 3) := by decide +kernel
theorem dX3_readTask_70 : decode cX3_readTask 70 = .ok (.iconst 0, 1) := by decide +kernel
theorem dX3_readTask_71 : decode cX3_readTask 71 = .ok (.istore_n 1, 1) := by decide +kernel
theorem dX3_readTask_72 : decode cX3_readTask 72 = .ok (.iload_n 1, 1) := by decide +kernel
theorem dX3_readTask_73 : decode cX3_readTask 73 = .ok (.ifCond .eq 34, 3) := by decide +kernel
theorem dX3_readTask_76 : decode cX3_readTask 76 = .ok (.aload_n 0, 1) := by decide +kernel
theorem dX3_readTask_77 : decode cX3_readTask 77 = .ok (.invokevirtual 49, 3) := by decide +kernel
theorem dX3_readTask_80 : decode cX3_readTask 80 = .ok (.bipush 94, 2) := by decide +kernel
theorem dX3_readTask_82 : decode cX3_readTask 82 = .ok (.if_icmp .ne 25, 3) := by decide +kernel
theorem dX3_readTask_85 : decode cX3_readTask 85 = .ok (.aload_n 0, 1) := by decide +kernel
theorem dX3_readTask_86 : decode cX3_readTask 86 = .ok (.bipush 94, 2) := by decide +kernel
theorem dX3_readTask_88 : decode cX3_readTask 88 = .ok (.invokevirtual 42, 3) := by decide +kernel
theorem dX3_readTask_91 : decode cX3_readTask 91 = .ok (.ifCond .eq 14, 3) := by decide +kernel
theorem dX3_readTask_94 : decode cX3_readTask 94 = .ok (.aload_n 0, 1) := by decide +kernel
theorem dX3_readTask_95 : decode cX3_readTask 95 = .ok (.invokevirtual 62, 3) := by decide +kernel
theorem dX3_readTask_98 : decode cX3_readTask 98 = .ok (.ifCond .eq 7, 3) := by decide +kernel
theorem dX3_readTask_101 : decode cX3_readTask 101 = .ok (.iconst 1, 1) := by decide +kernel
theorem dX3_readTask_102 : decode cX3_readTask 102 = .ok (.goto 4, 3) := by decide +kernel
theorem dX3_readTask_105 : decode cX3_readTask 105 = .ok (.iconst 0, 1) := by decide +kernel
theorem dX3_readTask_106 : decode cX3_readTask 106 = .ok (.ireturn, 1) := by decide +kernel
theorem dX3_readTask_107 : decode cX3_readTask 107 = .ok (.iload_n 1, 1) := by decide +kernel
theorem dX3_readTask_108 : decode cX3_readTask 108 = .ok (.ifCond .eq 16, 3) := by decide +kernel
theorem dX3_readTask_111 : decode cX3_readTask 111 = .ok (.aload_n 0, 1) := by decide +kernel
theorem dX3_readTask_112 : decode cX3_readTask 112 = .ok (.bipush (-6), 2) := by decide +kernel
theorem dX3_readTask_114 : decode cX3_readTask 114 = .ok (.invokevirtual 68, 3) := by decide +kernel
theorem dX3_readTask_117 : decode cX3_readTask 117 = .ok (.ifCond .eq 7, 3) := by decide +kernel
theorem dX3_readTask_120 : decode cX3_readTask 120 = .ok (.iconst 1, 1) := by decide +kernel
theorem dX3_readTask_121 : decode cX3_readTask 121 = .ok (.goto 4, 3) := by decide +kernel
theorem dX3_readTask_124 : decode cX3_readTask 124 = .ok (.iconst 0, 1) := by decide +kernel
theorem dX3_readTask_125 : decode cX3_readTask 125 = .ok (.ireturn, 1) := by decide +kernel
theorem okX3_readTask : CalOK yX3_readTask cX3_readTask 2 (some .boolean) 0 := ⟨wd_72, wd_652, by decide +kernel⟩
theorem ovX3_readTask : VirOK yX3_readTask := ⟨wd_651, wd_17⟩
def FX3_readTask_107 (l1 : Int32) (B : Blk) : Option (Int32 × Blk) :=
  if l1 = 0 then
    some ((0 : Int32), B)
  else
    c2 (FX3_keep B (-6 : Int32)) fun r14 B16 =>
    if r14 = 0 then
      some ((0 : Int32), B16)
    else
      some ((1 : Int32), B16)
set_option maxRecDepth 100000 in
set_option maxHeartbeats 4000000 in
theorem wX3_readTask_107 {E : WE} {V : VT} {A : Nat → Prop} {H0 : Heap} {M : Mem} (Cx : CX E RX3 cX3_readTask 2 3 62) {r : Int32} {B' : Blk} (hret : RetI E V A H0 cX3_readTask .boolean r (jb M 11 B')) {H : Heap} {locs : List Loc} {ls : Array Slot} {l1 : Int32} {B : Blk} (hW : Wd V A H0 (jb M 11 B) (eS E) H locs) (hl : lv_has ls 2 [(0, .ref (vA V 11 5)), (1, .int l1)]) (hF : FX3_readTask_107 l1 B = some (r, B')) : Wq E H locs 107 ls [] := by
  unfold FX3_readTask_107 at hF
  refine q_iload_n Cx dX3_readTask_107 rfl (lv_at hl 1 rfl) ?_
  refine q_if_eq (tgt := 124) Cx dX3_readTask_108 (by decide) (fun c13 => ?_) (fun c13 => ?_)
  · have hF := (if_pos c13).symm.trans hF
    refine q_iconst (v := (0 : Int32)) Cx dX3_readTask_124 (by decide) ?_
    obtain ⟨rfl, rfl⟩ := Prod.mk.inj (Option.some.inj hF)
    exact hret _ _ _ _ dX3_readTask_125 (by rfl) hW
  · have hF := (if_neg c13).symm.trans hF
    refine q_aload_n Cx dX3_readTask_111 rfl (lv_at hl 0 rfl) ?_
    refine q_bipush (v := (-6 : Int32)) Cx dX3_readTask_112 (by decide) ?_
    obtain ⟨r14, B16, e15, hF⟩ := c2_some hF
    refine q_callI (as := [.int (-6 : Int32)]) (rest := []) Cx (kX3_keep e15) okX3_keep ovX3_keep wd_661 ⟨rfl, rfl, by decide, by decide⟩ hW oQ ic3 rfl hl.1 (Nat.le_of_ble_eq_true rfl) rfl dX3_readTask_114 (fun H locs hW => ?_)
    refine q_if_eq (tgt := 124) Cx dX3_readTask_117 (by decide) (fun c17 => ?_) (fun c17 => ?_)
    · have hF := (if_pos c17).symm.trans hF
      refine q_iconst (v := (0 : Int32)) Cx dX3_readTask_124 (by decide) ?_
      obtain ⟨rfl, rfl⟩ := Prod.mk.inj (Option.some.inj hF)
      exact hret _ _ _ _ dX3_readTask_125 (by rfl) hW
    · have hF := (if_neg c17).symm.trans hF
      refine q_iconst (v := (1 : Int32)) Cx dX3_readTask_120 (by decide) ?_
      refine q_goto (tgt := 125) Cx dX3_readTask_121 (by decide) ?_
      obtain ⟨rfl, rfl⟩ := Prod.mk.inj (Option.some.inj hF)
      exact hret _ _ _ _ dX3_readTask_125 (by rfl) hW
def FX3_readTask_71 (s0 : Int32) (B : Blk) : Option (Int32 × Blk) :=
  if s0 = 0 then
    FX3_readTask_107 s0 B
  else
    c1 (FX3_here B) fun r18 =>
    if r18 = (94 : Int32) then
      c2 (FX3_readSign B (94 : Int32)) fun r21 B23 =>
      if r21 = 0 then
        some ((0 : Int32), B23)
      else
        c2 (FX3_readNumber B23) fun r25 B27 =>
        if r25 = 0 then
          some ((0 : Int32), B27)
        else
          some ((1 : Int32), B27)
    else
      FX3_readTask_107 s0 B
set_option maxRecDepth 100000 in
set_option maxHeartbeats 4000000 in
theorem wX3_readTask_71 {E : WE} {V : VT} {A : Nat → Prop} {H0 : Heap} {M : Mem} (Cx : CX E RX3 cX3_readTask 2 3 62) {r : Int32} {B' : Blk} (hret : RetI E V A H0 cX3_readTask .boolean r (jb M 11 B')) {H : Heap} {locs : List Loc} {ls : Array Slot} {s0 : Int32} {B : Blk} (hW : Wd V A H0 (jb M 11 B) (eS E) H locs) (hl : lv_has ls 2 [(0, .ref (vA V 11 5))]) (hF : FX3_readTask_71 s0 B = some (r, B')) : Wq E H locs 71 ls [.int s0] := by
  unfold FX3_readTask_71 at hF
  refine q_istore_n (lv' := [(1, .int s0), (0, .ref (vA V 11 5))]) Cx dX3_readTask_71 rfl hl (by decide) rfl (fun ls hl => ?_)
  refine q_iload_n Cx dX3_readTask_72 rfl (lv_at hl 0 rfl) ?_
  refine q_if_eq (tgt := 107) Cx dX3_readTask_73 (by decide) (fun c12 => ?_) (fun c12 => ?_)
  · have hF := (if_pos c12).symm.trans hF
    exact wX3_readTask_107 Cx hret hW (lv_sub hl [1, 0] rfl) hF
  · have hF := (if_neg c12).symm.trans hF
    refine q_aload_n Cx dX3_readTask_76 rfl (lv_at hl 1 rfl) ?_
    obtain ⟨r18, e19, hF⟩ := c1_some hF
    refine q_callI (as := []) (rest := []) Cx (kX3_here e19) okX3_here ovX3_here wd_641 ⟨rfl, rfl, by decide, by decide⟩ hW oQ ic3 rfl hl.1 (Nat.le_of_ble_eq_true rfl) rfl dX3_readTask_77 (fun H locs hW => ?_)
    refine q_bipush (v := (94 : Int32)) Cx dX3_readTask_80 (by decide) ?_
    refine q_icmp_ne (tgt := 107) Cx dX3_readTask_82 (by decide) (fun c20 => ?_) (fun c20 => ?_)
    · have hF := (if_neg c20).symm.trans hF
      exact wX3_readTask_107 Cx hret hW (lv_sub hl [1, 0] rfl) hF
    · have hF := (if_pos c20).symm.trans hF
      refine q_aload_n Cx dX3_readTask_85 rfl (lv_at hl 1 rfl) ?_
      refine q_bipush (v := (94 : Int32)) Cx dX3_readTask_86 (by decide) ?_
      obtain ⟨r21, B23, e22, hF⟩ := c2_some hF
      refine q_callI (as := [.int (94 : Int32)]) (rest := []) Cx (kX3_readSign e22) okX3_readSign ovX3_readSign wd_645 ⟨rfl, rfl, by decide, by decide⟩ hW oQ ic3 rfl hl.1 (Nat.le_of_ble_eq_true rfl) rfl dX3_readTask_88 (fun H locs hW => ?_)
      refine q_if_eq (tgt := 105) Cx dX3_readTask_91 (by decide) (fun c24 => ?_) (fun c24 => ?_)
      · have hF := (if_pos c24).symm.trans hF
        refine q_iconst (v := (0 : Int32)) Cx dX3_readTask_105 (by decide) ?_
        obtain ⟨rfl, rfl⟩ := Prod.mk.inj (Option.some.inj hF)
        exact hret _ _ _ _ dX3_readTask_106 (by rfl) hW
      · have hF := (if_neg c24).symm.trans hF
        refine q_aload_n Cx dX3_readTask_94 rfl (lv_at hl 1 rfl) ?_
        obtain ⟨r25, B27, e26, hF⟩ := c2_some hF
        refine q_callI (as := []) (rest := []) Cx (kX3_readNumber e26) okX3_readNumber ovX3_readNumber wd_665 ⟨rfl, rfl, by decide, by decide⟩ hW oQ ic3 rfl hl.1 (Nat.le_of_ble_eq_true rfl) rfl dX3_readTask_95 (fun H locs hW => ?_)
        refine q_if_eq (tgt := 105) Cx dX3_readTask_98 (by decide) (fun c28 => ?_) (fun c28 => ?_)
        · have hF := (if_pos c28).symm.trans hF
          refine q_iconst (v := (0 : Int32)) Cx dX3_readTask_105 (by decide) ?_
          obtain ⟨rfl, rfl⟩ := Prod.mk.inj (Option.some.inj hF)
          exact hret _ _ _ _ dX3_readTask_106 (by rfl) hW
        · have hF := (if_neg c28).symm.trans hF
          refine q_iconst (v := (1 : Int32)) Cx dX3_readTask_101 (by decide) ?_
          refine q_goto (tgt := 106) Cx dX3_readTask_102 (by decide) ?_
          obtain ⟨rfl, rfl⟩ := Prod.mk.inj (Option.some.inj hF)
          exact hret _ _ _ _ dX3_readTask_106 (by rfl) hW
def FX3_readTask_70 (B : Blk) : Option (Int32 × Blk) :=
  FX3_readTask_71 (0 : Int32) B
set_option maxRecDepth 100000 in
set_option maxHeartbeats 4000000 in
theorem wX3_readTask_70 {E : WE} {V : VT} {A : Nat → Prop} {H0 : Heap} {M : Mem} (Cx : CX E RX3 cX3_readTask 2 3 62) {r : Int32} {B' : Blk} (hret : RetI E V A H0 cX3_readTask .boolean r (jb M 11 B')) {H : Heap} {locs : List Loc} {ls : Array Slot} {B : Blk} (hW : Wd V A H0 (jb M 11 B) (eS E) H locs) (hl : lv_has ls 2 [(0, .ref (vA V 11 5))]) (hF : FX3_readTask_70 B = some (r, B')) : Wq E H locs 70 ls [] := by
  unfold FX3_readTask_70 at hF
  refine q_iconst (v := (0 : Int32)) Cx dX3_readTask_70 (by decide) ?_
  exact wX3_readTask_71 Cx hret hW (lv_sub hl [0] rfl) hF
def FX3_readTask (B : Blk) : Option (Int32 × Blk) :=
  c1 (FX3_here B) fun r1 =>
  if (51 : Int32) < r1 then
    some ((0 : Int32), B)
  else
    c2 (FX3_readDigit B) fun r4 B6 =>
    if r4 = 0 then
      some ((0 : Int32), B6)
    else
      c2 (FX3_readSign B6 (47 : Int32)) fun r8 B10 =>
      if r8 = 0 then
        FX3_readTask_70 B10
      else
        c2 (FX3_readNumber B10) fun r29 B31 =>
        if r29 = 0 then
          FX3_readTask_70 B31
        else
          c2 (FX3_readSign B31 (60 : Int32)) fun r33 B35 =>
          if r33 = 0 then
            FX3_readTask_70 B35
          else
            c2 (FX3_readNumber B35) fun r37 B39 =>
            if r37 = 0 then
              FX3_readTask_70 B39
            else
              c2 (FX3_readSign B39 (36 : Int32)) fun r41 B43 =>
              if r41 = 0 then
                FX3_readTask_70 B43
              else
                c2 (FX3_readNumber B43) fun r45 B47 =>
                if r45 = 0 then
                  FX3_readTask_70 B47
                else
                  FX3_readTask_71 (1 : Int32) B47
set_option maxRecDepth 100000 in
set_option maxHeartbeats 4000000 in
theorem wX3_readTask {E : WE} {V : VT} {A : Nat → Prop} {H0 : Heap} {M : Mem} (Cx : CX E RX3 cX3_readTask 2 3 62) {r : Int32} {B' : Blk} (hret : RetI E V A H0 cX3_readTask .boolean r (jb M 11 B')) {H : Heap} {locs : List Loc} {ls : Array Slot} {B : Blk} (hW : Wd V A H0 (jb M 11 B) (eS E) H locs) (hl : lv_has ls 2 [(0, .ref (vA V 11 5))]) (hF : FX3_readTask B = some (r, B')) : Wq E H locs 0 ls [] := by
  unfold FX3_readTask at hF
  refine q_aload_n Cx dX3_readTask_0 rfl (lv_at hl 0 rfl) ?_
  obtain ⟨r1, e2, hF⟩ := c1_some hF
  refine q_callI (as := []) (rest := []) Cx (kX3_here e2) okX3_here ovX3_here wd_641 ⟨rfl, rfl, by decide, by decide⟩ hW oQ ic3 rfl hl.1 (Nat.le_of_ble_eq_true rfl) rfl dX3_readTask_1 (fun H locs hW => ?_)
  refine q_bipush (v := (51 : Int32)) Cx dX3_readTask_4 (by decide) ?_
  refine q_icmp_gt (tgt := 16) Cx dX3_readTask_6 (by decide) (fun c3 => ?_) (fun c3 => ?_)
  · have hF := (if_pos c3).symm.trans hF
    refine q_iconst (v := (0 : Int32)) Cx dX3_readTask_16 (by decide) ?_
    obtain ⟨rfl, rfl⟩ := Prod.mk.inj (Option.some.inj hF)
    exact hret _ _ _ _ dX3_readTask_17 (by rfl) hW
  · have hF := (if_neg c3).symm.trans hF
    refine q_aload_n Cx dX3_readTask_9 rfl (lv_at hl 0 rfl) ?_
    obtain ⟨r4, B6, e5, hF⟩ := c2_some hF
    refine q_callI (as := []) (rest := []) Cx (kX3_readDigit e5) okX3_readDigit ovX3_readDigit wd_653 ⟨rfl, rfl, by decide, by decide⟩ hW oQ ic3 rfl hl.1 (Nat.le_of_ble_eq_true rfl) rfl dX3_readTask_10 (fun H locs hW => ?_)
    refine q_if_ne (tgt := 18) Cx dX3_readTask_13 (by decide) (fun c7 => ?_) (fun c7 => ?_)
    · have hF := (if_neg c7).symm.trans hF
      refine q_aload_n Cx dX3_readTask_18 rfl (lv_at hl 0 rfl) ?_
      refine q_bipush (v := (47 : Int32)) Cx dX3_readTask_19 (by decide) ?_
      obtain ⟨r8, B10, e9, hF⟩ := c2_some hF
      refine q_callI (as := [.int (47 : Int32)]) (rest := []) Cx (kX3_readSign e9) okX3_readSign ovX3_readSign wd_645 ⟨rfl, rfl, by decide, by decide⟩ hW oQ ic3 rfl hl.1 (Nat.le_of_ble_eq_true rfl) rfl dX3_readTask_21 (fun H locs hW => ?_)
      refine q_if_eq (tgt := 70) Cx dX3_readTask_24 (by decide) (fun c11 => ?_) (fun c11 => ?_)
      · have hF := (if_pos c11).symm.trans hF
        exact wX3_readTask_70 Cx hret hW (lv_sub hl [0] rfl) hF
      · have hF := (if_neg c11).symm.trans hF
        refine q_aload_n Cx dX3_readTask_27 rfl (lv_at hl 0 rfl) ?_
        obtain ⟨r29, B31, e30, hF⟩ := c2_some hF
        refine q_callI (as := []) (rest := []) Cx (kX3_readNumber e30) okX3_readNumber ovX3_readNumber wd_665 ⟨rfl, rfl, by decide, by decide⟩ hW oQ ic3 rfl hl.1 (Nat.le_of_ble_eq_true rfl) rfl dX3_readTask_28 (fun H locs hW => ?_)
        refine q_if_eq (tgt := 70) Cx dX3_readTask_31 (by decide) (fun c32 => ?_) (fun c32 => ?_)
        · have hF := (if_pos c32).symm.trans hF
          exact wX3_readTask_70 Cx hret hW (lv_sub hl [0] rfl) hF
        · have hF := (if_neg c32).symm.trans hF
          refine q_aload_n Cx dX3_readTask_34 rfl (lv_at hl 0 rfl) ?_
          refine q_bipush (v := (60 : Int32)) Cx dX3_readTask_35 (by decide) ?_
          obtain ⟨r33, B35, e34, hF⟩ := c2_some hF
          refine q_callI (as := [.int (60 : Int32)]) (rest := []) Cx (kX3_readSign e34) okX3_readSign ovX3_readSign wd_645 ⟨rfl, rfl, by decide, by decide⟩ hW oQ ic3 rfl hl.1 (Nat.le_of_ble_eq_true rfl) rfl dX3_readTask_37 (fun H locs hW => ?_)
          refine q_if_eq (tgt := 70) Cx dX3_readTask_40 (by decide) (fun c36 => ?_) (fun c36 => ?_)
          · have hF := (if_pos c36).symm.trans hF
            exact wX3_readTask_70 Cx hret hW (lv_sub hl [0] rfl) hF
          · have hF := (if_neg c36).symm.trans hF
            refine q_aload_n Cx dX3_readTask_43 rfl (lv_at hl 0 rfl) ?_
            obtain ⟨r37, B39, e38, hF⟩ := c2_some hF
            refine q_callI (as := []) (rest := []) Cx (kX3_readNumber e38) okX3_readNumber ovX3_readNumber wd_665 ⟨rfl, rfl, by decide, by decide⟩ hW oQ ic3 rfl hl.1 (Nat.le_of_ble_eq_true rfl) rfl dX3_readTask_44 (fun H locs hW => ?_)
            refine q_if_eq (tgt := 70) Cx dX3_readTask_47 (by decide) (fun c40 => ?_) (fun c40 => ?_)
            · have hF := (if_pos c40).symm.trans hF
              exact wX3_readTask_70 Cx hret hW (lv_sub hl [0] rfl) hF
            · have hF := (if_neg c40).symm.trans hF
              refine q_aload_n Cx dX3_readTask_50 rfl (lv_at hl 0 rfl) ?_
              refine q_bipush (v := (36 : Int32)) Cx dX3_readTask_51 (by decide) ?_
              obtain ⟨r41, B43, e42, hF⟩ := c2_some hF
              refine q_callI (as := [.int (36 : Int32)]) (rest := []) Cx (kX3_readSign e42) okX3_readSign ovX3_readSign wd_645 ⟨rfl, rfl, by decide, by decide⟩ hW oQ ic3 rfl hl.1 (Nat.le_of_ble_eq_true rfl) rfl dX3_readTask_53 (fun H locs hW => ?_)
              refine q_if_eq (tgt := 70) Cx dX3_readTask_56 (by decide) (fun c44 => ?_) (fun c44 => ?_)
              · have hF := (if_pos c44).symm.trans hF
                exact wX3_readTask_70 Cx hret hW (lv_sub hl [0] rfl) hF
              · have hF := (if_neg c44).symm.trans hF
                refine q_aload_n Cx dX3_readTask_59 rfl (lv_at hl 0 rfl) ?_
                obtain ⟨r45, B47, e46, hF⟩ := c2_some hF
                refine q_callI (as := []) (rest := []) Cx (kX3_readNumber e46) okX3_readNumber ovX3_readNumber wd_665 ⟨rfl, rfl, by decide, by decide⟩ hW oQ ic3 rfl hl.1 (Nat.le_of_ble_eq_true rfl) rfl dX3_readTask_60 (fun H locs hW => ?_)
                refine q_if_eq (tgt := 70) Cx dX3_readTask_63 (by decide) (fun c48 => ?_) (fun c48 => ?_)
                · have hF := (if_pos c48).symm.trans hF
                  exact wX3_readTask_70 Cx hret hW (lv_sub hl [0] rfl) hF
                · have hF := (if_neg c48).symm.trans hF
                  refine q_iconst (v := (1 : Int32)) Cx dX3_readTask_66 (by decide) ?_
                  refine q_goto (tgt := 71) Cx dX3_readTask_67 (by decide) ?_
                  exact wX3_readTask_71 Cx hret hW (lv_sub hl [0] rfl) hF
    · have hF := (if_pos c7).symm.trans hF
      refine q_iconst (v := (0 : Int32)) Cx dX3_readTask_16 (by decide) ?_
      obtain ⟨rfl, rfl⟩ := Prod.mk.inj (Option.some.inj hF)
      exact hret _ _ _ _ dX3_readTask_17 (by rfl) hW
set_option maxRecDepth 100000 in
theorem kX3_readTask {l : Launch} {V : VT} {M : Mem} {B : Blk} {r : Int32} {B' : Blk} (hF : FX3_readTask B = some (r, B')) : MetI l V yX3_readTask cX3_readTask 2 .boolean ({ frames := 3, cells := 0, slots := 0, locals := 62 } : Room) [.ref (vA V 11 5)] r (jb M 11 B) (jb M 11 B') := metI_of (by decide) (Nat.le_of_ble_eq_true rfl) (fun E H0 _ Cx hret H locs ls hW hl => wX3_readTask Cx hret hW hl hF)
theorem dX3_readPair_0 : decode cX3_readPair 0 = .ok (.aload_n 0, 1) := by decide +kernel
theorem dX3_readPair_1 : decode cX3_readPair 1 = .ok (.invokevirtual 62, 3) := by decide +kernel
theorem dX3_readPair_4 : decode cX3_readPair 4 = .ok (.ifCond .eq 22, 3) := by decide +kernel
theorem dX3_readPair_7 : decode cX3_readPair 7 = .ok (.aload_n 0, 1) := by decide +kernel
theorem dX3_readPair_8 : decode cX3_readPair 8 = .ok (.iload_n 1, 1) := by decide +kernel
theorem dX3_readPair_9 : decode cX3_readPair 9 = .ok (.invokevirtual 42, 3) := by decide +kernel
theorem dX3_readPair_12 : decode cX3_readPair 12 = .ok (.ifCond .eq 14, 3) := by decide +kernel
theorem dX3_readPair_15 : decode cX3_readPair 15 = .ok (.aload_n 0, 1) := by decide +kernel
theorem dX3_readPair_16 : decode cX3_readPair 16 = .ok (.invokevirtual 62, 3) := by decide +kernel
theorem dX3_readPair_19 : decode cX3_readPair 19 = .ok (.ifCond .eq 7, 3) := by decide +kernel
theorem dX3_readPair_22 : decode cX3_readPair 22 = .ok (.iconst 1, 1) := by decide +kernel
theorem dX3_readPair_23 : decode cX3_readPair 23 = .ok (.goto 4, 3) := by decide +kernel
theorem dX3_readPair_26 : decode cX3_readPair 26 = .ok (.iconst 0, 1) := by decide +kernel
theorem dX3_readPair_27 : decode cX3_readPair 27 = .ok (.ireturn, 1) := by decide +kernel
theorem okX3_readPair : CalOK yX3_readPair cX3_readPair 2 (some .boolean) 1 := ⟨wd_72, wd_672, by decide +kernel⟩
theorem ovX3_readPair : VirOK yX3_readPair := ⟨wd_671, wd_22⟩
def FX3_readPair (B : Blk) (l1 : Int32) : Option (Int32 × Blk) :=
  c2 (FX3_readNumber B) fun r1 B3 =>
  if r1 = 0 then
    some ((0 : Int32), B3)
  else
    c2 (FX3_readSign B3 l1) fun r5 B7 =>
    if r5 = 0 then
      some ((0 : Int32), B7)
    else
      c2 (FX3_readNumber B7) fun r9 B11 =>
      if r9 = 0 then
        some ((0 : Int32), B11)
      else
        some ((1 : Int32), B11)
set_option maxRecDepth 100000 in
set_option maxHeartbeats 4000000 in
theorem wX3_readPair {E : WE} {V : VT} {A : Nat → Prop} {H0 : Heap} {M : Mem} (Cx : CX E RX3 cX3_readPair 2 3 62) {r : Int32} {B' : Blk} (hret : RetI E V A H0 cX3_readPair .boolean r (jb M 11 B')) {H : Heap} {locs : List Loc} {ls : Array Slot} {l1 : Int32} {B : Blk} (hW : Wd V A H0 (jb M 11 B) (eS E) H locs) (hl : lv_has ls 2 [(0, .ref (vA V 11 5)), (1, .int l1)]) (hF : FX3_readPair B l1 = some (r, B')) : Wq E H locs 0 ls [] := by
  unfold FX3_readPair at hF
  refine q_aload_n Cx dX3_readPair_0 rfl (lv_at hl 0 rfl) ?_
  obtain ⟨r1, B3, e2, hF⟩ := c2_some hF
  refine q_callI (as := []) (rest := []) Cx (kX3_readNumber e2) okX3_readNumber ovX3_readNumber wd_665 ⟨rfl, rfl, by decide, by decide⟩ hW oQ ic3 rfl hl.1 (Nat.le_of_ble_eq_true rfl) rfl dX3_readPair_1 (fun H locs hW => ?_)
  refine q_if_eq (tgt := 26) Cx dX3_readPair_4 (by decide) (fun c4 => ?_) (fun c4 => ?_)
  · have hF := (if_pos c4).symm.trans hF
    refine q_iconst (v := (0 : Int32)) Cx dX3_readPair_26 (by decide) ?_
    obtain ⟨rfl, rfl⟩ := Prod.mk.inj (Option.some.inj hF)
    exact hret _ _ _ _ dX3_readPair_27 (by rfl) hW
  · have hF := (if_neg c4).symm.trans hF
    refine q_aload_n Cx dX3_readPair_7 rfl (lv_at hl 0 rfl) ?_
    refine q_iload_n Cx dX3_readPair_8 rfl (lv_at hl 1 rfl) ?_
    obtain ⟨r5, B7, e6, hF⟩ := c2_some hF
    refine q_callI (as := [.int l1]) (rest := []) Cx (kX3_readSign e6) okX3_readSign ovX3_readSign wd_645 ⟨rfl, rfl, by decide, by decide⟩ hW oQ ic3 rfl hl.1 (Nat.le_of_ble_eq_true rfl) rfl dX3_readPair_9 (fun H locs hW => ?_)
    refine q_if_eq (tgt := 26) Cx dX3_readPair_12 (by decide) (fun c8 => ?_) (fun c8 => ?_)
    · have hF := (if_pos c8).symm.trans hF
      refine q_iconst (v := (0 : Int32)) Cx dX3_readPair_26 (by decide) ?_
      obtain ⟨rfl, rfl⟩ := Prod.mk.inj (Option.some.inj hF)
      exact hret _ _ _ _ dX3_readPair_27 (by rfl) hW
    · have hF := (if_neg c8).symm.trans hF
      refine q_aload_n Cx dX3_readPair_15 rfl (lv_at hl 0 rfl) ?_
      obtain ⟨r9, B11, e10, hF⟩ := c2_some hF
      refine q_callI (as := []) (rest := []) Cx (kX3_readNumber e10) okX3_readNumber ovX3_readNumber wd_665 ⟨rfl, rfl, by decide, by decide⟩ hW oQ ic3 rfl hl.1 (Nat.le_of_ble_eq_true rfl) rfl dX3_readPair_16 (fun H locs hW => ?_)
      refine q_if_eq (tgt := 26) Cx dX3_readPair_19 (by decide) (fun c12 => ?_) (fun c12 => ?_)
      · have hF := (if_pos c12).symm.trans hF
        refine q_iconst (v := (0 : Int32)) Cx dX3_readPair_26 (by decide) ?_
        obtain ⟨rfl, rfl⟩ := Prod.mk.inj (Option.some.inj hF)
        exact hret _ _ _ _ dX3_readPair_27 (by rfl) hW
      · have hF := (if_neg c12).symm.trans hF
        refine q_iconst (v := (1 : Int32)) Cx dX3_readPair_22 (by decide) ?_
        refine q_goto (tgt := 27) Cx dX3_readPair_23 (by decide) ?_
        obtain ⟨rfl, rfl⟩ := Prod.mk.inj (Option.some.inj hF)
        exact hret _ _ _ _ dX3_readPair_27 (by rfl) hW
set_option maxRecDepth 100000 in
theorem kX3_readPair {l : Launch} {V : VT} {M : Mem} {B : Blk} {l1 : Int32} {r : Int32} {B' : Blk} (hF : FX3_readPair B l1 = some (r, B')) : MetI l V yX3_readPair cX3_readPair 2 .boolean ({ frames := 3, cells := 0, slots := 0, locals := 62 } : Room) [.ref (vA V 11 5), .int l1] r (jb M 11 B) (jb M 11 B') := metI_of (by decide) (Nat.le_of_ble_eq_true rfl) (fun E H0 _ Cx hret H locs ls hW hl => wX3_readPair Cx hret hW hl hF)
theorem dX3_readOrder_0 : decode cX3_readOrder 0 = .ok (.aload_n 0, 1) := by decide +kernel
theorem dX3_readOrder_1 : decode cX3_readOrder 1 = .ok (.iconst 0, 1) := by decide +kernel
theorem dX3_readOrder_2 : decode cX3_readOrder 2 = .ok (.putfield 46, 3) := by decide +kernel
theorem dX3_readOrder_5 : decode cX3_readOrder 5 = .ok (.aload_n 0, 1) := by decide +kernel
theorem dX3_readOrder_6 : decode cX3_readOrder 6 = .ok (.aload_n 0, 1) := by decide +kernel
theorem dX3_readOrder_7 : decode cX3_readOrder 7 = .ok (.invokevirtual 49, 3) := by decide +kernel
theorem dX3_readOrder_10 : decode cX3_readOrder 10 = .ok (.putfield 53, 3) := by decide +kernel
theorem dX3_readOrder_13 : decode cX3_readOrder 13 = .ok (.aload_n 0, 1) := by decide +kernel
theorem dX3_readOrder_14 : decode cX3_readOrder 14 = .ok (.getfield 53, 3) := by decide +kernel
theorem dX3_readOrder_17 : decode cX3_readOrder 17 = .ok (.lookupswitch 185 #[(100, 73), (109, 137), (111, 97), (114, 161), (116, 51)], 51) := by decide +kernel
theorem dX3_readOrder_68 : decode cX3_readOrder 68 = .ok (.aload_n 0, 1) := by decide +kernel
theorem dX3_readOrder_69 : decode cX3_readOrder 69 = .ok (.bipush 116, 2) := by decide +kernel
theorem dX3_readOrder_71 : decode cX3_readOrder 71 = .ok (.invokevirtual 42, 3) := by decide +kernel
theorem dX3_readOrder_74 : decode cX3_readOrder 74 = .ok (.ifCond .eq 14, 3) := by decide +kernel
theorem dX3_readOrder_77 : decode cX3_readOrder 77 = .ok (.aload_n 0, 1) := by decide +kernel
theorem dX3_readOrder_78 : decode cX3_readOrder 78 = .ok (.invokevirtual 56, 3) := by decide +kernel
theorem dX3_readOrder_81 : decode cX3_readOrder 81 = .ok (.ifCond .eq 7, 3) := by decide +kernel
theorem dX3_readOrder_84 : decode cX3_readOrder 84 = .ok (.iconst 1, 1) := by decide +kernel
theorem dX3_readOrder_85 : decode cX3_readOrder 85 = .ok (.goto 4, 3) := by decide +kernel
theorem dX3_readOrder_88 : decode cX3_readOrder 88 = .ok (.iconst 0, 1) := by decide +kernel
theorem dX3_readOrder_89 : decode cX3_readOrder 89 = .ok (.ireturn, 1) := by decide +kernel
theorem dX3_readOrder_90 : decode cX3_readOrder 90 = .ok (.aload_n 0, 1) := by decide +kernel
theorem dX3_readOrder_91 : decode cX3_readOrder 91 = .ok (.bipush 100, 2) := by decide +kernel
theorem dX3_readOrder_93 : decode cX3_readOrder 93 = .ok (.invokevirtual 42, 3) := by decide +kernel
theorem dX3_readOrder_96 : decode cX3_readOrder 96 = .ok (.ifCond .eq 16, 3) := by decide +kernel
theorem dX3_readOrder_99 : decode cX3_readOrder 99 = .ok (.aload_n 0, 1) := by decide +kernel
theorem dX3_readOrder_100 : decode cX3_readOrder 100 = .ok (.bipush 61, 2) := by decide +kernel
theorem dX3_readOrder_102 : decode cX3_readOrder 102 = .ok (.invokevirtual 59, 3) := by decide +kernel
theorem dX3_readOrder_105 : decode cX3_readOrder 105 = .ok (.ifCond .eq 7, 3) := by decide +kernel
theorem dX3_readOrder_108 : decode cX3_readOrder 108 = .ok (.iconst 1, 1) := by decide +kernel
theorem dX3_readOrder_109 : decode cX3_readOrder 109 = .ok (.goto 4, 3) := by decide +kernel
theorem dX3_readOrder_112 : decode cX3_readOrder 112 = .ok (.iconst 0, 1) := by decide +kernel
theorem dX3_readOrder_113 : decode cX3_readOrder 113 = .ok (.ireturn, 1) := by decide +kernel
theorem dX3_readOrder_114 : decode cX3_readOrder 114 = .ok (.aload_n 0, 1) := by decide +kernel
theorem dX3_readOrder_115 : decode cX3_readOrder 115 = .ok (.bipush 111, 2) := by decide +kernel
theorem dX3_readOrder_117 : decode cX3_readOrder 117 = .ok (.invokevirtual 42, 3) := by decide +kernel
theorem dX3_readOrder_120 : decode cX3_readOrder 120 = .ok (.ifCond .eq 32, 3) := by decide +kernel
theorem dX3_readOrder_123 : decode cX3_readOrder 123 = .ok (.aload_n 0, 1) := by decide +kernel
theorem dX3_readOrder_124 : decode cX3_readOrder 124 = .ok (.bipush 42, 2) := by decide +kernel
theorem dX3_readOrder_126 : decode cX3_readOrder 126 = .ok (.invokevirtual 59, 3) := by decide +kernel
theorem dX3_readOrder_129 : decode cX3_readOrder 129 = .ok (.ifCond .eq 23, 3) := by decide +kernel
theorem dX3_readOrder_132 : decode cX3_readOrder 132 = .ok (.aload_n 0, 1) := by decide +kernel
theorem dX3_readOrder_133 : decode cX3_readOrder 133 = .ok (.bipush 64, 2) := by decide +kernel
theorem dX3_readOrder_135 : decode cX3_readOrder 135 = .ok (.invokevirtual 42, 3) := by decide +kernel
theorem dX3_readOrder_138 : decode cX3_readOrder 138 = .ok (.ifCond .eq 14, 3) := by decide +kernel
theorem dX3_readOrder_141 : decode cX3_readOrder 141 = .ok (.aload_n 0, 1) := by decide +kernel
theorem dX3_readOrder_142 : decode cX3_readOrder 142 = .ok (.invokevirtual 62, 3) := by decide +kernel
theorem dX3_readOrder_145 : decode cX3_readOrder 145 = .ok (.ifCond .eq 7, 3) := by decide +kernel
theorem dX3_readOrder_148 : decode cX3_readOrder 148 = .ok (.iconst 1, 1) := by decide +kernel
theorem dX3_readOrder_149 : decode cX3_readOrder 149 = .ok (.goto 4, 3) := by decide +kernel
theorem dX3_readOrder_152 : decode cX3_readOrder 152 = .ok (.iconst 0, 1) := by decide +kernel
theorem dX3_readOrder_153 : decode cX3_readOrder 153 = .ok (.ireturn, 1) := by decide +kernel
theorem dX3_readOrder_154 : decode cX3_readOrder 154 = .ok (.aload_n 0, 1) := by decide +kernel
theorem dX3_readOrder_155 : decode cX3_readOrder 155 = .ok (.bipush 109, 2) := by decide +kernel
theorem dX3_readOrder_157 : decode cX3_readOrder 157 = .ok (.invokevirtual 42, 3) := by decide +kernel
theorem dX3_readOrder_160 : decode cX3_readOrder 160 = .ok (.ifCond .eq 16, 3) := by decide +kernel
theorem dX3_readOrder_163 : decode cX3_readOrder 163 = .ok (.aload_n 0, 1) := by decide +kernel
theorem dX3_readOrder_164 : decode cX3_readOrder 164 = .ok (.bipush 58, 2) := by decide +kernel
theorem dX3_readOrder_166 : decode cX3_readOrder 166 = .ok (.invokevirtual 59, 3) := by decide +kernel
theorem dX3_readOrder_169 : decode cX3_readOrder 169 = .ok (.ifCond .eq 7, 3) := by decide +kernel
theorem dX3_readOrder_172 : decode cX3_readOrder 172 = .ok (.iconst 1, 1) := by decide +kernel
theorem dX3_readOrder_173 : decode cX3_readOrder 173 = .ok (.goto 4, 3) := by decide +kernel
theorem dX3_readOrder_176 : decode cX3_readOrder 176 = .ok (.iconst 0, 1) := by decide +kernel
theorem dX3_readOrder_177 : decode cX3_readOrder 177 = .ok (.ireturn, 1) := by decide +kernel
theorem dX3_readOrder_178 : decode cX3_readOrder 178 = .ok (.aload_n 0, 1) := by decide +kernel
theorem dX3_readOrder_179 : decode cX3_readOrder 179 = .ok (.bipush 114, 2) := by decide +kernel
theorem dX3_readOrder_181 : decode cX3_readOrder 181 = .ok (.invokevirtual 42, 3) := by decide +kernel
theorem dX3_readOrder_184 : decode cX3_readOrder 184 = .ok (.ifCond .eq 16, 3) := by decide +kernel
theorem dX3_readOrder_187 : decode cX3_readOrder 187 = .ok (.aload_n 0, 1) := by decide +kernel
theorem dX3_readOrder_188 : decode cX3_readOrder 188 = .ok (.bipush 42, 2) := by decide +kernel
theorem dX3_readOrder_190 : decode cX3_readOrder 190 = .ok (.invokevirtual 59, 3) := by decide +kernel
theorem dX3_readOrder_193 : decode cX3_readOrder 193 = .ok (.ifCond .eq 7, 3) := by decide +kernel
theorem dX3_readOrder_196 : decode cX3_readOrder 196 = .ok (.iconst 1, 1) := by decide +kernel
theorem dX3_readOrder_197 : decode cX3_readOrder 197 = .ok (.goto 4, 3) := by decide +kernel
theorem dX3_readOrder_200 : decode cX3_readOrder 200 = .ok (.iconst 0, 1) := by decide +kernel
theorem dX3_readOrder_201 : decode cX3_readOrder 201 = .ok (.ireturn, 1) := by decide +kernel
theorem dX3_readOrder_202 : decode cX3_readOrder 202 = .ok (.aload_n 0, 1) := by decide +kernel
theorem dX3_readOrder_203 : decode cX3_readOrder 203 = .ok (.bipush 120, 2) := by decide +kernel
theorem dX3_readOrder_205 : decode cX3_readOrder 205 = .ok (.invokevirtual 42, 3) := by decide +kernel
theorem dX3_readOrder_208 : decode cX3_readOrder 208 = .ok (.ireturn, 1) := by decide +kernel
theorem okX3_readOrder : CalOK yX3_readOrder cX3_readOrder 1 (some .boolean) 0 := ⟨wd_72, wd_640, by decide +kernel⟩
theorem ovX3_readOrder : VirOK yX3_readOrder := ⟨wd_638, wd_639⟩
def FX3_readOrder (B : Blk) : Option (Int32 × Blk) :=
  lt1 (bs B 5 5 (0 : Int32)) fun B1 =>
  c1 (FX3_here B1) fun r3 =>
  lt1 (bs B1 5 3 r3) fun B5 =>
  if ((B5 5) 3) = (100 : Int32) then
    c2 (FX3_readSign B5 (100 : Int32)) fun r8 B10 =>
    if r8 = 0 then
      some ((0 : Int32), B10)
    else
      c2 (FX3_readPair B10 (61 : Int32)) fun r12 B14 =>
      if r12 = 0 then
        some ((0 : Int32), B14)
      else
        some ((1 : Int32), B14)
  else
    if ((B5 5) 3) = (109 : Int32) then
      c2 (FX3_readSign B5 (109 : Int32)) fun r17 B19 =>
      if r17 = 0 then
        some ((0 : Int32), B19)
      else
        c2 (FX3_readPair B19 (58 : Int32)) fun r21 B23 =>
        if r21 = 0 then
          some ((0 : Int32), B23)
        else
          some ((1 : Int32), B23)
    else
      if ((B5 5) 3) = (111 : Int32) then
        c2 (FX3_readSign B5 (111 : Int32)) fun r26 B28 =>
        if r26 = 0 then
          some ((0 : Int32), B28)
        else
          c2 (FX3_readPair B28 (42 : Int32)) fun r30 B32 =>
          if r30 = 0 then
            some ((0 : Int32), B32)
          else
            c2 (FX3_readSign B32 (64 : Int32)) fun r34 B36 =>
            if r34 = 0 then
              some ((0 : Int32), B36)
            else
              c2 (FX3_readNumber B36) fun r38 B40 =>
              if r38 = 0 then
                some ((0 : Int32), B40)
              else
                some ((1 : Int32), B40)
      else
        if ((B5 5) 3) = (114 : Int32) then
          c2 (FX3_readSign B5 (114 : Int32)) fun r43 B45 =>
          if r43 = 0 then
            some ((0 : Int32), B45)
          else
            c2 (FX3_readPair B45 (42 : Int32)) fun r47 B49 =>
            if r47 = 0 then
              some ((0 : Int32), B49)
            else
              some ((1 : Int32), B49)
        else
          if ((B5 5) 3) = (116 : Int32) then
            c2 (FX3_readSign B5 (116 : Int32)) fun r52 B54 =>
            if r52 = 0 then
              some ((0 : Int32), B54)
            else
              c2 (FX3_readTask B54) fun r56 B58 =>
              if r56 = 0 then
                some ((0 : Int32), B58)
              else
                some ((1 : Int32), B58)
          else
            c2 (FX3_readSign B5 (120 : Int32)) fun r60 B62 =>
            rZ r60 (some (r60, B62))
set_option maxRecDepth 100000 in
set_option maxHeartbeats 4000000 in
theorem wX3_readOrder {E : WE} {V : VT} {A : Nat → Prop} {H0 : Heap} {M : Mem} (Cx : CX E RX3 cX3_readOrder 1 4 83) {r : Int32} {B' : Blk} (hret : RetI E V A H0 cX3_readOrder .boolean r (jb M 11 B')) {H : Heap} {locs : List Loc} {ls : Array Slot} {B : Blk} (hW : Wd V A H0 (jb M 11 B) (eS E) H locs) (hl : lv_has ls 1 [(0, .ref (vA V 11 5))]) (hF : FX3_readOrder B = some (r, B')) : Wq E H locs 0 ls [] := by
  unfold FX3_readOrder at hF
  refine q_aload_n Cx dX3_readOrder_0 rfl (lv_at hl 0 rfl) ?_
  refine q_iconst (v := (0 : Int32)) Cx dX3_readOrder_1 (by decide) ?_
  obtain ⟨B1, e2, hF⟩ := lt1_some hF
  refine qb_put Cx hW oQ ic3 5 (by decide) (Nat.le_of_ble_eq_true rfl) e2 rfl rfl ⟨nI32 _, rfl⟩ wd_232 dX3_readOrder_2 (fun H locs hW => ?_)
  refine q_aload_n Cx dX3_readOrder_5 rfl (lv_at hl 0 rfl) ?_
  refine q_aload_n Cx dX3_readOrder_6 rfl (lv_at hl 0 rfl) ?_
  obtain ⟨r3, e4, hF⟩ := c1_some hF
  refine q_callI (as := []) (rest := [.ref (vA V 11 5)]) Cx (kX3_here e4) okX3_here ovX3_here wd_641 ⟨rfl, rfl, by decide, by decide⟩ hW oQ ic3 rfl hl.1 (Nat.le_of_ble_eq_true rfl) rfl dX3_readOrder_7 (fun H locs hW => ?_)
  obtain ⟨B5, e6, hF⟩ := lt1_some hF
  refine qb_put Cx hW oQ ic3 3 (by decide) (Nat.le_of_ble_eq_true rfl) e6 rfl rfl ⟨nI32 _, rfl⟩ wd_228 dX3_readOrder_10 (fun H locs hW => ?_)
  refine q_aload_n Cx dX3_readOrder_13 rfl (lv_at hl 0 rfl) ?_
  refine qb_get (v := .int ((B5 5) 3)) Cx hW oQ ic3 3 (by decide) rfl wd_228 dX3_readOrder_14 ?_
  by_cases c7 : ((B5 5) 3) = (100 : Int32)
  · have hF := (if_pos c7).symm.trans hF
    refine q_lookup (tgt := 90) (off := 73) Cx dX3_readOrder_17 (by decide) (ho := (by rw [c7]; decide)) (by decide) ?_
    refine q_aload_n Cx dX3_readOrder_90 rfl (lv_at hl 0 rfl) ?_
    refine q_bipush (v := (100 : Int32)) Cx dX3_readOrder_91 (by decide) ?_
    obtain ⟨r8, B10, e9, hF⟩ := c2_some hF
    refine q_callI (as := [.int (100 : Int32)]) (rest := []) Cx (kX3_readSign e9) okX3_readSign ovX3_readSign wd_645 ⟨rfl, rfl, by decide, by decide⟩ hW oQ ic3 rfl hl.1 (Nat.le_of_ble_eq_true rfl) rfl dX3_readOrder_93 (fun H locs hW => ?_)
    refine q_if_eq (tgt := 112) Cx dX3_readOrder_96 (by decide) (fun c11 => ?_) (fun c11 => ?_)
    · have hF := (if_pos c11).symm.trans hF
      refine q_iconst (v := (0 : Int32)) Cx dX3_readOrder_112 (by decide) ?_
      obtain ⟨rfl, rfl⟩ := Prod.mk.inj (Option.some.inj hF)
      exact hret _ _ _ _ dX3_readOrder_113 (by rfl) hW
    · have hF := (if_neg c11).symm.trans hF
      refine q_aload_n Cx dX3_readOrder_99 rfl (lv_at hl 0 rfl) ?_
      refine q_bipush (v := (61 : Int32)) Cx dX3_readOrder_100 (by decide) ?_
      obtain ⟨r12, B14, e13, hF⟩ := c2_some hF
      refine q_callI (as := [.int (61 : Int32)]) (rest := []) Cx (kX3_readPair e13) okX3_readPair ovX3_readPair wd_669 ⟨rfl, rfl, by decide, by decide⟩ hW oQ ic3 rfl hl.1 (Nat.le_of_ble_eq_true rfl) rfl dX3_readOrder_102 (fun H locs hW => ?_)
      refine q_if_eq (tgt := 112) Cx dX3_readOrder_105 (by decide) (fun c15 => ?_) (fun c15 => ?_)
      · have hF := (if_pos c15).symm.trans hF
        refine q_iconst (v := (0 : Int32)) Cx dX3_readOrder_112 (by decide) ?_
        obtain ⟨rfl, rfl⟩ := Prod.mk.inj (Option.some.inj hF)
        exact hret _ _ _ _ dX3_readOrder_113 (by rfl) hW
      · have hF := (if_neg c15).symm.trans hF
        refine q_iconst (v := (1 : Int32)) Cx dX3_readOrder_108 (by decide) ?_
        refine q_goto (tgt := 113) Cx dX3_readOrder_109 (by decide) ?_
        obtain ⟨rfl, rfl⟩ := Prod.mk.inj (Option.some.inj hF)
        exact hret _ _ _ _ dX3_readOrder_113 (by rfl) hW
  · have hF := (if_neg c7).symm.trans hF
    by_cases c16 : ((B5 5) 3) = (109 : Int32)
    · have hF := (if_pos c16).symm.trans hF
      refine q_lookup (tgt := 154) (off := 137) Cx dX3_readOrder_17 (by decide) (ho := (lv_osw c7 (by decide)).trans <| (by rw [c16]; decide)) (by decide) ?_
      refine q_aload_n Cx dX3_readOrder_154 rfl (lv_at hl 0 rfl) ?_
      refine q_bipush (v := (109 : Int32)) Cx dX3_readOrder_155 (by decide) ?_
      obtain ⟨r17, B19, e18, hF⟩ := c2_some hF
      refine q_callI (as := [.int (109 : Int32)]) (rest := []) Cx (kX3_readSign e18) okX3_readSign ovX3_readSign wd_645 ⟨rfl, rfl, by decide, by decide⟩ hW oQ ic3 rfl hl.1 (Nat.le_of_ble_eq_true rfl) rfl dX3_readOrder_157 (fun H locs hW => ?_)
      refine q_if_eq (tgt := 176) Cx dX3_readOrder_160 (by decide) (fun c20 => ?_) (fun c20 => ?_)
      · have hF := (if_pos c20).symm.trans hF
        refine q_iconst (v := (0 : Int32)) Cx dX3_readOrder_176 (by decide) ?_
        obtain ⟨rfl, rfl⟩ := Prod.mk.inj (Option.some.inj hF)
        exact hret _ _ _ _ dX3_readOrder_177 (by rfl) hW
      · have hF := (if_neg c20).symm.trans hF
        refine q_aload_n Cx dX3_readOrder_163 rfl (lv_at hl 0 rfl) ?_
        refine q_bipush (v := (58 : Int32)) Cx dX3_readOrder_164 (by decide) ?_
        obtain ⟨r21, B23, e22, hF⟩ := c2_some hF
        refine q_callI (as := [.int (58 : Int32)]) (rest := []) Cx (kX3_readPair e22) okX3_readPair ovX3_readPair wd_669 ⟨rfl, rfl, by decide, by decide⟩ hW oQ ic3 rfl hl.1 (Nat.le_of_ble_eq_true rfl) rfl dX3_readOrder_166 (fun H locs hW => ?_)
        refine q_if_eq (tgt := 176) Cx dX3_readOrder_169 (by decide) (fun c24 => ?_) (fun c24 => ?_)
        · have hF := (if_pos c24).symm.trans hF
          refine q_iconst (v := (0 : Int32)) Cx dX3_readOrder_176 (by decide) ?_
          obtain ⟨rfl, rfl⟩ := Prod.mk.inj (Option.some.inj hF)
          exact hret _ _ _ _ dX3_readOrder_177 (by rfl) hW
        · have hF := (if_neg c24).symm.trans hF
          refine q_iconst (v := (1 : Int32)) Cx dX3_readOrder_172 (by decide) ?_
          refine q_goto (tgt := 177) Cx dX3_readOrder_173 (by decide) ?_
          obtain ⟨rfl, rfl⟩ := Prod.mk.inj (Option.some.inj hF)
          exact hret _ _ _ _ dX3_readOrder_177 (by rfl) hW
    · have hF := (if_neg c16).symm.trans hF
      by_cases c25 : ((B5 5) 3) = (111 : Int32)
      · have hF := (if_pos c25).symm.trans hF
        refine q_lookup (tgt := 114) (off := 97) Cx dX3_readOrder_17 (by decide) (ho := (lv_osw c7 (by decide)).trans <| (lv_osw c16 (by decide)).trans <| (by rw [c25]; decide)) (by decide) ?_
        refine q_aload_n Cx dX3_readOrder_114 rfl (lv_at hl 0 rfl) ?_
        refine q_bipush (v := (111 : Int32)) Cx dX3_readOrder_115 (by decide) ?_
        obtain ⟨r26, B28, e27, hF⟩ := c2_some hF
        refine q_callI (as := [.int (111 : Int32)]) (rest := []) Cx (kX3_readSign e27) okX3_readSign ovX3_readSign wd_645 ⟨rfl, rfl, by decide, by decide⟩ hW oQ ic3 rfl hl.1 (Nat.le_of_ble_eq_true rfl) rfl dX3_readOrder_117 (fun H locs hW => ?_)
        refine q_if_eq (tgt := 152) Cx dX3_readOrder_120 (by decide) (fun c29 => ?_) (fun c29 => ?_)
        · have hF := (if_pos c29).symm.trans hF
          refine q_iconst (v := (0 : Int32)) Cx dX3_readOrder_152 (by decide) ?_
          obtain ⟨rfl, rfl⟩ := Prod.mk.inj (Option.some.inj hF)
          exact hret _ _ _ _ dX3_readOrder_153 (by rfl) hW
        · have hF := (if_neg c29).symm.trans hF
          refine q_aload_n Cx dX3_readOrder_123 rfl (lv_at hl 0 rfl) ?_
          refine q_bipush (v := (42 : Int32)) Cx dX3_readOrder_124 (by decide) ?_
          obtain ⟨r30, B32, e31, hF⟩ := c2_some hF
          refine q_callI (as := [.int (42 : Int32)]) (rest := []) Cx (kX3_readPair e31) okX3_readPair ovX3_readPair wd_669 ⟨rfl, rfl, by decide, by decide⟩ hW oQ ic3 rfl hl.1 (Nat.le_of_ble_eq_true rfl) rfl dX3_readOrder_126 (fun H locs hW => ?_)
          refine q_if_eq (tgt := 152) Cx dX3_readOrder_129 (by decide) (fun c33 => ?_) (fun c33 => ?_)
          · have hF := (if_pos c33).symm.trans hF
            refine q_iconst (v := (0 : Int32)) Cx dX3_readOrder_152 (by decide) ?_
            obtain ⟨rfl, rfl⟩ := Prod.mk.inj (Option.some.inj hF)
            exact hret _ _ _ _ dX3_readOrder_153 (by rfl) hW
          · have hF := (if_neg c33).symm.trans hF
            refine q_aload_n Cx dX3_readOrder_132 rfl (lv_at hl 0 rfl) ?_
            refine q_bipush (v := (64 : Int32)) Cx dX3_readOrder_133 (by decide) ?_
            obtain ⟨r34, B36, e35, hF⟩ := c2_some hF
            refine q_callI (as := [.int (64 : Int32)]) (rest := []) Cx (kX3_readSign e35) okX3_readSign ovX3_readSign wd_645 ⟨rfl, rfl, by decide, by decide⟩ hW oQ ic3 rfl hl.1 (Nat.le_of_ble_eq_true rfl) rfl dX3_readOrder_135 (fun H locs hW => ?_)
            refine q_if_eq (tgt := 152) Cx dX3_readOrder_138 (by decide) (fun c37 => ?_) (fun c37 => ?_)
            · have hF := (if_pos c37).symm.trans hF
              refine q_iconst (v := (0 : Int32)) Cx dX3_readOrder_152 (by decide) ?_
              obtain ⟨rfl, rfl⟩ := Prod.mk.inj (Option.some.inj hF)
              exact hret _ _ _ _ dX3_readOrder_153 (by rfl) hW
            · have hF := (if_neg c37).symm.trans hF
              refine q_aload_n Cx dX3_readOrder_141 rfl (lv_at hl 0 rfl) ?_
              obtain ⟨r38, B40, e39, hF⟩ := c2_some hF
              refine q_callI (as := []) (rest := []) Cx (kX3_readNumber e39) okX3_readNumber ovX3_readNumber wd_665 ⟨rfl, rfl, by decide, by decide⟩ hW oQ ic3 rfl hl.1 (Nat.le_of_ble_eq_true rfl) rfl dX3_readOrder_142 (fun H locs hW => ?_)
              refine q_if_eq (tgt := 152) Cx dX3_readOrder_145 (by decide) (fun c41 => ?_) (fun c41 => ?_)
              · have hF := (if_pos c41).symm.trans hF
                refine q_iconst (v := (0 : Int32)) Cx dX3_readOrder_152 (by decide) ?_
                obtain ⟨rfl, rfl⟩ := Prod.mk.inj (Option.some.inj hF)
                exact hret _ _ _ _ dX3_readOrder_153 (by rfl) hW
              · have hF := (if_neg c41).symm.trans hF
                refine q_iconst (v := (1 : Int32)) Cx dX3_readOrder_148 (by decide) ?_
                refine q_goto (tgt := 153) Cx dX3_readOrder_149 (by decide) ?_
                obtain ⟨rfl, rfl⟩ := Prod.mk.inj (Option.some.inj hF)
                exact hret _ _ _ _ dX3_readOrder_153 (by rfl) hW
      · have hF := (if_neg c25).symm.trans hF
        by_cases c42 : ((B5 5) 3) = (114 : Int32)
        · have hF := (if_pos c42).symm.trans hF
          refine q_lookup (tgt := 178) (off := 161) Cx dX3_readOrder_17 (by decide) (ho := (lv_osw c7 (by decide)).trans <| (lv_osw c16 (by decide)).trans <| (lv_osw c25 (by decide)).trans <| (by rw [c42]; decide)) (by decide) ?_
          refine q_aload_n Cx dX3_readOrder_178 rfl (lv_at hl 0 rfl) ?_
          refine q_bipush (v := (114 : Int32)) Cx dX3_readOrder_179 (by decide) ?_
          obtain ⟨r43, B45, e44, hF⟩ := c2_some hF
          refine q_callI (as := [.int (114 : Int32)]) (rest := []) Cx (kX3_readSign e44) okX3_readSign ovX3_readSign wd_645 ⟨rfl, rfl, by decide, by decide⟩ hW oQ ic3 rfl hl.1 (Nat.le_of_ble_eq_true rfl) rfl dX3_readOrder_181 (fun H locs hW => ?_)
          refine q_if_eq (tgt := 200) Cx dX3_readOrder_184 (by decide) (fun c46 => ?_) (fun c46 => ?_)
          · have hF := (if_pos c46).symm.trans hF
            refine q_iconst (v := (0 : Int32)) Cx dX3_readOrder_200 (by decide) ?_
            obtain ⟨rfl, rfl⟩ := Prod.mk.inj (Option.some.inj hF)
            exact hret _ _ _ _ dX3_readOrder_201 (by rfl) hW
          · have hF := (if_neg c46).symm.trans hF
            refine q_aload_n Cx dX3_readOrder_187 rfl (lv_at hl 0 rfl) ?_
            refine q_bipush (v := (42 : Int32)) Cx dX3_readOrder_188 (by decide) ?_
            obtain ⟨r47, B49, e48, hF⟩ := c2_some hF
            refine q_callI (as := [.int (42 : Int32)]) (rest := []) Cx (kX3_readPair e48) okX3_readPair ovX3_readPair wd_669 ⟨rfl, rfl, by decide, by decide⟩ hW oQ ic3 rfl hl.1 (Nat.le_of_ble_eq_true rfl) rfl dX3_readOrder_190 (fun H locs hW => ?_)
            refine q_if_eq (tgt := 200) Cx dX3_readOrder_193 (by decide) (fun c50 => ?_) (fun c50 => ?_)
            · have hF := (if_pos c50).symm.trans hF
              refine q_iconst (v := (0 : Int32)) Cx dX3_readOrder_200 (by decide) ?_
              obtain ⟨rfl, rfl⟩ := Prod.mk.inj (Option.some.inj hF)
              exact hret _ _ _ _ dX3_readOrder_201 (by rfl) hW
            · have hF := (if_neg c50).symm.trans hF
              refine q_iconst (v := (1 : Int32)) Cx dX3_readOrder_196 (by decide) ?_
              refine q_goto (tgt := 201) Cx dX3_readOrder_197 (by decide) ?_
              obtain ⟨rfl, rfl⟩ := Prod.mk.inj (Option.some.inj hF)
              exact hret _ _ _ _ dX3_readOrder_201 (by rfl) hW
        · have hF := (if_neg c42).symm.trans hF
          by_cases c51 : ((B5 5) 3) = (116 : Int32)
          · have hF := (if_pos c51).symm.trans hF
            refine q_lookup (tgt := 68) (off := 51) Cx dX3_readOrder_17 (by decide) (ho := (lv_osw c7 (by decide)).trans <| (lv_osw c16 (by decide)).trans <| (lv_osw c25 (by decide)).trans <| (lv_osw c42 (by decide)).trans <| (by rw [c51]; decide)) (by decide) ?_
            refine q_aload_n Cx dX3_readOrder_68 rfl (lv_at hl 0 rfl) ?_
            refine q_bipush (v := (116 : Int32)) Cx dX3_readOrder_69 (by decide) ?_
            obtain ⟨r52, B54, e53, hF⟩ := c2_some hF
            refine q_callI (as := [.int (116 : Int32)]) (rest := []) Cx (kX3_readSign e53) okX3_readSign ovX3_readSign wd_645 ⟨rfl, rfl, by decide, by decide⟩ hW oQ ic3 rfl hl.1 (Nat.le_of_ble_eq_true rfl) rfl dX3_readOrder_71 (fun H locs hW => ?_)
            refine q_if_eq (tgt := 88) Cx dX3_readOrder_74 (by decide) (fun c55 => ?_) (fun c55 => ?_)
            · have hF := (if_pos c55).symm.trans hF
              refine q_iconst (v := (0 : Int32)) Cx dX3_readOrder_88 (by decide) ?_
              obtain ⟨rfl, rfl⟩ := Prod.mk.inj (Option.some.inj hF)
              exact hret _ _ _ _ dX3_readOrder_89 (by rfl) hW
            · have hF := (if_neg c55).symm.trans hF
              refine q_aload_n Cx dX3_readOrder_77 rfl (lv_at hl 0 rfl) ?_
              obtain ⟨r56, B58, e57, hF⟩ := c2_some hF
              refine q_callI (as := []) (rest := []) Cx (kX3_readTask e57) okX3_readTask ovX3_readTask wd_649 ⟨rfl, rfl, by decide, by decide⟩ hW oQ ic3 rfl hl.1 (Nat.le_of_ble_eq_true rfl) rfl dX3_readOrder_78 (fun H locs hW => ?_)
              refine q_if_eq (tgt := 88) Cx dX3_readOrder_81 (by decide) (fun c59 => ?_) (fun c59 => ?_)
              · have hF := (if_pos c59).symm.trans hF
                refine q_iconst (v := (0 : Int32)) Cx dX3_readOrder_88 (by decide) ?_
                obtain ⟨rfl, rfl⟩ := Prod.mk.inj (Option.some.inj hF)
                exact hret _ _ _ _ dX3_readOrder_89 (by rfl) hW
              · have hF := (if_neg c59).symm.trans hF
                refine q_iconst (v := (1 : Int32)) Cx dX3_readOrder_84 (by decide) ?_
                refine q_goto (tgt := 89) Cx dX3_readOrder_85 (by decide) ?_
                obtain ⟨rfl, rfl⟩ := Prod.mk.inj (Option.some.inj hF)
                exact hret _ _ _ _ dX3_readOrder_89 (by rfl) hW
          · have hF := (if_neg c51).symm.trans hF
            refine q_lookup (tgt := 202) (off := 185) Cx dX3_readOrder_17 (by decide) (ho := (lv_osw c7 (by decide)).trans <| (lv_osw c16 (by decide)).trans <| (lv_osw c25 (by decide)).trans <| (lv_osw c42 (by decide)).trans <| (lv_osw c51 (by decide)).trans <| rfl) (by decide) ?_
            refine q_aload_n Cx dX3_readOrder_202 rfl (lv_at hl 0 rfl) ?_
            refine q_bipush (v := (120 : Int32)) Cx dX3_readOrder_203 (by decide) ?_
            obtain ⟨r60, B62, e61, hF⟩ := c2_some hF
            refine q_callI (as := [.int (120 : Int32)]) (rest := []) Cx (kX3_readSign e61) okX3_readSign ovX3_readSign wd_645 ⟨rfl, rfl, by decide, by decide⟩ hW oQ ic3 rfl hl.1 (Nat.le_of_ble_eq_true rfl) rfl dX3_readOrder_205 (fun H locs hW => ?_)
            obtain ⟨h63, hF⟩ := rZ_some hF
            obtain ⟨rfl, rfl⟩ := Prod.mk.inj (Option.some.inj hF)
            exact hret _ _ _ _ dX3_readOrder_208 h63 hW
set_option maxRecDepth 100000 in
theorem kX3_readOrder {l : Launch} {V : VT} {M : Mem} {B : Blk} {r : Int32} {B' : Blk} (hF : FX3_readOrder B = some (r, B')) : MetI l V yX3_readOrder cX3_readOrder 1 .boolean ({ frames := 4, cells := 0, slots := 0, locals := 83 } : Room) [.ref (vA V 11 5)] r (jb M 11 B) (jb M 11 B') := metI_of (by decide) (Nat.le_of_ble_eq_true rfl) (fun E H0 _ Cx hret H locs ls hW hl => wX3_readOrder Cx hret hW hl hF)
theorem dX3_readNext_0 : decode cX3_readNext 0 = .ok (.aload_n 0, 1) := by decide +kernel
theorem dX3_readNext_1 : decode cX3_readNext 1 = .ok (.bipush 59, 2) := by decide +kernel
theorem dX3_readNext_3 : decode cX3_readNext 3 = .ok (.invokevirtual 42, 3) := by decide +kernel
theorem dX3_readNext_6 : decode cX3_readNext 6 = .ok (.ireturn, 1) := by decide +kernel
theorem okX3_readNext : CalOK yX3_readNext cX3_readNext 1 (some .boolean) 0 := ⟨wd_72, wd_676, by decide +kernel⟩
theorem ovX3_readNext : VirOK yX3_readNext := ⟨wd_674, wd_675⟩
def FX3_readNext (B : Blk) : Option (Int32 × Blk) :=
  c2 (FX3_readSign B (59 : Int32)) fun r1 B3 =>
  rZ r1 (some (r1, B3))
set_option maxRecDepth 100000 in
set_option maxHeartbeats 4000000 in
theorem wX3_readNext {E : WE} {V : VT} {A : Nat → Prop} {H0 : Heap} {M : Mem} (Cx : CX E RX3 cX3_readNext 1 2 41) {r : Int32} {B' : Blk} (hret : RetI E V A H0 cX3_readNext .boolean r (jb M 11 B')) {H : Heap} {locs : List Loc} {ls : Array Slot} {B : Blk} (hW : Wd V A H0 (jb M 11 B) (eS E) H locs) (hl : lv_has ls 1 [(0, .ref (vA V 11 5))]) (hF : FX3_readNext B = some (r, B')) : Wq E H locs 0 ls [] := by
  unfold FX3_readNext at hF
  refine q_aload_n Cx dX3_readNext_0 rfl (lv_at hl 0 rfl) ?_
  refine q_bipush (v := (59 : Int32)) Cx dX3_readNext_1 (by decide) ?_
  obtain ⟨r1, B3, e2, hF⟩ := c2_some hF
  refine q_callI (as := [.int (59 : Int32)]) (rest := []) Cx (kX3_readSign e2) okX3_readSign ovX3_readSign wd_645 ⟨rfl, rfl, by decide, by decide⟩ hW oQ ic3 rfl hl.1 (Nat.le_of_ble_eq_true rfl) rfl dX3_readNext_3 (fun H locs hW => ?_)
  obtain ⟨h4, hF⟩ := rZ_some hF
  obtain ⟨rfl, rfl⟩ := Prod.mk.inj (Option.some.inj hF)
  exact hret _ _ _ _ dX3_readNext_6 h4 hW
set_option maxRecDepth 100000 in
theorem kX3_readNext {l : Launch} {V : VT} {M : Mem} {B : Blk} {r : Int32} {B' : Blk} (hF : FX3_readNext B = some (r, B')) : MetI l V yX3_readNext cX3_readNext 1 .boolean ({ frames := 2, cells := 0, slots := 0, locals := 41 } : Room) [.ref (vA V 11 5)] r (jb M 11 B) (jb M 11 B') := metI_of (by decide) (Nat.le_of_ble_eq_true rfl) (fun E H0 _ Cx hret H locs ls hW hl => wX3_readNext Cx hret hW hl hF)
theorem dX3_findFault_0 : decode cX3_findFault 0 = .ok (.aload_n 0, 1) := by decide +kernel
theorem dX3_findFault_1 : decode cX3_findFault 1 = .ok (.invokevirtual 32, 3) := by decide +kernel
theorem dX3_findFault_4 : decode cX3_findFault 4 = .ok (.iconst 0, 1) := by decide +kernel
theorem dX3_findFault_5 : decode cX3_findFault 5 = .ok (.istore_n 1, 1) := by decide +kernel
theorem dX3_findFault_6 : decode cX3_findFault 6 = .ok (.iload_n 1, 1) := by decide +kernel
theorem dX3_findFault_7 : decode cX3_findFault 7 = .ok (.bipush 80, 2) := by decide +kernel
theorem dX3_findFault_9 : decode cX3_findFault 9 = .ok (.if_icmp .ge 31, 3) := by decide +kernel
theorem dX3_findFault_12 : decode cX3_findFault 12 = .ok (.aload_n 0, 1) := by decide +kernel
theorem dX3_findFault_13 : decode cX3_findFault 13 = .ok (.invokevirtual 35, 3) := by decide +kernel
theorem dX3_findFault_16 : decode cX3_findFault 16 = .ok (.ifCond .ne 8, 3) := by decide +kernel
theorem dX3_findFault_19 : decode cX3_findFault 19 = .ok (.aload_n 0, 1) := by decide +kernel
theorem dX3_findFault_20 : decode cX3_findFault 20 = .ok (.getfield 29, 3) := by decide +kernel
theorem dX3_findFault_23 : decode cX3_findFault 23 = .ok (.ireturn, 1) := by decide +kernel
theorem dX3_findFault_24 : decode cX3_findFault 24 = .ok (.aload_n 0, 1) := by decide +kernel
theorem dX3_findFault_25 : decode cX3_findFault 25 = .ok (.invokevirtual 39, 3) := by decide +kernel
theorem dX3_findFault_28 : decode cX3_findFault 28 = .ok (.ifCond .ne 6, 3) := by decide +kernel
theorem dX3_findFault_31 : decode cX3_findFault 31 = .ok (.goto 9, 3) := by decide +kernel
theorem dX3_findFault_34 : decode cX3_findFault 34 = .ok (.iinc 1 1, 3) := by decide +kernel
theorem dX3_findFault_37 : decode cX3_findFault 37 = .ok (.goto (-31), 3) := by decide +kernel
theorem dX3_findFault_40 : decode cX3_findFault 40 = .ok (.aload_n 0, 1) := by decide +kernel
theorem dX3_findFault_41 : decode cX3_findFault 41 = .ok (.getfield 29, 3) := by decide +kernel
theorem dX3_findFault_44 : decode cX3_findFault 44 = .ok (.aload_n 0, 1) := by decide +kernel
theorem dX3_findFault_45 : decode cX3_findFault 45 = .ok (.getfield 25, 3) := by decide +kernel
theorem dX3_findFault_48 : decode cX3_findFault 48 = .ok (.if_icmp .ge 10, 3) := by decide +kernel
theorem dX3_findFault_51 : decode cX3_findFault 51 = .ok (.aload_n 0, 1) := by decide +kernel
theorem dX3_findFault_52 : decode cX3_findFault 52 = .ok (.getfield 29, 3) := by decide +kernel
theorem dX3_findFault_55 : decode cX3_findFault 55 = .ok (.goto 5, 3) := by decide +kernel
theorem dX3_findFault_58 : decode cX3_findFault 58 = .ok (.bipush (-6), 2) := by decide +kernel
theorem dX3_findFault_60 : decode cX3_findFault 60 = .ok (.ireturn, 1) := by decide +kernel
theorem okX3_findFault : CalOK yX3_findFault cX3_findFault 2 (some .int) 0 := ⟨wd_72, wd_632, by decide +kernel⟩
theorem ovX3_findFault : VirOK yX3_findFault := ⟨wd_630, wd_631⟩
def FX3_findFault_40 (B : Blk) : Option (Int32 × Blk) :=
  if ((B 5) 1) ≤ ((B 5) 2) then
    some ((-6 : Int32), B)
  else
    some (((B 5) 2), B)
set_option maxRecDepth 100000 in
set_option maxHeartbeats 4000000 in
theorem wX3_findFault_40 {E : WE} {V : VT} {A : Nat → Prop} {H0 : Heap} {M : Mem} (Cx : CX E RX3 cX3_findFault 2 5 103) {r : Int32} {B' : Blk} (hret : RetI E V A H0 cX3_findFault .int r (jb M 11 B')) {H : Heap} {locs : List Loc} {ls : Array Slot} {B : Blk} (hW : Wd V A H0 (jb M 11 B) (eS E) H locs) (hl : lv_has ls 2 [(0, .ref (vA V 11 5))]) (hF : FX3_findFault_40 B = some (r, B')) : Wq E H locs 40 ls [] := by
  unfold FX3_findFault_40 at hF
  refine q_aload_n Cx dX3_findFault_40 rfl (lv_at hl 0 rfl) ?_
  refine qb_get (v := .int ((B 5) 2)) Cx hW oQ ic3 2 (by decide) rfl wd_227 dX3_findFault_41 ?_
  refine q_aload_n Cx dX3_findFault_44 rfl (lv_at hl 0 rfl) ?_
  refine qb_get (v := .int ((B 5) 1)) Cx hW oQ ic3 1 (by decide) rfl wd_225 dX3_findFault_45 ?_
  refine q_icmp_ge (tgt := 58) Cx dX3_findFault_48 (by decide) (fun c5 => ?_) (fun c5 => ?_)
  · have hF := (if_pos c5).symm.trans hF
    refine q_bipush (v := (-6 : Int32)) Cx dX3_findFault_58 (by decide) ?_
    obtain ⟨rfl, rfl⟩ := Prod.mk.inj (Option.some.inj hF)
    exact hret _ _ _ _ dX3_findFault_60 (nI32 _) hW
  · have hF := (if_neg c5).symm.trans hF
    refine q_aload_n Cx dX3_findFault_51 rfl (lv_at hl 0 rfl) ?_
    refine qb_get (v := .int ((B 5) 2)) Cx hW oQ ic3 2 (by decide) rfl wd_227 dX3_findFault_52 ?_
    refine q_goto (tgt := 60) Cx dX3_findFault_55 (by decide) ?_
    obtain ⟨rfl, rfl⟩ := Prod.mk.inj (Option.some.inj hF)
    exact hret _ _ _ _ dX3_findFault_60 (nI32 _) hW
def FX3_findFault_6s (k6 : Int32 → Blk → Option (Int32 × Blk)) (l1 : Int32) (B : Blk) : Option (Int32 × Blk) :=
  if (80 : Int32) ≤ l1 then
    FX3_findFault_40 B
  else
    c2 (FX3_readOrder B) fun r6 B8 =>
    if r6 = 0 then
      some (((B8 5) 2), B8)
    else
      c2 (FX3_readNext B8) fun r10 B12 =>
      if r10 = 0 then
        FX3_findFault_40 B12
      else
        lt1 (l1 + (1 : Int32)) fun x14 =>
        k6 x14 B12
set_option maxRecDepth 100000 in
set_option maxHeartbeats 4000000 in
theorem wX3_findFault_6s {E : WE} {V : VT} {A : Nat → Prop} {H0 : Heap} {M : Mem} (Cx : CX E RX3 cX3_findFault 2 5 103) {r : Int32} {B' : Blk} (hret : RetI E V A H0 cX3_findFault .int r (jb M 11 B')) {k6 : Int32 → Blk → Option (Int32 × Blk)} (hk6 : ∀ {H : Heap} {locs : List Loc} {ls : Array Slot} {B : Blk} {l1 : Int32}, Wd V A H0 (jb M 11 B) (eS E) H locs → lv_has ls 2 [(0, .ref (vA V 11 5)), (1, .int l1)] → k6 l1 B = some (r, B') → Wq E H locs 6 ls []) {H : Heap} {locs : List Loc} {ls : Array Slot} {l1 : Int32} {B : Blk} (hW : Wd V A H0 (jb M 11 B) (eS E) H locs) (hl : lv_has ls 2 [(0, .ref (vA V 11 5)), (1, .int l1)]) (hF : FX3_findFault_6s k6 l1 B = some (r, B')) : Wq E H locs 6 ls [] := by
  unfold FX3_findFault_6s at hF
  refine q_iload_n Cx dX3_findFault_6 rfl (lv_at hl 1 rfl) ?_
  refine q_bipush (v := (80 : Int32)) Cx dX3_findFault_7 (by decide) ?_
  refine q_icmp_ge (tgt := 40) Cx dX3_findFault_9 (by decide) (fun c4 => ?_) (fun c4 => ?_)
  · have hF := (if_pos c4).symm.trans hF
    exact wX3_findFault_40 Cx hret hW (lv_sub hl [0] rfl) hF
  · have hF := (if_neg c4).symm.trans hF
    refine q_aload_n Cx dX3_findFault_12 rfl (lv_at hl 0 rfl) ?_
    obtain ⟨r6, B8, e7, hF⟩ := c2_some hF
    refine q_callI (as := []) (rest := []) Cx (kX3_readOrder e7) okX3_readOrder ovX3_readOrder wd_637 ⟨rfl, rfl, by decide, by decide⟩ hW oQ ic3 rfl hl.1 (Nat.le_of_ble_eq_true rfl) rfl dX3_findFault_13 (fun H locs hW => ?_)
    refine q_if_ne (tgt := 24) Cx dX3_findFault_16 (by decide) (fun c9 => ?_) (fun c9 => ?_)
    · have hF := (if_neg c9).symm.trans hF
      refine q_aload_n Cx dX3_findFault_24 rfl (lv_at hl 0 rfl) ?_
      obtain ⟨r10, B12, e11, hF⟩ := c2_some hF
      refine q_callI (as := []) (rest := []) Cx (kX3_readNext e11) okX3_readNext ovX3_readNext wd_673 ⟨rfl, rfl, by decide, by decide⟩ hW oQ ic3 rfl hl.1 (Nat.le_of_ble_eq_true rfl) rfl dX3_findFault_25 (fun H locs hW => ?_)
      refine q_if_ne (tgt := 34) Cx dX3_findFault_28 (by decide) (fun c13 => ?_) (fun c13 => ?_)
      · have hF := (if_neg c13).symm.trans hF
        obtain ⟨x14, e15, hF⟩ := lt1_some hF
        refine q_iinc (k := 1) (v := x14) (lv' := [(1, .int x14), (0, .ref (vA V 11 5))]) Cx dX3_findFault_34 hl rfl e15.symm (by decide) rfl (fun ls hl => ?_)
        refine q_goto (tgt := 6) Cx dX3_findFault_37 (by decide) ?_
        exact hk6 hW (lv_sub hl [1, 0] rfl) hF
      · have hF := (if_pos c13).symm.trans hF
        refine q_goto (tgt := 40) Cx dX3_findFault_31 (by decide) ?_
        exact wX3_findFault_40 Cx hret hW (lv_sub hl [0] rfl) hF
    · have hF := (if_pos c9).symm.trans hF
      refine q_aload_n Cx dX3_findFault_19 rfl (lv_at hl 0 rfl) ?_
      refine qb_get (v := .int ((B8 5) 2)) Cx hW oQ ic3 2 (by decide) rfl wd_227 dX3_findFault_20 ?_
      obtain ⟨rfl, rfl⟩ := Prod.mk.inj (Option.some.inj hF)
      exact hret _ _ _ _ dX3_findFault_23 (nI32 _) hW
def FX3_findFault_6 : Nat → Int32 → Blk → Option (Int32 × Blk)
  | 0 => fun _ _ => none
  | n + 1 => FX3_findFault_6s (FX3_findFault_6 n)
set_option maxRecDepth 100000 in
theorem wX3_findFault_6 {E : WE} {V : VT} {A : Nat → Prop} {H0 : Heap} {M : Mem} (Cx : CX E RX3 cX3_findFault 2 5 103) {r : Int32} {B' : Blk} (hret : RetI E V A H0 cX3_findFault .int r (jb M 11 B')) : ∀ (n : Nat) {H : Heap} {locs : List Loc} {ls : Array Slot} {l1 : Int32} {B : Blk}, Wd V A H0 (jb M 11 B) (eS E) H locs → lv_has ls 2 [(0, .ref (vA V 11 5)), (1, .int l1)] → FX3_findFault_6 n l1 B = some (r, B') → Wq E H locs 6 ls [] := by
  intro n
  induction n with
  | zero => intro _ _ _ _ _ hW hl hF; cases hF
  | succ n ih => intro _ _ _ _ _ hW hl hF; exact wX3_findFault_6s Cx hret ih hW hl hF
def FX3_findFault (B : Blk) : Option (Int32 × Blk) :=
  c1 (FX3_toStart B) fun B3 =>
  FX3_findFault_6 fu (0 : Int32) B3
set_option maxRecDepth 100000 in
set_option maxHeartbeats 4000000 in
theorem wX3_findFault {E : WE} {V : VT} {A : Nat → Prop} {H0 : Heap} {M : Mem} (Cx : CX E RX3 cX3_findFault 2 5 103) {r : Int32} {B' : Blk} (hret : RetI E V A H0 cX3_findFault .int r (jb M 11 B')) {H : Heap} {locs : List Loc} {ls : Array Slot} {B : Blk} (hW : Wd V A H0 (jb M 11 B) (eS E) H locs) (hl : lv_has ls 2 [(0, .ref (vA V 11 5))]) (hF : FX3_findFault B = some (r, B')) : Wq E H locs 0 ls [] := by
  unfold FX3_findFault at hF
  refine q_aload_n Cx dX3_findFault_0 rfl (lv_at hl 0 rfl) ?_
  obtain ⟨B3, e2, hF⟩ := c1_some hF
  refine q_callV (as := []) (rest := []) Cx (kX3_toStart e2) okX3_toStart ovX3_toStart wd_633 ⟨rfl, rfl, by decide, by decide⟩ hW oQ ic3 rfl hl.1 (Nat.le_of_ble_eq_true rfl) rfl dX3_findFault_1 (fun H locs hW => ?_)
  refine q_iconst (v := (0 : Int32)) Cx dX3_findFault_4 (by decide) ?_
  refine q_istore_n (lv' := [(1, .int (0 : Int32)), (0, .ref (vA V 11 5))]) Cx dX3_findFault_5 rfl hl (by decide) rfl (fun ls hl => ?_)
  exact wX3_findFault_6 Cx hret fu hW (lv_sub hl [1, 0] rfl) hF
set_option maxRecDepth 100000 in
theorem kX3_findFault {l : Launch} {V : VT} {M : Mem} {B : Blk} {r : Int32} {B' : Blk} (hF : FX3_findFault B = some (r, B')) : MetI l V yX3_findFault cX3_findFault 2 .int ({ frames := 5, cells := 0, slots := 0, locals := 103 } : Room) [.ref (vA V 11 5)] r (jb M 11 B) (jb M 11 B') := metI_of (by decide) (Nat.le_of_ble_eq_true rfl) (fun E H0 _ Cx hret H locs ls hW hl => wX3_findFault Cx hret hW hl hF)
