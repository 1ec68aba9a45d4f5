theorem dL_cell_0 : decode cL_cell 0 = .ok (.iload_n 1, 1) := by decide +kernel
theorem dL_cell_1 : decode cL_cell 1 = .ok (.aload_n 0, 1) := by decide +kernel
theorem dL_cell_2 : decode cL_cell 2 = .ok (.arraylength, 1) := by decide +kernel
theorem dL_cell_3 : decode cL_cell 3 = .ok (.if_icmp .ge 9, 3) := by decide +kernel
theorem dL_cell_6 : decode cL_cell 6 = .ok (.aload_n 0, 1) := by decide +kernel
theorem dL_cell_7 : decode cL_cell 7 = .ok (.iload_n 1, 1) := by decide +kernel
theorem dL_cell_8 : decode cL_cell 8 = .ok (.iaload, 1) := by decide +kernel
theorem dL_cell_9 : decode cL_cell 9 = .ok (.goto 10, 3) := by decide +kernel
theorem dL_cell_12 : decode cL_cell 12 = .ok (.ldc 7, 2) := by decide +kernel
theorem dL_cell_14 : decode cL_cell 14 = .ok (.iload_n 1, 1) := by decide +kernel
theorem dL_cell_15 : decode cL_cell 15 = .ok (.imul, 1) := by decide +kernel
theorem dL_cell_16 : decode cL_cell 16 = .ok (.ldc 8, 2) := by decide +kernel
theorem dL_cell_18 : decode cL_cell 18 = .ok (.iadd, 1) := by decide +kernel
theorem dL_cell_19 : decode cL_cell 19 = .ok (.ireturn, 1) := by decide +kernel
theorem okL_cell : CalOK yL_cell cL_cell 2 (some .int) 2 := ⟨wd_15, wd_366, by decide +kernel⟩
theorem osL_cell : Cond.static yL_cell ∈ lw_gd := wd_365
def FL_cell (X : Scr) (l1 : Int32) : Option Int32 :=
  if (Int32.ofNat X.1) ≤ l1 then
    some (((32452867 : Int32) * l1) + (15485863 : Int32))
  else
    ld X.2 X.1 l1 fun v2 =>
    some v2
set_option maxRecDepth 100000 in
set_option maxHeartbeats 4000000 in
theorem wL_cell {E : WE} {V : VT} {A : Nat → Prop} {H0 : Heap} {M : Mem} (Cx : CX E RL cL_cell 2 0 0) {r : Int32} (hret : RetI E V A H0 cL_cell .int r M) {X : Scr} (hX : X = vScr V) {H : Heap} {locs : List Loc} {ls : Array Slot} {l1 : Int32} (hW : Wd V A H0 M (eS E) H locs) (hl : lv_has ls 2 [(0, .ref (vSb V)), (1, .int l1)]) (hF : FL_cell X l1 = some r) : Wq E H locs 0 ls [] := by
  unfold FL_cell at hF
  refine q_iload_n Cx dL_cell_0 rfl (lv_at hl 1 rfl) ?_
  refine q_aload_n Cx dL_cell_1 rfl (lv_at hl 0 rfl) ?_
  refine q_slen Cx hW hX dL_cell_2 ?_
  refine q_icmp_ge (tgt := 12) Cx dL_cell_3 (by decide) (fun c1 => ?_) (fun c1 => ?_)
  · have hF := (if_pos c1).symm.trans hF
    refine q_ldc (v := (32452867 : Int32)) Cx dL_cell_12 wd_367 ?_
    refine q_iload_n Cx dL_cell_14 rfl (lv_at hl 1 rfl) ?_
    refine q_imul Cx dL_cell_15 ?_
    refine q_ldc (v := (15485863 : Int32)) Cx dL_cell_16 wd_368 ?_
    refine q_iadd Cx dL_cell_18 ?_
    obtain rfl := Option.some.inj hF
    exact hret _ _ _ _ dL_cell_19 (nI32 _) hW
  · have hF := (if_neg c1).symm.trans hF
    refine q_aload_n Cx dL_cell_6 rfl (lv_at hl 0 rfl) ?_
    refine q_iload_n Cx dL_cell_7 rfl (lv_at hl 1 rfl) ?_
    obtain ⟨h3, v2, e4, hF⟩ := ld_some hF
    refine q_sld Cx hW hX h3 e4 dL_cell_8 ?_
    refine q_goto (tgt := 19) Cx dL_cell_9 (by decide) ?_
    obtain rfl := Option.some.inj hF
    exact hret _ _ _ _ dL_cell_19 (nI32 _) hW
set_option maxRecDepth 100000 in
theorem kL_cell {l : Launch} {V : VT} {M : Mem} {X : Scr} (hX : X = vScr V) {l1 : Int32} {r : Int32} (hF : FL_cell X l1 = some r) : MetI l V yL_cell cL_cell 2 .int ({ frames := 0, cells := 0, slots := 0, locals := 0 } : Room) [.ref (vSb V), .int l1] r M M := metI_of (by decide) (Nat.le_of_ble_eq_true rfl) (fun E H0 _ Cx hret H locs ls hW hl => wL_cell Cx hret hX hW hl hF)
theorem dL_low_0 : decode cL_low 0 = .ok (.iload_n 0, 1) := by decide +kernel
theorem dL_low_1 : decode cL_low 1 = .ok (.ldc 9, 2) := by decide +kernel
theorem dL_low_3 : decode cL_low 3 = .ok (.iand, 1) := by decide +kernel
theorem dL_low_4 : decode cL_low 4 = .ok (.iload_n 1, 1) := by decide +kernel
theorem dL_low_5 : decode cL_low 5 = .ok (.irem, 1) := by decide +kernel
theorem dL_low_6 : decode cL_low 6 = .ok (.ireturn, 1) := by decide +kernel
theorem okL_low : CalOK yL_low cL_low 2 (some .int) 2 := ⟨wd_15, wd_371, by decide +kernel⟩
theorem osL_low : Cond.static yL_low ∈ lw_gd := wd_370
def FL_low (l0 : Int32) (l1 : Int32) : Option Int32 :=
  nz l1 <|
  some ((l0 &&& (2147483647 : Int32)) - (l0 &&& (2147483647 : Int32)) / l1 * l1)
set_option maxRecDepth 100000 in
set_option maxHeartbeats 4000000 in
theorem wL_low {E : WE} {V : VT} {A : Nat → Prop} {H0 : Heap} {M : Mem} (Cx : CX E RL cL_low 2 0 0) {r : Int32} (hret : RetI E V A H0 cL_low .int r M) {H : Heap} {locs : List Loc} {ls : Array Slot} {l0 : Int32} {l1 : Int32} (hW : Wd V A H0 M (eS E) H locs) (hl : lv_has ls 2 [(0, .int l0), (1, .int l1)]) (hF : FL_low l0 l1 = some r) : Wq E H locs 0 ls [] := by
  unfold FL_low at hF
  refine q_iload_n Cx dL_low_0 rfl (lv_at hl 0 rfl) ?_
  refine q_ldc (v := (2147483647 : Int32)) Cx dL_low_1 wd_372 ?_
  refine q_iand Cx dL_low_3 ?_
  refine q_iload_n Cx dL_low_4 rfl (lv_at hl 1 rfl) ?_
  obtain ⟨h1, hF⟩ := nz_some hF
  refine q_irem Cx dL_low_5 h1 ?_
  obtain rfl := Option.some.inj hF
  exact hret _ _ _ _ dL_low_6 (nI32 _) hW
set_option maxRecDepth 100000 in
theorem kL_low {l : Launch} {V : VT} {M : Mem} {l0 : Int32} {l1 : Int32} {r : Int32} (hF : FL_low l0 l1 = some r) : MetI l V yL_low cL_low 2 .int ({ frames := 0, cells := 0, slots := 0, locals := 0 } : Room) [.int l0, .int l1] r M M := metI_of (by decide) (Nat.le_of_ble_eq_true rfl) (fun E H0 _ Cx hret H locs ls hW hl => wL_low Cx hret hW hl hF)
theorem dL_build_0 : decode cL_build 0 = .ok (.iconst 1, 1) := by decide +kernel
theorem dL_build_1 : decode cL_build 1 = .ok (.istore_n 3, 1) := by decide +kernel
theorem dL_build_2 : decode cL_build 2 = .ok (.iconst 0, 1) := by decide +kernel
theorem dL_build_3 : decode cL_build 3 = .ok (.istore 4, 2) := by decide +kernel
theorem dL_build_5 : decode cL_build 5 = .ok (.iload 4, 2) := by decide +kernel
theorem dL_build_7 : decode cL_build 7 = .ok (.iload_n 2, 1) := by decide +kernel
theorem dL_build_8 : decode cL_build 8 = .ok (.if_icmp .ge 238, 3) := by decide +kernel
theorem dL_build_11 : decode cL_build 11 = .ok (.iload_n 3, 1) := by decide +kernel
theorem dL_build_12 : decode cL_build 12 = .ok (.ifCond .eq 234, 3) := by decide +kernel
theorem dL_build_15 : decode cL_build 15 = .ok (.aload_n 1, 1) := by decide +kernel
theorem dL_build_16 : decode cL_build 16 = .ok (.iconst 4, 1) := by decide +kernel
theorem dL_build_17 : decode cL_build 17 = .ok (.iload 4, 2) := by decide +kernel
theorem dL_build_19 : decode cL_build 19 = .ok (.iadd, 1) := by decide +kernel
theorem dL_build_20 : decode cL_build 20 = .ok (.invokestatic 10, 3) := by decide +kernel
theorem dL_build_23 : decode cL_build 23 = .ok (.istore 5, 2) := by decide +kernel
theorem dL_build_25 : decode cL_build 25 = .ok (.aload_n 1, 1) := by decide +kernel
theorem dL_build_26 : decode cL_build 26 = .ok (.bipush 20, 2) := by decide +kernel
theorem dL_build_28 : decode cL_build 28 = .ok (.iload 4, 2) := by decide +kernel
theorem dL_build_30 : decode cL_build 30 = .ok (.iadd, 1) := by decide +kernel
theorem dL_build_31 : decode cL_build 31 = .ok (.invokestatic 10, 3) := by decide +kernel
theorem dL_build_34 : decode cL_build 34 = .ok (.istore 6, 2) := by decide +kernel
theorem dL_build_36 : decode cL_build 36 = .ok (.iload 4, 2) := by decide +kernel
theorem dL_build_38 : decode cL_build 38 = .ok (.ifCond .le 28, 3) := by decide +kernel
theorem dL_build_41 : decode cL_build 41 = .ok (.iload 5, 2) := by decide +kernel
theorem dL_build_43 : decode cL_build 43 = .ok (.bipush 20, 2) := by decide +kernel
theorem dL_build_45 : decode cL_build 45 = .ok (.ishr, 1) := by decide +kernel
theorem dL_build_46 : decode cL_build 46 = .ok (.iconst 2, 1) := by decide +kernel
theorem dL_build_47 : decode cL_build 47 = .ok (.invokestatic 16, 3) := by decide +kernel
theorem dL_build_50 : decode cL_build 50 = .ok (.ifCond .ne 16, 3) := by decide +kernel
theorem dL_build_53 : decode cL_build 53 = .ok (.iload 5, 2) := by decide +kernel
theorem dL_build_55 : decode cL_build 55 = .ok (.bipush 22, 2) := by decide +kernel
theorem dL_build_57 : decode cL_build 57 = .ok (.ishr, 1) := by decide +kernel
theorem dL_build_58 : decode cL_build 58 = .ok (.iload 4, 2) := by decide +kernel
theorem dL_build_60 : decode cL_build 60 = .ok (.invokestatic 16, 3) := by decide +kernel
theorem dL_build_63 : decode cL_build 63 = .ok (.goto 5, 3) := by decide +kernel
theorem dL_build_66 : decode cL_build 66 = .ok (.bipush (-6), 2) := by decide +kernel
theorem dL_build_68 : decode cL_build 68 = .ok (.istore 7, 2) := by decide +kernel
theorem dL_build_70 : decode cL_build 70 = .ok (.aload_n 0, 1) := by decide +kernel
theorem dL_build_71 : decode cL_build 71 = .ok (.iload 5, 2) := by decide +kernel
theorem dL_build_73 : decode cL_build 73 = .ok (.iconst 4, 1) := by decide +kernel
theorem dL_build_74 : decode cL_build 74 = .ok (.invokestatic 16, 3) := by decide +kernel
theorem dL_build_77 : decode cL_build 77 = .ok (.iconst 1, 1) := by decide +kernel
theorem dL_build_78 : decode cL_build 78 = .ok (.iload 5, 2) := by decide +kernel
theorem dL_build_80 : decode cL_build 80 = .ok (.iconst 2, 1) := by decide +kernel
theorem dL_build_81 : decode cL_build 81 = .ok (.ishr, 1) := by decide +kernel
theorem dL_build_82 : decode cL_build 82 = .ok (.bipush 14, 2) := by decide +kernel
theorem dL_build_84 : decode cL_build 84 = .ok (.invokestatic 16, 3) := by decide +kernel
theorem dL_build_87 : decode cL_build 87 = .ok (.iadd, 1) := by decide +kernel
theorem dL_build_88 : decode cL_build 88 = .ok (.iload 5, 2) := by decide +kernel
theorem dL_build_90 : decode cL_build 90 = .ok (.bipush 7, 2) := by decide +kernel
theorem dL_build_92 : decode cL_build 92 = .ok (.ishr, 1) := by decide +kernel
theorem dL_build_93 : decode cL_build 93 = .ok (.iload 5, 2) := by decide +kernel
theorem dL_build_95 : decode cL_build 95 = .ok (.bipush 28, 2) := by decide +kernel
theorem dL_build_97 : decode cL_build 97 = .ok (.ishr, 1) := by decide +kernel
theorem dL_build_98 : decode cL_build 98 = .ok (.iconst 3, 1) := by decide +kernel
theorem dL_build_99 : decode cL_build 99 = .ok (.invokestatic 16, 3) := by decide +kernel
theorem dL_build_102 : decode cL_build 102 = .ok (.ifCond .ne 9, 3) := by decide +kernel
theorem dL_build_105 : decode cL_build 105 = .ok (.sipush 300, 3) := by decide +kernel
theorem dL_build_108 : decode cL_build 108 = .ok (.goto 5, 3) := by decide +kernel
theorem dL_build_111 : decode cL_build 111 = .ok (.bipush 50, 2) := by decide +kernel
theorem dL_build_113 : decode cL_build 113 = .ok (.invokestatic 16, 3) := by decide +kernel
theorem dL_build_116 : decode cL_build 116 = .ok (.iload 6, 2) := by decide +kernel
theorem dL_build_118 : decode cL_build 118 = .ok (.sipush 400, 3) := by decide +kernel
theorem dL_build_121 : decode cL_build 121 = .ok (.invokestatic 16, 3) := by decide +kernel
theorem dL_build_124 : decode cL_build 124 = .ok (.iload 7, 2) := by decide +kernel
theorem dL_build_126 : decode cL_build 126 = .ok (.invokevirtual 22, 3) := by decide +kernel
theorem dL_build_129 : decode cL_build 129 = .ok (.iload 4, 2) := by decide +kernel
theorem dL_build_131 : decode cL_build 131 = .ok (.if_icmp .ne 19, 3) := by decide +kernel
theorem dL_build_134 : decode cL_build 134 = .ok (.aload_n 0, 1) := by decide +kernel
theorem dL_build_135 : decode cL_build 135 = .ok (.iload 4, 2) := by decide +kernel
theorem dL_build_137 : decode cL_build 137 = .ok (.iconst 2, 1) := by decide +kernel
theorem dL_build_138 : decode cL_build 138 = .ok (.invokevirtual 26, 3) := by decide +kernel
theorem dL_build_141 : decode cL_build 141 = .ok (.iload 7, 2) := by decide +kernel
theorem dL_build_143 : decode cL_build 143 = .ok (.if_icmp .ne 7, 3) := by decide +kernel
theorem dL_build_146 : decode cL_build 146 = .ok (.iconst 1, 1) := by decide +kernel
theorem dL_build_147 : decode cL_build 147 = .ok (.goto 4, 3) := by decide +kernel
theorem dL_build_150 : decode cL_build 150 = .ok (.iconst 0, 1) := by decide +kernel
theorem dL_build_151 : decode cL_build 151 = .ok (.istore_n 3, 1) := by decide +kernel
theorem dL_build_152 : decode cL_build 152 = .ok (.iload 6, 2) := by decide +kernel
theorem dL_build_154 : decode cL_build 154 = .ok (.bipush 10, 2) := by decide +kernel
theorem dL_build_156 : decode cL_build 156 = .ok (.ishr, 1) := by decide +kernel
theorem dL_build_157 : decode cL_build 157 = .ok (.iconst 3, 1) := by decide +kernel
theorem dL_build_158 : decode cL_build 158 = .ok (.invokestatic 16, 3) := by decide +kernel
theorem dL_build_161 : decode cL_build 161 = .ok (.ifCond .ne 7, 3) := by decide +kernel
theorem dL_build_164 : decode cL_build 164 = .ok (.iconst 0, 1) := by decide +kernel
theorem dL_build_165 : decode cL_build 165 = .ok (.goto 13, 3) := by decide +kernel
theorem dL_build_168 : decode cL_build 168 = .ok (.iload 6, 2) := by decide +kernel
theorem dL_build_170 : decode cL_build 170 = .ok (.bipush 12, 2) := by decide +kernel
theorem dL_build_172 : decode cL_build 172 = .ok (.ishr, 1) := by decide +kernel
theorem dL_build_173 : decode cL_build 173 = .ok (.bipush 30, 2) := by decide +kernel
theorem dL_build_175 : decode cL_build 175 = .ok (.invokestatic 16, 3) := by decide +kernel
theorem dL_build_178 : decode cL_build 178 = .ok (.istore 8, 2) := by decide +kernel
theorem dL_build_180 : decode cL_build 180 = .ok (.iload_n 3, 1) := by decide +kernel
theorem dL_build_181 : decode cL_build 181 = .ok (.ifCond .eq 57, 3) := by decide +kernel
theorem dL_build_184 : decode cL_build 184 = .ok (.aload_n 0, 1) := by decide +kernel
theorem dL_build_185 : decode cL_build 185 = .ok (.iload 4, 2) := by decide +kernel
theorem dL_build_187 : decode cL_build 187 = .ok (.iload 8, 2) := by decide +kernel
theorem dL_build_189 : decode cL_build 189 = .ok (.iload 6, 2) := by decide +kernel
theorem dL_build_191 : decode cL_build 191 = .ok (.bipush 18, 2) := by decide +kernel
theorem dL_build_193 : decode cL_build 193 = .ok (.ishr, 1) := by decide +kernel
theorem dL_build_194 : decode cL_build 194 = .ok (.bipush 12, 2) := by decide +kernel
theorem dL_build_196 : decode cL_build 196 = .ok (.invokestatic 16, 3) := by decide +kernel
theorem dL_build_199 : decode cL_build 199 = .ok (.invokevirtual 29, 3) := by decide +kernel
theorem dL_build_202 : decode cL_build 202 = .ok (.ifCond .ne 36, 3) := by decide +kernel
theorem dL_build_205 : decode cL_build 205 = .ok (.aload_n 0, 1) := by decide +kernel
theorem dL_build_206 : decode cL_build 206 = .ok (.iload 4, 2) := by decide +kernel
theorem dL_build_208 : decode cL_build 208 = .ok (.bipush 9, 2) := by decide +kernel
theorem dL_build_210 : decode cL_build 210 = .ok (.invokevirtual 26, 3) := by decide +kernel
theorem dL_build_213 : decode cL_build 213 = .ok (.iload 8, 2) := by decide +kernel
theorem dL_build_215 : decode cL_build 215 = .ok (.if_icmp .ne 23, 3) := by decide +kernel
theorem dL_build_218 : decode cL_build 218 = .ok (.iload 8, 2) := by decide +kernel
theorem dL_build_220 : decode cL_build 220 = .ok (.ifCond .gt 14, 3) := by decide +kernel
theorem dL_build_223 : decode cL_build 223 = .ok (.aload_n 0, 1) := by decide +kernel
theorem dL_build_224 : decode cL_build 224 = .ok (.iload 4, 2) := by decide +kernel
theorem dL_build_226 : decode cL_build 226 = .ok (.bipush 10, 2) := by decide +kernel
theorem dL_build_228 : decode cL_build 228 = .ok (.invokevirtual 26, 3) := by decide +kernel
theorem dL_build_231 : decode cL_build 231 = .ok (.ifCond .ne 7, 3) := by decide +kernel
theorem dL_build_234 : decode cL_build 234 = .ok (.iconst 1, 1) := by decide +kernel
theorem dL_build_235 : decode cL_build 235 = .ok (.goto 4, 3) := by decide +kernel
theorem dL_build_238 : decode cL_build 238 = .ok (.iconst 0, 1) := by decide +kernel
theorem dL_build_239 : decode cL_build 239 = .ok (.istore_n 3, 1) := by decide +kernel
theorem dL_build_240 : decode cL_build 240 = .ok (.iinc 4 1, 3) := by decide +kernel
theorem dL_build_243 : decode cL_build 243 = .ok (.goto (-238), 3) := by decide +kernel
theorem dL_build_246 : decode cL_build 246 = .ok (.iload_n 3, 1) := by decide +kernel
theorem dL_build_247 : decode cL_build 247 = .ok (.ireturn, 1) := by decide +kernel
theorem okL_build : CalOK yL_build cL_build 9 (some .boolean) 3 := ⟨wd_15, wd_375, by decide +kernel⟩
theorem osL_build : Cond.static yL_build ∈ lw_gd := wd_374
def FL_build_238 (X : Scr) (k5 : Int32 → Int32 → Int32 → Mem → Option (Int32 × Mem)) (l2 : Int32) (l4 : Int32) (M : Mem) : Option (Int32 × Mem) :=
  lt1 (l4 + (1 : Int32)) fun x31 =>
  k5 l2 (0 : Int32) x31 M
set_option maxRecDepth 100000 in
set_option maxHeartbeats 4000000 in
theorem wL_build_238 {E : WE} {V : VT} {A : Nat → Prop} {H0 : Heap} (Cx : CX E RL cL_build 9 6 151) {r : Int32} {M' : Mem} (hret : RetI E V A H0 cL_build .boolean r M') {X : Scr} (hX : X = vScr V) {k5 : Int32 → Int32 → Int32 → Mem → Option (Int32 × Mem)} (hk5 : ∀ {H : Heap} {locs : List Loc} {ls : Array Slot} {M : Mem} {l2 : Int32} {l3 : Int32} {l4 : Int32}, Wd V A H0 M (eS E) H locs → lv_has ls 9 [(0, .ref (vA V 11 0)), (1, .ref (vSb V)), (2, .int l2), (3, .int l3), (4, .int l4)] → k5 l2 l3 l4 M = some (r, M') → Wq E H locs 5 ls []) {H : Heap} {locs : List Loc} {ls : Array Slot} {l2 : Int32} {l4 : Int32} {M : Mem} (hW : Wd V A H0 M (eS E) H locs) (hl : lv_has ls 9 [(0, .ref (vA V 11 0)), (1, .ref (vSb V)), (2, .int l2), (4, .int l4)]) (hF : FL_build_238 X k5 l2 l4 M = some (r, M')) : Wq E H locs 238 ls [] := by
  unfold FL_build_238 at hF
  refine q_iconst (v := (0 : Int32)) Cx dL_build_238 (by decide) ?_
  refine q_istore_n (lv' := [(3, .int (0 : Int32)), (0, .ref (vA V 11 0)), (1, .ref (vSb V)), (2, .int l2), (4, .int l4)]) Cx dL_build_239 rfl hl (by decide) rfl (fun ls hl => ?_)
  obtain ⟨x31, e32, hF⟩ := lt1_some hF
  refine q_iinc (k := 4) (v := x31) (lv' := [(4, .int x31), (3, .int (0 : Int32)), (0, .ref (vA V 11 0)), (1, .ref (vSb V)), (2, .int l2)]) Cx dL_build_240 hl rfl e32.symm (by decide) rfl (fun ls hl => ?_)
  refine q_goto (tgt := 5) Cx dL_build_243 (by decide) ?_
  exact hk5 hW (lv_sub hl [2, 3, 4, 1, 0] rfl) hF
def FL_build_234 (X : Scr) (k5 : Int32 → Int32 → Int32 → Mem → Option (Int32 × Mem)) (l2 : Int32) (l4 : Int32) (M : Mem) : Option (Int32 × Mem) :=
  lt1 (l4 + (1 : Int32)) fun x44 =>
  k5 l2 (1 : Int32) x44 M
set_option maxRecDepth 100000 in
set_option maxHeartbeats 4000000 in
theorem wL_build_234 {E : WE} {V : VT} {A : Nat → Prop} {H0 : Heap} (Cx : CX E RL cL_build 9 6 151) {r : Int32} {M' : Mem} (hret : RetI E V A H0 cL_build .boolean r M') {X : Scr} (hX : X = vScr V) {k5 : Int32 → Int32 → Int32 → Mem → Option (Int32 × Mem)} (hk5 : ∀ {H : Heap} {locs : List Loc} {ls : Array Slot} {M : Mem} {l2 : Int32} {l3 : Int32} {l4 : Int32}, Wd V A H0 M (eS E) H locs → lv_has ls 9 [(0, .ref (vA V 11 0)), (1, .ref (vSb V)), (2, .int l2), (3, .int l3), (4, .int l4)] → k5 l2 l3 l4 M = some (r, M') → Wq E H locs 5 ls []) {H : Heap} {locs : List Loc} {ls : Array Slot} {l2 : Int32} {l4 : Int32} {M : Mem} (hW : Wd V A H0 M (eS E) H locs) (hl : lv_has ls 9 [(0, .ref (vA V 11 0)), (1, .ref (vSb V)), (2, .int l2), (4, .int l4)]) (hF : FL_build_234 X k5 l2 l4 M = some (r, M')) : Wq E H locs 234 ls [] := by
  unfold FL_build_234 at hF
  refine q_iconst (v := (1 : Int32)) Cx dL_build_234 (by decide) ?_
  refine q_goto (tgt := 239) Cx dL_build_235 (by decide) ?_
  refine q_istore_n (lv' := [(3, .int (1 : Int32)), (0, .ref (vA V 11 0)), (1, .ref (vSb V)), (2, .int l2), (4, .int l4)]) Cx dL_build_239 rfl hl (by decide) rfl (fun ls hl => ?_)
  obtain ⟨x44, e45, hF⟩ := lt1_some hF
  refine q_iinc (k := 4) (v := x44) (lv' := [(4, .int x44), (3, .int (1 : Int32)), (0, .ref (vA V 11 0)), (1, .ref (vSb V)), (2, .int l2)]) Cx dL_build_240 hl rfl e45.symm (by decide) rfl (fun ls hl => ?_)
  refine q_goto (tgt := 5) Cx dL_build_243 (by decide) ?_
  exact hk5 hW (lv_sub hl [2, 3, 4, 1, 0] rfl) hF
def FL_build_178 (X : Scr) (k5 : Int32 → Int32 → Int32 → Mem → Option (Int32 × Mem)) (l2 : Int32) (l3 : Int32) (l4 : Int32) (l6 : Int32) (s0 : Int32) (M : Mem) : Option (Int32 × Mem) :=
  if l3 = 0 then
    FL_build_238 X k5 l2 l4 M
  else
    c1 (FL_low (l6 >>> ((18 : Int32) &&& 31)) (12 : Int32)) fun r33 =>
    c2 (FX5_offer M l4 s0 r33) fun r35 M37 =>
    if r35 = 0 then
      c2 (FX5_ofTask M37 l4 (9 : Int32)) fun r39 M41 =>
      if r39 = s0 then
        if 0 < s0 then
          FL_build_234 X k5 l2 l4 M41
        else
          c2 (FX5_ofTask M41 l4 (10 : Int32)) fun r46 M48 =>
          if r46 = 0 then
            FL_build_234 X k5 l2 l4 M48
          else
            FL_build_238 X k5 l2 l4 M48
      else
        FL_build_238 X k5 l2 l4 M41
    else
      FL_build_238 X k5 l2 l4 M37
set_option maxRecDepth 100000 in
set_option maxHeartbeats 4000000 in
theorem wL_build_178 {E : WE} {V : VT} {A : Nat → Prop} {H0 : Heap} (Cx : CX E RL cL_build 9 6 151) {r : Int32} {M' : Mem} (hret : RetI E V A H0 cL_build .boolean r M') {X : Scr} (hX : X = vScr V) {k5 : Int32 → Int32 → Int32 → Mem → Option (Int32 × Mem)} (hk5 : ∀ {H : Heap} {locs : List Loc} {ls : Array Slot} {M : Mem} {l2 : Int32} {l3 : Int32} {l4 : Int32}, Wd V A H0 M (eS E) H locs → lv_has ls 9 [(0, .ref (vA V 11 0)), (1, .ref (vSb V)), (2, .int l2), (3, .int l3), (4, .int l4)] → k5 l2 l3 l4 M = some (r, M') → Wq E H locs 5 ls []) {H : Heap} {locs : List Loc} {ls : Array Slot} {l2 : Int32} {l3 : Int32} {l4 : Int32} {l6 : Int32} {s0 : Int32} {M : Mem} (hW : Wd V A H0 M (eS E) H locs) (hl : lv_has ls 9 [(0, .ref (vA V 11 0)), (1, .ref (vSb V)), (2, .int l2), (3, .int l3), (4, .int l4), (6, .int l6)]) (hF : FL_build_178 X k5 l2 l3 l4 l6 s0 M = some (r, M')) : Wq E H locs 178 ls [.int s0] := by
  unfold FL_build_178 at hF
  refine q_istore (lv' := [(8, .int s0), (0, .ref (vA V 11 0)), (1, .ref (vSb V)), (2, .int l2), (3, .int l3), (4, .int l4), (6, .int l6)]) Cx dL_build_178 hl (by decide) rfl (fun ls hl => ?_)
  refine q_iload_n Cx dL_build_180 rfl (lv_at hl 4 rfl) ?_
  refine q_if_eq (tgt := 238) Cx dL_build_181 (by decide) (fun c30 => ?_) (fun c30 => ?_)
  · have hF := (if_pos c30).symm.trans hF
    exact wL_build_238 Cx hret hX hk5 hW (lv_sub hl [1, 2, 3, 5] rfl) hF
  · have hF := (if_neg c30).symm.trans hF
    refine q_aload_n Cx dL_build_184 rfl (lv_at hl 1 rfl) ?_
    refine q_iload Cx dL_build_185 (lv_at hl 5 rfl) ?_
    refine q_iload Cx dL_build_187 (lv_at hl 0 rfl) ?_
    refine q_iload Cx dL_build_189 (lv_at hl 6 rfl) ?_
    refine q_bipush (v := (18 : Int32)) Cx dL_build_191 (by decide) ?_
    refine q_ishr Cx dL_build_193 ?_
    refine q_bipush (v := (12 : Int32)) Cx dL_build_194 (by decide) ?_
    obtain ⟨r33, e34, hF⟩ := c1_some hF
    refine q_callSI (as := [.int (l6 >>> ((18 : Int32) &&& 31)), .int (12 : Int32)]) (rest := [.int s0, .int l4, .ref (vA V 11 0)]) Cx (kL_low e34) okL_low osL_low rfl wd_369 ⟨rfl, rfl, by decide, by decide⟩ hW rfl hl.1 (Nat.le_of_ble_eq_true rfl) rfl dL_build_196 (fun H locs hW => ?_)
    obtain ⟨r35, M37, e36, hF⟩ := c2_some hF
    refine q_callI (as := [.int l4, .int s0, .int r33]) (rest := []) Cx (kX5_offer e36) okX5_offer ovX5_offer wd_389 ⟨rfl, rfl, by decide, by decide⟩ hW oX ic5 rfl hl.1 (Nat.le_of_ble_eq_true rfl) rfl dL_build_199 (fun H locs hW => ?_)
    refine q_if_ne (tgt := 238) Cx dL_build_202 (by decide) (fun c38 => ?_) (fun c38 => ?_)
    · have hF := (if_neg c38).symm.trans hF
      exact wL_build_238 Cx hret hX hk5 hW (lv_sub hl [1, 2, 3, 5] rfl) hF
    · have hF := (if_pos c38).symm.trans hF
      refine q_aload_n Cx dL_build_205 rfl (lv_at hl 1 rfl) ?_
      refine q_iload Cx dL_build_206 (lv_at hl 5 rfl) ?_
      refine q_bipush (v := (9 : Int32)) Cx dL_build_208 (by decide) ?_
      obtain ⟨r39, M41, e40, hF⟩ := c2_some hF
      refine q_callI (as := [.int l4, .int (9 : Int32)]) (rest := []) Cx (kX5_ofTask e40) okX5_ofTask ovX5_ofTask wd_273 ⟨rfl, rfl, by decide, by decide⟩ hW oX ic5 rfl hl.1 (Nat.le_of_ble_eq_true rfl) rfl dL_build_210 (fun H locs hW => ?_)
      refine q_iload Cx dL_build_213 (lv_at hl 0 rfl) ?_
      refine q_icmp_ne (tgt := 238) Cx dL_build_215 (by decide) (fun c42 => ?_) (fun c42 => ?_)
      · have hF := (if_neg c42).symm.trans hF
        exact wL_build_238 Cx hret hX hk5 hW (lv_sub hl [1, 2, 3, 5] rfl) hF
      · have hF := (if_pos c42).symm.trans hF
        refine q_iload Cx dL_build_218 (lv_at hl 0 rfl) ?_
        refine q_if_gt (tgt := 234) Cx dL_build_220 (by decide) (fun c43 => ?_) (fun c43 => ?_)
        · have hF := (if_pos c43).symm.trans hF
          exact wL_build_234 Cx hret hX hk5 hW (lv_sub hl [1, 2, 3, 5] rfl) hF
        · have hF := (if_neg c43).symm.trans hF
          refine q_aload_n Cx dL_build_223 rfl (lv_at hl 1 rfl) ?_
          refine q_iload Cx dL_build_224 (lv_at hl 5 rfl) ?_
          refine q_bipush (v := (10 : Int32)) Cx dL_build_226 (by decide) ?_
          obtain ⟨r46, M48, e47, hF⟩ := c2_some hF
          refine q_callI (as := [.int l4, .int (10 : Int32)]) (rest := []) Cx (kX5_ofTask e47) okX5_ofTask ovX5_ofTask wd_273 ⟨rfl, rfl, by decide, by decide⟩ hW oX ic5 rfl hl.1 (Nat.le_of_ble_eq_true rfl) rfl dL_build_228 (fun H locs hW => ?_)
          refine q_if_ne (tgt := 238) Cx dL_build_231 (by decide) (fun c49 => ?_) (fun c49 => ?_)
          · have hF := (if_neg c49).symm.trans hF
            exact wL_build_238 Cx hret hX hk5 hW (lv_sub hl [1, 2, 3, 5] rfl) hF
          · have hF := (if_pos c49).symm.trans hF
            exact wL_build_234 Cx hret hX hk5 hW (lv_sub hl [1, 2, 3, 5] rfl) hF
def FL_build_151 (X : Scr) (k5 : Int32 → Int32 → Int32 → Mem → Option (Int32 × Mem)) (l2 : Int32) (l4 : Int32) (l6 : Int32) (s0 : Int32) (M : Mem) : Option (Int32 × Mem) :=
  c1 (FL_low (l6 >>> ((10 : Int32) &&& 31)) (3 : Int32)) fun r25 =>
  if r25 = 0 then
    FL_build_178 X k5 l2 s0 l4 l6 (0 : Int32) M
  else
    c1 (FL_low (l6 >>> ((12 : Int32) &&& 31)) (30 : Int32)) fun r28 =>
    FL_build_178 X k5 l2 s0 l4 l6 r28 M
set_option maxRecDepth 100000 in
set_option maxHeartbeats 4000000 in
theorem wL_build_151 {E : WE} {V : VT} {A : Nat → Prop} {H0 : Heap} (Cx : CX E RL cL_build 9 6 151) {r : Int32} {M' : Mem} (hret : RetI E V A H0 cL_build .boolean r M') {X : Scr} (hX : X = vScr V) {k5 : Int32 → Int32 → Int32 → Mem → Option (Int32 × Mem)} (hk5 : ∀ {H : Heap} {locs : List Loc} {ls : Array Slot} {M : Mem} {l2 : Int32} {l3 : Int32} {l4 : Int32}, Wd V A H0 M (eS E) H locs → lv_has ls 9 [(0, .ref (vA V 11 0)), (1, .ref (vSb V)), (2, .int l2), (3, .int l3), (4, .int l4)] → k5 l2 l3 l4 M = some (r, M') → Wq E H locs 5 ls []) {H : Heap} {locs : List Loc} {ls : Array Slot} {l2 : Int32} {l4 : Int32} {l6 : Int32} {s0 : Int32} {M : Mem} (hW : Wd V A H0 M (eS E) H locs) (hl : lv_has ls 9 [(0, .ref (vA V 11 0)), (1, .ref (vSb V)), (2, .int l2), (4, .int l4), (6, .int l6)]) (hF : FL_build_151 X k5 l2 l4 l6 s0 M = some (r, M')) : Wq E H locs 151 ls [.int s0] := by
  unfold FL_build_151 at hF
  refine q_istore_n (lv' := [(3, .int s0), (0, .ref (vA V 11 0)), (1, .ref (vSb V)), (2, .int l2), (4, .int l4), (6, .int l6)]) Cx dL_build_151 rfl hl (by decide) rfl (fun ls hl => ?_)
  refine q_iload Cx dL_build_152 (lv_at hl 5 rfl) ?_
  refine q_bipush (v := (10 : Int32)) Cx dL_build_154 (by decide) ?_
  refine q_ishr Cx dL_build_156 ?_
  refine q_iconst (v := (3 : Int32)) Cx dL_build_157 (by decide) ?_
  obtain ⟨r25, e26, hF⟩ := c1_some hF
  refine q_callSI (as := [.int (l6 >>> ((10 : Int32) &&& 31)), .int (3 : Int32)]) (rest := []) Cx (kL_low e26) okL_low osL_low rfl wd_369 ⟨rfl, rfl, by decide, by decide⟩ hW rfl hl.1 (Nat.le_of_ble_eq_true rfl) rfl dL_build_158 (fun H locs hW => ?_)
  refine q_if_ne (tgt := 168) Cx dL_build_161 (by decide) (fun c27 => ?_) (fun c27 => ?_)
  · have hF := (if_neg c27).symm.trans hF
    refine q_iload Cx dL_build_168 (lv_at hl 5 rfl) ?_
    refine q_bipush (v := (12 : Int32)) Cx dL_build_170 (by decide) ?_
    refine q_ishr Cx dL_build_172 ?_
    refine q_bipush (v := (30 : Int32)) Cx dL_build_173 (by decide) ?_
    obtain ⟨r28, e29, hF⟩ := c1_some hF
    refine q_callSI (as := [.int (l6 >>> ((12 : Int32) &&& 31)), .int (30 : Int32)]) (rest := []) Cx (kL_low e29) okL_low osL_low rfl wd_369 ⟨rfl, rfl, by decide, by decide⟩ hW rfl hl.1 (Nat.le_of_ble_eq_true rfl) rfl dL_build_175 (fun H locs hW => ?_)
    exact wL_build_178 Cx hret hX hk5 hW (lv_sub hl [1, 2, 3, 0, 4, 5] rfl) hF
  · have hF := (if_pos c27).symm.trans hF
    refine q_iconst (v := (0 : Int32)) Cx dL_build_164 (by decide) ?_
    refine q_goto (tgt := 178) Cx dL_build_165 (by decide) ?_
    exact wL_build_178 Cx hret hX hk5 hW (lv_sub hl [1, 2, 3, 0, 4, 5] rfl) hF
def FL_build_150 (X : Scr) (k5 : Int32 → Int32 → Int32 → Mem → Option (Int32 × Mem)) (l2 : Int32) (l4 : Int32) (l6 : Int32) (M : Mem) : Option (Int32 × Mem) :=
  FL_build_151 X k5 l2 l4 l6 (0 : Int32) M
set_option maxRecDepth 100000 in
set_option maxHeartbeats 4000000 in
theorem wL_build_150 {E : WE} {V : VT} {A : Nat → Prop} {H0 : Heap} (Cx : CX E RL cL_build 9 6 151) {r : Int32} {M' : Mem} (hret : RetI E V A H0 cL_build .boolean r M') {X : Scr} (hX : X = vScr V) {k5 : Int32 → Int32 → Int32 → Mem → Option (Int32 × Mem)} (hk5 : ∀ {H : Heap} {locs : List Loc} {ls : Array Slot} {M : Mem} {l2 : Int32} {l3 : Int32} {l4 : Int32}, Wd V A H0 M (eS E) H locs → lv_has ls 9 [(0, .ref (vA V 11 0)), (1, .ref (vSb V)), (2, .int l2), (3, .int l3), (4, .int l4)] → k5 l2 l3 l4 M = some (r, M') → Wq E H locs 5 ls []) {H : Heap} {locs : List Loc} {ls : Array Slot} {l2 : Int32} {l4 : Int32} {l6 : Int32} {M : Mem} (hW : Wd V A H0 M (eS E) H locs) (hl : lv_has ls 9 [(0, .ref (vA V 11 0)), (1, .ref (vSb V)), (2, .int l2), (4, .int l4), (6, .int l6)]) (hF : FL_build_150 X k5 l2 l4 l6 M = some (r, M')) : Wq E H locs 150 ls [] := by
  unfold FL_build_150 at hF
  refine q_iconst (v := (0 : Int32)) Cx dL_build_150 (by decide) ?_
  exact wL_build_151 Cx hret hX hk5 hW (lv_sub hl [0, 1, 2, 3, 4] rfl) hF
def FL_build_113 (X : Scr) (k5 : Int32 → Int32 → Int32 → Mem → Option (Int32 × Mem)) (l2 : Int32) (l4 : Int32) (l6 : Int32) (l7 : Int32) (s0 : Int32) (s1 : Int32) (s2 : Int32) (s3 : Int32) (M : Mem) : Option (Int32 × Mem) :=
  c1 (FL_low s1 s0) fun r17 =>
  c1 (FL_low l6 (400 : Int32)) fun r19 =>
  c2 (FX5_task M s3 s2 r17 r19 l7) fun r21 M23 =>
  if r21 = l4 then
    c2 (FX5_ofTask M23 l4 (2 : Int32)) fun r50 M52 =>
    if r50 = l7 then
      FL_build_151 X k5 l2 l4 l6 (1 : Int32) M52
    else
      FL_build_150 X k5 l2 l4 l6 M52
  else
    FL_build_150 X k5 l2 l4 l6 M23
set_option maxRecDepth 100000 in
set_option maxHeartbeats 4000000 in
theorem wL_build_113 {E : WE} {V : VT} {A : Nat → Prop} {H0 : Heap} (Cx : CX E RL cL_build 9 6 151) {r : Int32} {M' : Mem} (hret : RetI E V A H0 cL_build .boolean r M') {X : Scr} (hX : X = vScr V) {k5 : Int32 → Int32 → Int32 → Mem → Option (Int32 × Mem)} (hk5 : ∀ {H : Heap} {locs : List Loc} {ls : Array Slot} {M : Mem} {l2 : Int32} {l3 : Int32} {l4 : Int32}, Wd V A H0 M (eS E) H locs → lv_has ls 9 [(0, .ref (vA V 11 0)), (1, .ref (vSb V)), (2, .int l2), (3, .int l3), (4, .int l4)] → k5 l2 l3 l4 M = some (r, M') → Wq E H locs 5 ls []) {H : Heap} {locs : List Loc} {ls : Array Slot} {l2 : Int32} {l4 : Int32} {l6 : Int32} {l7 : Int32} {s0 : Int32} {s1 : Int32} {s2 : Int32} {s3 : Int32} {M : Mem} (hW : Wd V A H0 M (eS E) H locs) (hl : lv_has ls 9 [(0, .ref (vA V 11 0)), (1, .ref (vSb V)), (2, .int l2), (4, .int l4), (6, .int l6), (7, .int l7)]) (hF : FL_build_113 X k5 l2 l4 l6 l7 s0 s1 s2 s3 M = some (r, M')) : Wq E H locs 113 ls [.int s0, .int s1, .int s2, .int s3, .ref (vA V 11 0)] := by
  unfold FL_build_113 at hF
  obtain ⟨r17, e18, hF⟩ := c1_some hF
  refine q_callSI (as := [.int s1, .int s0]) (rest := [.int s2, .int s3, .ref (vA V 11 0)]) Cx (kL_low e18) okL_low osL_low rfl wd_369 ⟨rfl, rfl, by decide, by decide⟩ hW rfl hl.1 (Nat.le_of_ble_eq_true rfl) rfl dL_build_113 (fun H locs hW => ?_)
  refine q_iload Cx dL_build_116 (lv_at hl 4 rfl) ?_
  refine q_sipush (v := (400 : Int32)) Cx dL_build_118 (by decide) ?_
  obtain ⟨r19, e20, hF⟩ := c1_some hF
  refine q_callSI (as := [.int l6, .int (400 : Int32)]) (rest := [.int r17, .int s2, .int s3, .ref (vA V 11 0)]) Cx (kL_low e20) okL_low osL_low rfl wd_369 ⟨rfl, rfl, by decide, by decide⟩ hW rfl hl.1 (Nat.le_of_ble_eq_true rfl) rfl dL_build_121 (fun H locs hW => ?_)
  refine q_iload Cx dL_build_124 (lv_at hl 5 rfl) ?_
  obtain ⟨r21, M23, e22, hF⟩ := c2_some hF
  refine q_callI (as := [.int s3, .int s2, .int r17, .int r19, .int l7]) (rest := []) Cx (kX5_task e22) okX5_task ovX5_task wd_376 ⟨rfl, rfl, by decide, by decide⟩ hW oX ic5 rfl hl.1 (Nat.le_of_ble_eq_true rfl) rfl dL_build_126 (fun H locs hW => ?_)
  refine q_iload Cx dL_build_129 (lv_at hl 3 rfl) ?_
  refine q_icmp_ne (tgt := 150) Cx dL_build_131 (by decide) (fun c24 => ?_) (fun c24 => ?_)
  · have hF := (if_neg c24).symm.trans hF
    exact wL_build_150 Cx hret hX hk5 hW (lv_sub hl [0, 1, 2, 3, 4] rfl) hF
  · have hF := (if_pos c24).symm.trans hF
    refine q_aload_n Cx dL_build_134 rfl (lv_at hl 0 rfl) ?_
    refine q_iload Cx dL_build_135 (lv_at hl 3 rfl) ?_
    refine q_iconst (v := (2 : Int32)) Cx dL_build_137 (by decide) ?_
    obtain ⟨r50, M52, e51, hF⟩ := c2_some hF
    refine q_callI (as := [.int l4, .int (2 : Int32)]) (rest := []) Cx (kX5_ofTask e51) okX5_ofTask ovX5_ofTask wd_273 ⟨rfl, rfl, by decide, by decide⟩ hW oX ic5 rfl hl.1 (Nat.le_of_ble_eq_true rfl) rfl dL_build_138 (fun H locs hW => ?_)
    refine q_iload Cx dL_build_141 (lv_at hl 5 rfl) ?_
    refine q_icmp_ne (tgt := 150) Cx dL_build_143 (by decide) (fun c53 => ?_) (fun c53 => ?_)
    · have hF := (if_neg c53).symm.trans hF
      exact wL_build_150 Cx hret hX hk5 hW (lv_sub hl [0, 1, 2, 3, 4] rfl) hF
    · have hF := (if_pos c53).symm.trans hF
      refine q_iconst (v := (1 : Int32)) Cx dL_build_146 (by decide) ?_
      refine q_goto (tgt := 151) Cx dL_build_147 (by decide) ?_
      exact wL_build_151 Cx hret hX hk5 hW (lv_sub hl [0, 1, 2, 3, 4] rfl) hF
def FL_build_68 (X : Scr) (k5 : Int32 → Int32 → Int32 → Mem → Option (Int32 × Mem)) (l2 : Int32) (l4 : Int32) (l5 : Int32) (l6 : Int32) (s0 : Int32) (M : Mem) : Option (Int32 × Mem) :=
  c1 (FL_low l5 (4 : Int32)) fun r10 =>
  c1 (FL_low (l5 >>> ((2 : Int32) &&& 31)) (14 : Int32)) fun r12 =>
  c1 (FL_low (l5 >>> ((28 : Int32) &&& 31)) (3 : Int32)) fun r14 =>
  if r14 = 0 then
    FL_build_113 X k5 l2 l4 l6 s0 (300 : Int32) (l5 >>> ((7 : Int32) &&& 31)) ((1 : Int32) + r12) r10 M
  else
    FL_build_113 X k5 l2 l4 l6 s0 (50 : Int32) (l5 >>> ((7 : Int32) &&& 31)) ((1 : Int32) + r12) r10 M
set_option maxRecDepth 100000 in
set_option maxHeartbeats 4000000 in
theorem wL_build_68 {E : WE} {V : VT} {A : Nat → Prop} {H0 : Heap} (Cx : CX E RL cL_build 9 6 151) {r : Int32} {M' : Mem} (hret : RetI E V A H0 cL_build .boolean r M') {X : Scr} (hX : X = vScr V) {k5 : Int32 → Int32 → Int32 → Mem → Option (Int32 × Mem)} (hk5 : ∀ {H : Heap} {locs : List Loc} {ls : Array Slot} {M : Mem} {l2 : Int32} {l3 : Int32} {l4 : Int32}, Wd V A H0 M (eS E) H locs → lv_has ls 9 [(0, .ref (vA V 11 0)), (1, .ref (vSb V)), (2, .int l2), (3, .int l3), (4, .int l4)] → k5 l2 l3 l4 M = some (r, M') → Wq E H locs 5 ls []) {H : Heap} {locs : List Loc} {ls : Array Slot} {l2 : Int32} {l4 : Int32} {l5 : Int32} {l6 : Int32} {s0 : Int32} {M : Mem} (hW : Wd V A H0 M (eS E) H locs) (hl : lv_has ls 9 [(0, .ref (vA V 11 0)), (1, .ref (vSb V)), (2, .int l2), (4, .int l4), (5, .int l5), (6, .int l6)]) (hF : FL_build_68 X k5 l2 l4 l5 l6 s0 M = some (r, M')) : Wq E H locs 68 ls [.int s0] := by
  unfold FL_build_68 at hF
  refine q_istore (lv' := [(7, .int s0), (0, .ref (vA V 11 0)), (1, .ref (vSb V)), (2, .int l2), (4, .int l4), (5, .int l5), (6, .int l6)]) Cx dL_build_68 hl (by decide) rfl (fun ls hl => ?_)
  refine q_aload_n Cx dL_build_70 rfl (lv_at hl 1 rfl) ?_
  refine q_iload Cx dL_build_71 (lv_at hl 5 rfl) ?_
  refine q_iconst (v := (4 : Int32)) Cx dL_build_73 (by decide) ?_
  obtain ⟨r10, e11, hF⟩ := c1_some hF
  refine q_callSI (as := [.int l5, .int (4 : Int32)]) (rest := [.ref (vA V 11 0)]) Cx (kL_low e11) okL_low osL_low rfl wd_369 ⟨rfl, rfl, by decide, by decide⟩ hW rfl hl.1 (Nat.le_of_ble_eq_true rfl) rfl dL_build_74 (fun H locs hW => ?_)
  refine q_iconst (v := (1 : Int32)) Cx dL_build_77 (by decide) ?_
  refine q_iload Cx dL_build_78 (lv_at hl 5 rfl) ?_
  refine q_iconst (v := (2 : Int32)) Cx dL_build_80 (by decide) ?_
  refine q_ishr Cx dL_build_81 ?_
  refine q_bipush (v := (14 : Int32)) Cx dL_build_82 (by decide) ?_
  obtain ⟨r12, e13, hF⟩ := c1_some hF
  refine q_callSI (as := [.int (l5 >>> ((2 : Int32) &&& 31)), .int (14 : Int32)]) (rest := [.int (1 : Int32), .int r10, .ref (vA V 11 0)]) Cx (kL_low e13) okL_low osL_low rfl wd_369 ⟨rfl, rfl, by decide, by decide⟩ hW rfl hl.1 (Nat.le_of_ble_eq_true rfl) rfl dL_build_84 (fun H locs hW => ?_)
  refine q_iadd Cx dL_build_87 ?_
  refine q_iload Cx dL_build_88 (lv_at hl 5 rfl) ?_
  refine q_bipush (v := (7 : Int32)) Cx dL_build_90 (by decide) ?_
  refine q_ishr Cx dL_build_92 ?_
  refine q_iload Cx dL_build_93 (lv_at hl 5 rfl) ?_
  refine q_bipush (v := (28 : Int32)) Cx dL_build_95 (by decide) ?_
  refine q_ishr Cx dL_build_97 ?_
  refine q_iconst (v := (3 : Int32)) Cx dL_build_98 (by decide) ?_
  obtain ⟨r14, e15, hF⟩ := c1_some hF
  refine q_callSI (as := [.int (l5 >>> ((28 : Int32) &&& 31)), .int (3 : Int32)]) (rest := [.int (l5 >>> ((7 : Int32) &&& 31)), .int ((1 : Int32) + r12), .int r10, .ref (vA V 11 0)]) Cx (kL_low e15) okL_low osL_low rfl wd_369 ⟨rfl, rfl, by decide, by decide⟩ hW rfl hl.1 (Nat.le_of_ble_eq_true rfl) rfl dL_build_99 (fun H locs hW => ?_)
  refine q_if_ne (tgt := 111) Cx dL_build_102 (by decide) (fun c16 => ?_) (fun c16 => ?_)
  · have hF := (if_neg c16).symm.trans hF
    refine q_bipush (v := (50 : Int32)) Cx dL_build_111 (by decide) ?_
    exact wL_build_113 Cx hret hX hk5 hW (lv_sub hl [1, 2, 3, 4, 6, 0] rfl) hF
  · have hF := (if_pos c16).symm.trans hF
    refine q_sipush (v := (300 : Int32)) Cx dL_build_105 (by decide) ?_
    refine q_goto (tgt := 113) Cx dL_build_108 (by decide) ?_
    exact wL_build_113 Cx hret hX hk5 hW (lv_sub hl [1, 2, 3, 4, 6, 0] rfl) hF
def FL_build_66 (X : Scr) (k5 : Int32 → Int32 → Int32 → Mem → Option (Int32 × Mem)) (l2 : Int32) (l4 : Int32) (l5 : Int32) (l6 : Int32) (M : Mem) : Option (Int32 × Mem) :=
  FL_build_68 X k5 l2 l4 l5 l6 (-6 : Int32) M
set_option maxRecDepth 100000 in
set_option maxHeartbeats 4000000 in
theorem wL_build_66 {E : WE} {V : VT} {A : Nat → Prop} {H0 : Heap} (Cx : CX E RL cL_build 9 6 151) {r : Int32} {M' : Mem} (hret : RetI E V A H0 cL_build .boolean r M') {X : Scr} (hX : X = vScr V) {k5 : Int32 → Int32 → Int32 → Mem → Option (Int32 × Mem)} (hk5 : ∀ {H : Heap} {locs : List Loc} {ls : Array Slot} {M : Mem} {l2 : Int32} {l3 : Int32} {l4 : Int32}, Wd V A H0 M (eS E) H locs → lv_has ls 9 [(0, .ref (vA V 11 0)), (1, .ref (vSb V)), (2, .int l2), (3, .int l3), (4, .int l4)] → k5 l2 l3 l4 M = some (r, M') → Wq E H locs 5 ls []) {H : Heap} {locs : List Loc} {ls : Array Slot} {l2 : Int32} {l4 : Int32} {l5 : Int32} {l6 : Int32} {M : Mem} (hW : Wd V A H0 M (eS E) H locs) (hl : lv_has ls 9 [(0, .ref (vA V 11 0)), (1, .ref (vSb V)), (2, .int l2), (4, .int l4), (5, .int l5), (6, .int l6)]) (hF : FL_build_66 X k5 l2 l4 l5 l6 M = some (r, M')) : Wq E H locs 66 ls [] := by
  unfold FL_build_66 at hF
  refine q_bipush (v := (-6 : Int32)) Cx dL_build_66 (by decide) ?_
  exact wL_build_68 Cx hret hX hk5 hW (lv_sub hl [0, 1, 2, 3, 4, 5] rfl) hF
def FL_build_5s (X : Scr) (k5 : Int32 → Int32 → Int32 → Mem → Option (Int32 × Mem)) (l2 : Int32) (l3 : Int32) (l4 : Int32) (M : Mem) : Option (Int32 × Mem) :=
  if l2 ≤ l4 then
    rZ l3 (some (l3, M))
  else
    if l3 = 0 then
      rZ l3 (some (l3, M))
    else
      c1 (FL_cell X ((4 : Int32) + l4)) fun r5 =>
      c1 (FL_cell X ((20 : Int32) + l4)) fun r7 =>
      if l4 ≤ 0 then
        FL_build_66 X k5 l2 l4 r5 r7 M
      else
        c1 (FL_low (r5 >>> ((20 : Int32) &&& 31)) (2 : Int32)) fun r54 =>
        if r54 = 0 then
          c1 (FL_low (r5 >>> ((22 : Int32) &&& 31)) l4) fun r57 =>
          FL_build_68 X k5 l2 l4 r5 r7 r57 M
        else
          FL_build_66 X k5 l2 l4 r5 r7 M
set_option maxRecDepth 100000 in
set_option maxHeartbeats 4000000 in
theorem wL_build_5s {E : WE} {V : VT} {A : Nat → Prop} {H0 : Heap} (Cx : CX E RL cL_build 9 6 151) {r : Int32} {M' : Mem} (hret : RetI E V A H0 cL_build .boolean r M') {X : Scr} (hX : X = vScr V) {k5 : Int32 → Int32 → Int32 → Mem → Option (Int32 × Mem)} (hk5 : ∀ {H : Heap} {locs : List Loc} {ls : Array Slot} {M : Mem} {l2 : Int32} {l3 : Int32} {l4 : Int32}, Wd V A H0 M (eS E) H locs → lv_has ls 9 [(0, .ref (vA V 11 0)), (1, .ref (vSb V)), (2, .int l2), (3, .int l3), (4, .int l4)] → k5 l2 l3 l4 M = some (r, M') → Wq E H locs 5 ls []) {H : Heap} {locs : List Loc} {ls : Array Slot} {l2 : Int32} {l3 : Int32} {l4 : Int32} {M : Mem} (hW : Wd V A H0 M (eS E) H locs) (hl : lv_has ls 9 [(0, .ref (vA V 11 0)), (1, .ref (vSb V)), (2, .int l2), (3, .int l3), (4, .int l4)]) (hF : FL_build_5s X k5 l2 l3 l4 M = some (r, M')) : Wq E H locs 5 ls [] := by
  unfold FL_build_5s at hF
  refine q_iload Cx dL_build_5 (lv_at hl 4 rfl) ?_
  refine q_iload_n Cx dL_build_7 rfl (lv_at hl 2 rfl) ?_
  refine q_icmp_ge (tgt := 246) Cx dL_build_8 (by decide) (fun c1 => ?_) (fun c1 => ?_)
  · have hF := (if_pos c1).symm.trans hF
    refine q_iload_n Cx dL_build_246 rfl (lv_at hl 3 rfl) ?_
    obtain ⟨h2, hF⟩ := rZ_some hF
    obtain ⟨rfl, rfl⟩ := Prod.mk.inj (Option.some.inj hF)
    exact hret _ _ _ _ dL_build_247 h2 hW
  · have hF := (if_neg c1).symm.trans hF
    refine q_iload_n Cx dL_build_11 rfl (lv_at hl 3 rfl) ?_
    refine q_if_eq (tgt := 246) Cx dL_build_12 (by decide) (fun c3 => ?_) (fun c3 => ?_)
    · have hF := (if_pos c3).symm.trans hF
      refine q_iload_n Cx dL_build_246 rfl (lv_at hl 3 rfl) ?_
      obtain ⟨h4, hF⟩ := rZ_some hF
      obtain ⟨rfl, rfl⟩ := Prod.mk.inj (Option.some.inj hF)
      exact hret _ _ _ _ dL_build_247 h4 hW
    · have hF := (if_neg c3).symm.trans hF
      refine q_aload_n Cx dL_build_15 rfl (lv_at hl 1 rfl) ?_
      refine q_iconst (v := (4 : Int32)) Cx dL_build_16 (by decide) ?_
      refine q_iload Cx dL_build_17 (lv_at hl 4 rfl) ?_
      refine q_iadd Cx dL_build_19 ?_
      obtain ⟨r5, e6, hF⟩ := c1_some hF
      refine q_callSI (as := [.ref (vSb V), .int ((4 : Int32) + l4)]) (rest := []) Cx (kL_cell hX e6) okL_cell osL_cell rfl wd_364 ⟨rfl, rfl, by decide, by decide⟩ hW rfl hl.1 (Nat.le_of_ble_eq_true rfl) rfl dL_build_20 (fun H locs hW => ?_)
      refine q_istore (lv' := [(5, .int r5), (0, .ref (vA V 11 0)), (1, .ref (vSb V)), (2, .int l2), (3, .int l3), (4, .int l4)]) Cx dL_build_23 hl (by decide) rfl (fun ls hl => ?_)
      refine q_aload_n Cx dL_build_25 rfl (lv_at hl 2 rfl) ?_
      refine q_bipush (v := (20 : Int32)) Cx dL_build_26 (by decide) ?_
      refine q_iload Cx dL_build_28 (lv_at hl 5 rfl) ?_
      refine q_iadd Cx dL_build_30 ?_
      obtain ⟨r7, e8, hF⟩ := c1_some hF
      refine q_callSI (as := [.ref (vSb V), .int ((20 : Int32) + l4)]) (rest := []) Cx (kL_cell hX e8) okL_cell osL_cell rfl wd_364 ⟨rfl, rfl, by decide, by decide⟩ hW rfl hl.1 (Nat.le_of_ble_eq_true rfl) rfl dL_build_31 (fun H locs hW => ?_)
      refine q_istore (lv' := [(6, .int r7), (5, .int r5), (0, .ref (vA V 11 0)), (1, .ref (vSb V)), (2, .int l2), (3, .int l3), (4, .int l4)]) Cx dL_build_34 hl (by decide) rfl (fun ls hl => ?_)
      refine q_iload Cx dL_build_36 (lv_at hl 6 rfl) ?_
      refine q_if_le (tgt := 66) Cx dL_build_38 (by decide) (fun c9 => ?_) (fun c9 => ?_)
      · have hF := (if_pos c9).symm.trans hF
        exact wL_build_66 Cx hret hX hk5 hW (lv_sub hl [2, 3, 4, 6, 1, 0] rfl) hF
      · have hF := (if_neg c9).symm.trans hF
        refine q_iload Cx dL_build_41 (lv_at hl 1 rfl) ?_
        refine q_bipush (v := (20 : Int32)) Cx dL_build_43 (by decide) ?_
        refine q_ishr Cx dL_build_45 ?_
        refine q_iconst (v := (2 : Int32)) Cx dL_build_46 (by decide) ?_
        obtain ⟨r54, e55, hF⟩ := c1_some hF
        refine q_callSI (as := [.int (r5 >>> ((20 : Int32) &&& 31)), .int (2 : Int32)]) (rest := []) Cx (kL_low e55) okL_low osL_low rfl wd_369 ⟨rfl, rfl, by decide, by decide⟩ hW rfl hl.1 (Nat.le_of_ble_eq_true rfl) rfl dL_build_47 (fun H locs hW => ?_)
        refine q_if_ne (tgt := 66) Cx dL_build_50 (by decide) (fun c56 => ?_) (fun c56 => ?_)
        · have hF := (if_neg c56).symm.trans hF
          exact wL_build_66 Cx hret hX hk5 hW (lv_sub hl [2, 3, 4, 6, 1, 0] rfl) hF
        · have hF := (if_pos c56).symm.trans hF
          refine q_iload Cx dL_build_53 (lv_at hl 1 rfl) ?_
          refine q_bipush (v := (22 : Int32)) Cx dL_build_55 (by decide) ?_
          refine q_ishr Cx dL_build_57 ?_
          refine q_iload Cx dL_build_58 (lv_at hl 6 rfl) ?_
          obtain ⟨r57, e58, hF⟩ := c1_some hF
          refine q_callSI (as := [.int (r5 >>> ((22 : Int32) &&& 31)), .int l4]) (rest := []) Cx (kL_low e58) okL_low osL_low rfl wd_369 ⟨rfl, rfl, by decide, by decide⟩ hW rfl hl.1 (Nat.le_of_ble_eq_true rfl) rfl dL_build_60 (fun H locs hW => ?_)
          refine q_goto (tgt := 68) Cx dL_build_63 (by decide) ?_
          exact wL_build_68 Cx hret hX hk5 hW (lv_sub hl [2, 3, 4, 6, 1, 0] rfl) hF
def FL_build_5 (X : Scr) : Nat → Int32 → Int32 → Int32 → Mem → Option (Int32 × Mem)
  | 0 => fun _ _ _ _ => none
  | n + 1 => FL_build_5s X (FL_build_5 X n)
set_option maxRecDepth 100000 in
theorem wL_build_5 {E : WE} {V : VT} {A : Nat → Prop} {H0 : Heap} (Cx : CX E RL cL_build 9 6 151) {r : Int32} {M' : Mem} (hret : RetI E V A H0 cL_build .boolean r M') {X : Scr} (hX : X = vScr V) : ∀ (n : Nat) {H : Heap} {locs : List Loc} {ls : Array Slot} {l2 : Int32} {l3 : Int32} {l4 : Int32} {M : Mem}, Wd V A H0 M (eS E) H locs → lv_has ls 9 [(0, .ref (vA V 11 0)), (1, .ref (vSb V)), (2, .int l2), (3, .int l3), (4, .int l4)] → FL_build_5 X n l2 l3 l4 M = some (r, M') → Wq E H locs 5 ls [] := by
  intro n
  induction n with
  | zero => intro _ _ _ _ _ _ _ hW hl hF; cases hF
  | succ n ih => intro _ _ _ _ _ _ _ hW hl hF; exact wL_build_5s Cx hret hX ih hW hl hF
def FL_build (M : Mem) (X : Scr) (l2 : Int32) : Option (Int32 × Mem) :=
  FL_build_5 X fu l2 (1 : Int32) (0 : Int32) M
set_option maxRecDepth 100000 in
set_option maxHeartbeats 4000000 in
theorem wL_build {E : WE} {V : VT} {A : Nat → Prop} {H0 : Heap} (Cx : CX E RL cL_build 9 6 151) {r : Int32} {M' : Mem} (hret : RetI E V A H0 cL_build .boolean r M') {X : Scr} (hX : X = vScr V) {H : Heap} {locs : List Loc} {ls : Array Slot} {l2 : Int32} {M : Mem} (hW : Wd V A H0 M (eS E) H locs) (hl : lv_has ls 9 [(0, .ref (vA V 11 0)), (1, .ref (vSb V)), (2, .int l2)]) (hF : FL_build M X l2 = some (r, M')) : Wq E H locs 0 ls [] := by
  unfold FL_build at hF
  refine q_iconst (v := (1 : Int32)) Cx dL_build_0 (by decide) ?_
  refine q_istore_n (lv' := [(3, .int (1 : Int32)), (0, .ref (vA V 11 0)), (1, .ref (vSb V)), (2, .int l2)]) Cx dL_build_1 rfl hl (by decide) rfl (fun ls hl => ?_)
  refine q_iconst (v := (0 : Int32)) Cx dL_build_2 (by decide) ?_
  refine q_istore (lv' := [(4, .int (0 : Int32)), (3, .int (1 : Int32)), (0, .ref (vA V 11 0)), (1, .ref (vSb V)), (2, .int l2)]) Cx dL_build_3 hl (by decide) rfl (fun ls hl => ?_)
  exact wL_build_5 Cx hret hX fu hW (lv_sub hl [2, 3, 4, 1, 0] rfl) hF
set_option maxRecDepth 100000 in
theorem kL_build {l : Launch} {V : VT} {X : Scr} (hX : X = vScr V) {M : Mem} {l2 : Int32} {r : Int32} {M' : Mem} (hF : FL_build M X l2 = some (r, M')) : MetI l V yL_build cL_build 9 .boolean ({ frames := 6, cells := 0, slots := 0, locals := 151 } : Room) [.ref (vA V 11 0), .ref (vSb V), .int l2] r M M' := metI_of (by decide) (Nat.le_of_ble_eq_true rfl) (fun E H0 _ Cx hret H locs ls hW hl => wL_build Cx hret hX hW hl hF)
theorem dL_before_0 : decode cL_before 0 = .ok (.aload_n 0, 1) := by decide +kernel
theorem dL_before_1 : decode cL_before 1 = .ok (.iload_n 1, 1) := by decide +kernel
theorem dL_before_2 : decode cL_before 2 = .ok (.iconst 3, 1) := by decide +kernel
theorem dL_before_3 : decode cL_before 3 = .ok (.invokevirtual 26, 3) := by decide +kernel
theorem dL_before_6 : decode cL_before 6 = .ok (.istore_n 2, 1) := by decide +kernel
theorem dL_before_7 : decode cL_before 7 = .ok (.iload_n 2, 1) := by decide +kernel
theorem dL_before_8 : decode cL_before 8 = .ok (.ifCond .ne 8, 3) := by decide +kernel
theorem dL_before_11 : decode cL_before 11 = .ok (.bipush (-6), 2) := by decide +kernel
theorem dL_before_13 : decode cL_before 13 = .ok (.goto 16, 3) := by decide +kernel
theorem dL_before_16 : decode cL_before 16 = .ok (.aload_n 0, 1) := by decide +kernel
theorem dL_before_17 : decode cL_before 17 = .ok (.aload_n 0, 1) := by decide +kernel
theorem dL_before_18 : decode cL_before 18 = .ok (.iload_n 1, 1) := by decide +kernel
theorem dL_before_19 : decode cL_before 19 = .ok (.iconst 0, 1) := by decide +kernel
theorem dL_before_20 : decode cL_before 20 = .ok (.invokevirtual 26, 3) := by decide +kernel
theorem dL_before_23 : decode cL_before 23 = .ok (.iload_n 2, 1) := by decide +kernel
theorem dL_before_24 : decode cL_before 24 = .ok (.iconst 1, 1) := by decide +kernel
theorem dL_before_25 : decode cL_before 25 = .ok (.isub, 1) := by decide +kernel
theorem dL_before_26 : decode cL_before 26 = .ok (.invokevirtual 33, 3) := by decide +kernel
theorem dL_before_29 : decode cL_before 29 = .ok (.ireturn, 1) := by decide +kernel
theorem okL_before : CalOK yL_before cL_before 3 (some .int) 2 := ⟨wd_15, wd_406, by decide +kernel⟩
theorem osL_before : Cond.static yL_before ∈ lw_gd := wd_405
def FL_before (M : Mem) (l1 : Int32) : Option (Int32 × Mem) :=
  c2 (FX5_ofTask M l1 (3 : Int32)) fun r1 M3 =>
  if r1 = 0 then
    some ((-6 : Int32), M3)
  else
    c2 (FX5_ofTask M3 l1 (0 : Int32)) fun r5 M7 =>
    c1 (FX5_at M7 r5 (r1 - (1 : Int32))) fun r8 =>
    some (r8, M7)
set_option maxRecDepth 100000 in
set_option maxHeartbeats 4000000 in
theorem wL_before {E : WE} {V : VT} {A : Nat → Prop} {H0 : Heap} (Cx : CX E RL cL_before 3 6 151) {r : Int32} {M' : Mem} (hret : RetI E V A H0 cL_before .int r M') {H : Heap} {locs : List Loc} {ls : Array Slot} {l1 : Int32} {M : Mem} (hW : Wd V A H0 M (eS E) H locs) (hl : lv_has ls 3 [(0, .ref (vA V 11 0)), (1, .int l1)]) (hF : FL_before M l1 = some (r, M')) : Wq E H locs 0 ls [] := by
  unfold FL_before at hF
  refine q_aload_n Cx dL_before_0 rfl (lv_at hl 0 rfl) ?_
  refine q_iload_n Cx dL_before_1 rfl (lv_at hl 1 rfl) ?_
  refine q_iconst (v := (3 : Int32)) Cx dL_before_2 (by decide) ?_
  obtain ⟨r1, M3, e2, hF⟩ := c2_some hF
  refine q_callI (as := [.int l1, .int (3 : Int32)]) (rest := []) Cx (kX5_ofTask e2) okX5_ofTask ovX5_ofTask wd_273 ⟨rfl, rfl, by decide, by decide⟩ hW oX ic5 rfl hl.1 (Nat.le_of_ble_eq_true rfl) rfl dL_before_3 (fun H locs hW => ?_)
  refine q_istore_n (lv' := [(2, .int r1), (0, .ref (vA V 11 0)), (1, .int l1)]) Cx dL_before_6 rfl hl (by decide) rfl (fun ls hl => ?_)
  refine q_iload_n Cx dL_before_7 rfl (lv_at hl 0 rfl) ?_
  refine q_if_ne (tgt := 16) Cx dL_before_8 (by decide) (fun c4 => ?_) (fun c4 => ?_)
  · have hF := (if_neg c4).symm.trans hF
    refine q_aload_n Cx dL_before_16 rfl (lv_at hl 1 rfl) ?_
    refine q_aload_n Cx dL_before_17 rfl (lv_at hl 1 rfl) ?_
    refine q_iload_n Cx dL_before_18 rfl (lv_at hl 2 rfl) ?_
    refine q_iconst (v := (0 : Int32)) Cx dL_before_19 (by decide) ?_
    obtain ⟨r5, M7, e6, hF⟩ := c2_some hF
    refine q_callI (as := [.int l1, .int (0 : Int32)]) (rest := [.ref (vA V 11 0)]) Cx (kX5_ofTask e6) okX5_ofTask ovX5_ofTask wd_273 ⟨rfl, rfl, by decide, by decide⟩ hW oX ic5 rfl hl.1 (Nat.le_of_ble_eq_true rfl) rfl dL_before_20 (fun H locs hW => ?_)
    refine q_iload_n Cx dL_before_23 rfl (lv_at hl 0 rfl) ?_
    refine q_iconst (v := (1 : Int32)) Cx dL_before_24 (by decide) ?_
    refine q_isub Cx dL_before_25 ?_
    obtain ⟨r8, e9, hF⟩ := c1_some hF
    refine q_callI (as := [.int r5, .int (r1 - (1 : Int32))]) (rest := []) Cx (kX5_at e9) okX5_at ovX5_at wd_407 ⟨rfl, rfl, by decide, by decide⟩ hW oX ic5 rfl hl.1 (Nat.le_of_ble_eq_true rfl) rfl dL_before_26 (fun H locs hW => ?_)
    obtain ⟨rfl, rfl⟩ := Prod.mk.inj (Option.some.inj hF)
    exact hret _ _ _ _ dL_before_29 (nI32 _) hW
  · have hF := (if_pos c4).symm.trans hF
    refine q_bipush (v := (-6 : Int32)) Cx dL_before_11 (by decide) ?_
    refine q_goto (tgt := 29) Cx dL_before_13 (by decide) ?_
    obtain ⟨rfl, rfl⟩ := Prod.mk.inj (Option.some.inj hF)
    exact hret _ _ _ _ dL_before_29 (nI32 _) hW
set_option maxRecDepth 100000 in
theorem kL_before {l : Launch} {V : VT} {M : Mem} {l1 : Int32} {r : Int32} {M' : Mem} (hF : FL_before M l1 = some (r, M')) : MetI l V yL_before cL_before 3 .int ({ frames := 6, cells := 0, slots := 0, locals := 151 } : Room) [.ref (vA V 11 0), .int l1] r M M' := metI_of (by decide) (Nat.le_of_ble_eq_true rfl) (fun E H0 _ Cx hret H locs ls hW hl => wL_before Cx hret hW hl hF)
theorem dL_times_0 : decode cL_times 0 = .ok (.iconst 0, 1) := by decide +kernel
theorem dL_times_1 : decode cL_times 1 = .ok (.istore_n 2, 1) := by decide +kernel
theorem dL_times_2 : decode cL_times 2 = .ok (.iconst 0, 1) := by decide +kernel
theorem dL_times_3 : decode cL_times 3 = .ok (.istore_n 3, 1) := by decide +kernel
theorem dL_times_4 : decode cL_times 4 = .ok (.iconst 0, 1) := by decide +kernel
theorem dL_times_5 : decode cL_times 5 = .ok (.istore 4, 2) := by decide +kernel
theorem dL_times_7 : decode cL_times 7 = .ok (.iconst 0, 1) := by decide +kernel
theorem dL_times_8 : decode cL_times 8 = .ok (.istore 5, 2) := by decide +kernel
theorem dL_times_10 : decode cL_times 10 = .ok (.iload 5, 2) := by decide +kernel
theorem dL_times_12 : decode cL_times 12 = .ok (.iload_n 1, 1) := by decide +kernel
theorem dL_times_13 : decode cL_times 13 = .ok (.if_icmp .ge 298, 3) := by decide +kernel
theorem dL_times_16 : decode cL_times 16 = .ok (.aload_n 0, 1) := by decide +kernel
theorem dL_times_17 : decode cL_times 17 = .ok (.iload 5, 2) := by decide +kernel
theorem dL_times_19 : decode cL_times 19 = .ok (.invokestatic 36, 3) := by decide +kernel
theorem dL_times_22 : decode cL_times 22 = .ok (.istore 6, 2) := by decide +kernel
theorem dL_times_24 : decode cL_times 24 = .ok (.aload_n 0, 1) := by decide +kernel
theorem dL_times_25 : decode cL_times 25 = .ok (.iload 5, 2) := by decide +kernel
theorem dL_times_27 : decode cL_times 27 = .ok (.iconst 2, 1) := by decide +kernel
theorem dL_times_28 : decode cL_times 28 = .ok (.invokevirtual 26, 3) := by decide +kernel
theorem dL_times_31 : decode cL_times 31 = .ok (.istore 7, 2) := by decide +kernel
theorem dL_times_33 : decode cL_times 33 = .ok (.iload 6, 2) := by decide +kernel
theorem dL_times_35 : decode cL_times 35 = .ok (.bipush (-6), 2) := by decide +kernel
theorem dL_times_37 : decode cL_times 37 = .ok (.if_icmp .ne 7, 3) := by decide +kernel
theorem dL_times_40 : decode cL_times 40 = .ok (.iconst 0, 1) := by decide +kernel
theorem dL_times_41 : decode cL_times 41 = .ok (.goto 10, 3) := by decide +kernel
theorem dL_times_44 : decode cL_times 44 = .ok (.aload_n 0, 1) := by decide +kernel
theorem dL_times_45 : decode cL_times 45 = .ok (.iload 6, 2) := by decide +kernel
theorem dL_times_47 : decode cL_times 47 = .ok (.iconst 5, 1) := by decide +kernel
theorem dL_times_48 : decode cL_times 48 = .ok (.invokevirtual 26, 3) := by decide +kernel
theorem dL_times_51 : decode cL_times 51 = .ok (.istore 8, 2) := by decide +kernel
theorem dL_times_53 : decode cL_times 53 = .ok (.iload 7, 2) := by decide +kernel
theorem dL_times_55 : decode cL_times 55 = .ok (.bipush (-6), 2) := by decide +kernel
theorem dL_times_57 : decode cL_times 57 = .ok (.if_icmp .ne 7, 3) := by decide +kernel
theorem dL_times_60 : decode cL_times 60 = .ok (.iconst 0, 1) := by decide +kernel
theorem dL_times_61 : decode cL_times 61 = .ok (.goto 10, 3) := by decide +kernel
theorem dL_times_64 : decode cL_times 64 = .ok (.aload_n 0, 1) := by decide +kernel
theorem dL_times_65 : decode cL_times 65 = .ok (.iload 7, 2) := by decide +kernel
theorem dL_times_67 : decode cL_times 67 = .ok (.iconst 5, 1) := by decide +kernel
theorem dL_times_68 : decode cL_times 68 = .ok (.invokevirtual 26, 3) := by decide +kernel
theorem dL_times_71 : decode cL_times 71 = .ok (.istore 9, 2) := by decide +kernel
theorem dL_times_73 : decode cL_times 73 = .ok (.aload_n 0, 1) := by decide +kernel
theorem dL_times_74 : decode cL_times 74 = .ok (.iload 5, 2) := by decide +kernel
theorem dL_times_76 : decode cL_times 76 = .ok (.iconst 5, 1) := by decide +kernel
theorem dL_times_77 : decode cL_times 77 = .ok (.invokevirtual 26, 3) := by decide +kernel
theorem dL_times_80 : decode cL_times 80 = .ok (.istore 10, 2) := by decide +kernel
theorem dL_times_82 : decode cL_times 82 = .ok (.iload 10, 2) := by decide +kernel
theorem dL_times_84 : decode cL_times 84 = .ok (.i2l, 1) := by decide +kernel
theorem dL_times_85 : decode cL_times 85 = .ok (.aload_n 0, 1) := by decide +kernel
theorem dL_times_86 : decode cL_times 86 = .ok (.iload 5, 2) := by decide +kernel
theorem dL_times_88 : decode cL_times 88 = .ok (.invokevirtual 40, 3) := by decide +kernel
theorem dL_times_91 : decode cL_times 91 = .ok (.lsub, 1) := by decide +kernel
theorem dL_times_92 : decode cL_times 92 = .ok (.lstore 11, 2) := by decide +kernel
theorem dL_times_94 : decode cL_times 94 = .ok (.aload_n 0, 1) := by decide +kernel
theorem dL_times_95 : decode cL_times 95 = .ok (.iload 5, 2) := by decide +kernel
theorem dL_times_97 : decode cL_times 97 = .ok (.iconst 4, 1) := by decide +kernel
theorem dL_times_98 : decode cL_times 98 = .ok (.invokevirtual 26, 3) := by decide +kernel
theorem dL_times_101 : decode cL_times 101 = .ok (.iload 8, 2) := by decide +kernel
theorem dL_times_103 : decode cL_times 103 = .ok (.iload 9, 2) := by decide +kernel
theorem dL_times_105 : decode cL_times 105 = .ok (.if_icmp .le 8, 3) := by decide +kernel
theorem dL_times_108 : decode cL_times 108 = .ok (.iload 8, 2) := by decide +kernel
theorem dL_times_110 : decode cL_times 110 = .ok (.goto 5, 3) := by decide +kernel
theorem dL_times_113 : decode cL_times 113 = .ok (.iload 9, 2) := by decide +kernel
theorem dL_times_115 : decode cL_times 115 = .ok (.if_icmp .ne 76, 3) := by decide +kernel
theorem dL_times_118 : decode cL_times 118 = .ok (.iload 10, 2) := by decide +kernel
theorem dL_times_120 : decode cL_times 120 = .ok (.aload_n 0, 1) := by decide +kernel
theorem dL_times_121 : decode cL_times 121 = .ok (.iload 5, 2) := by decide +kernel
theorem dL_times_123 : decode cL_times 123 = .ok (.iconst 4, 1) := by decide +kernel
theorem dL_times_124 : decode cL_times 124 = .ok (.invokevirtual 26, 3) := by decide +kernel
theorem dL_times_127 : decode cL_times 127 = .ok (.aload_n 0, 1) := by decide +kernel
theorem dL_times_128 : decode cL_times 128 = .ok (.iload 5, 2) := by decide +kernel
theorem dL_times_130 : decode cL_times 130 = .ok (.iconst 1, 1) := by decide +kernel
theorem dL_times_131 : decode cL_times 131 = .ok (.invokevirtual 26, 3) := by decide +kernel
theorem dL_times_134 : decode cL_times 134 = .ok (.iadd, 1) := by decide +kernel
theorem dL_times_135 : decode cL_times 135 = .ok (.if_icmp .ne 56, 3) := by decide +kernel
theorem dL_times_138 : decode cL_times 138 = .ok (.aload_n 0, 1) := by decide +kernel
theorem dL_times_139 : decode cL_times 139 = .ok (.iload 5, 2) := by decide +kernel
theorem dL_times_141 : decode cL_times 141 = .ok (.bipush 6, 2) := by decide +kernel
theorem dL_times_143 : decode cL_times 143 = .ok (.invokevirtual 26, 3) := by decide +kernel
theorem dL_times_146 : decode cL_times 146 = .ok (.i2l, 1) := by decide +kernel
theorem dL_times_147 : decode cL_times 147 = .ok (.lload 11, 2) := by decide +kernel
theorem dL_times_149 : decode cL_times 149 = .ok (.lconst 0, 1) := by decide +kernel
theorem dL_times_150 : decode cL_times 150 = .ok (.lcmp, 1) := by decide +kernel
theorem dL_times_151 : decode cL_times 151 = .ok (.ifCond .le 8, 3) := by decide +kernel
theorem dL_times_154 : decode cL_times 154 = .ok (.lload 11, 2) := by decide +kernel
theorem dL_times_156 : decode cL_times 156 = .ok (.goto 4, 3) := by decide +kernel
theorem dL_times_159 : decode cL_times 159 = .ok (.lconst 0, 1) := by decide +kernel
theorem dL_times_160 : decode cL_times 160 = .ok (.lcmp, 1) := by decide +kernel
theorem dL_times_161 : decode cL_times 161 = .ok (.ifCond .ne 30, 3) := by decide +kernel
theorem dL_times_164 : decode cL_times 164 = .ok (.aload_n 0, 1) := by decide +kernel
theorem dL_times_165 : decode cL_times 165 = .ok (.iload 5, 2) := by decide +kernel
theorem dL_times_167 : decode cL_times 167 = .ok (.bipush 7, 2) := by decide +kernel
theorem dL_times_169 : decode cL_times 169 = .ok (.invokevirtual 26, 3) := by decide +kernel
theorem dL_times_172 : decode cL_times 172 = .ok (.i2l, 1) := by decide +kernel
theorem dL_times_173 : decode cL_times 173 = .ok (.lload 11, 2) := by decide +kernel
theorem dL_times_175 : decode cL_times 175 = .ok (.lconst 0, 1) := by decide +kernel
theorem dL_times_176 : decode cL_times 176 = .ok (.lcmp, 1) := by decide +kernel
theorem dL_times_177 : decode cL_times 177 = .ok (.ifCond .ge 9, 3) := by decide +kernel
theorem dL_times_180 : decode cL_times 180 = .ok (.lload 11, 2) := by decide +kernel
theorem dL_times_182 : decode cL_times 182 = .ok (.lneg, 1) := by decide +kernel
theorem dL_times_183 : decode cL_times 183 = .ok (.goto 4, 3) := by decide +kernel
theorem dL_times_186 : decode cL_times 186 = .ok (.lconst 0, 1) := by decide +kernel
theorem dL_times_187 : decode cL_times 187 = .ok (.lcmp, 1) := by decide +kernel
theorem dL_times_188 : decode cL_times 188 = .ok (.ifCond .eq 5, 3) := by decide +kernel
theorem dL_times_191 : decode cL_times 191 = .ok (.iconst 0, 1) := by decide +kernel
theorem dL_times_192 : decode cL_times 192 = .ok (.ireturn, 1) := by decide +kernel
theorem dL_times_193 : decode cL_times 193 = .ok (.aload_n 0, 1) := by decide +kernel
theorem dL_times_194 : decode cL_times 194 = .ok (.aload_n 0, 1) := by decide +kernel
theorem dL_times_195 : decode cL_times 195 = .ok (.iload 5, 2) := by decide +kernel
theorem dL_times_197 : decode cL_times 197 = .ok (.iconst 0, 1) := by decide +kernel
theorem dL_times_198 : decode cL_times 198 = .ok (.invokevirtual 26, 3) := by decide +kernel
theorem dL_times_201 : decode cL_times 201 = .ok (.aload_n 0, 1) := by decide +kernel
theorem dL_times_202 : decode cL_times 202 = .ok (.iload 5, 2) := by decide +kernel
theorem dL_times_204 : decode cL_times 204 = .ok (.iconst 3, 1) := by decide +kernel
theorem dL_times_205 : decode cL_times 205 = .ok (.invokevirtual 26, 3) := by decide +kernel
theorem dL_times_208 : decode cL_times 208 = .ok (.invokevirtual 33, 3) := by decide +kernel
theorem dL_times_211 : decode cL_times 211 = .ok (.iload 5, 2) := by decide +kernel
theorem dL_times_213 : decode cL_times 213 = .ok (.if_icmp .ne 45, 3) := by decide +kernel
theorem dL_times_216 : decode cL_times 216 = .ok (.iload 6, 2) := by decide +kernel
theorem dL_times_218 : decode cL_times 218 = .ok (.ifCond .lt 19, 3) := by decide +kernel
theorem dL_times_221 : decode cL_times 221 = .ok (.aload_n 0, 1) := by decide +kernel
theorem dL_times_222 : decode cL_times 222 = .ok (.iload 6, 2) := by decide +kernel
theorem dL_times_224 : decode cL_times 224 = .ok (.bipush 13, 2) := by decide +kernel
theorem dL_times_226 : decode cL_times 226 = .ok (.invokevirtual 26, 3) := by decide +kernel
theorem dL_times_229 : decode cL_times 229 = .ok (.iload 5, 2) := by decide +kernel
theorem dL_times_231 : decode cL_times 231 = .ok (.ishr, 1) := by decide +kernel
theorem dL_times_232 : decode cL_times 232 = .ok (.iconst 1, 1) := by decide +kernel
theorem dL_times_233 : decode cL_times 233 = .ok (.iand, 1) := by decide +kernel
theorem dL_times_234 : decode cL_times 234 = .ok (.ifCond .eq 24, 3) := by decide +kernel
theorem dL_times_237 : decode cL_times 237 = .ok (.iload 7, 2) := by decide +kernel
theorem dL_times_239 : decode cL_times 239 = .ok (.ifCond .lt 21, 3) := by decide +kernel
theorem dL_times_242 : decode cL_times 242 = .ok (.aload_n 0, 1) := by decide +kernel
theorem dL_times_243 : decode cL_times 243 = .ok (.iload 7, 2) := by decide +kernel
theorem dL_times_245 : decode cL_times 245 = .ok (.bipush 13, 2) := by decide +kernel
theorem dL_times_247 : decode cL_times 247 = .ok (.invokevirtual 26, 3) := by decide +kernel
theorem dL_times_250 : decode cL_times 250 = .ok (.iload 5, 2) := by decide +kernel
theorem dL_times_252 : decode cL_times 252 = .ok (.ishr, 1) := by decide +kernel
theorem dL_times_253 : decode cL_times 253 = .ok (.iconst 1, 1) := by decide +kernel
theorem dL_times_254 : decode cL_times 254 = .ok (.iand, 1) := by decide +kernel
theorem dL_times_255 : decode cL_times 255 = .ok (.ifCond .ne 5, 3) := by decide +kernel
theorem dL_times_258 : decode cL_times 258 = .ok (.iconst 0, 1) := by decide +kernel
theorem dL_times_259 : decode cL_times 259 = .ok (.ireturn, 1) := by decide +kernel
theorem dL_times_260 : decode cL_times 260 = .ok (.iload_n 2, 1) := by decide +kernel
theorem dL_times_261 : decode cL_times 261 = .ok (.aload_n 0, 1) := by decide +kernel
theorem dL_times_262 : decode cL_times 262 = .ok (.iload 5, 2) := by decide +kernel
theorem dL_times_264 : decode cL_times 264 = .ok (.bipush 6, 2) := by decide +kernel
theorem dL_times_266 : decode cL_times 266 = .ok (.invokevirtual 26, 3) := by decide +kernel
theorem dL_times_269 : decode cL_times 269 = .ok (.iadd, 1) := by decide +kernel
theorem dL_times_270 : decode cL_times 270 = .ok (.istore_n 2, 1) := by decide +kernel
theorem dL_times_271 : decode cL_times 271 = .ok (.iload_n 3, 1) := by decide +kernel
theorem dL_times_272 : decode cL_times 272 = .ok (.lload 11, 2) := by decide +kernel
theorem dL_times_274 : decode cL_times 274 = .ok (.lconst 0, 1) := by decide +kernel
theorem dL_times_275 : decode cL_times 275 = .ok (.lcmp, 1) := by decide +kernel
theorem dL_times_276 : decode cL_times 276 = .ok (.ifCond .le 10, 3) := by decide +kernel
theorem dL_times_279 : decode cL_times 279 = .ok (.iconst 1, 1) := by decide +kernel
theorem dL_times_280 : decode cL_times 280 = .ok (.iload 5, 2) := by decide +kernel
theorem dL_times_282 : decode cL_times 282 = .ok (.ishl, 1) := by decide +kernel
theorem dL_times_283 : decode cL_times 283 = .ok (.goto 4, 3) := by decide +kernel
theorem dL_times_286 : decode cL_times 286 = .ok (.iconst 0, 1) := by decide +kernel
theorem dL_times_287 : decode cL_times 287 = .ok (.ior, 1) := by decide +kernel
theorem dL_times_288 : decode cL_times 288 = .ok (.istore_n 3, 1) := by decide +kernel
theorem dL_times_289 : decode cL_times 289 = .ok (.iload 10, 2) := by decide +kernel
theorem dL_times_291 : decode cL_times 291 = .ok (.iload 4, 2) := by decide +kernel
theorem dL_times_293 : decode cL_times 293 = .ok (.if_icmp .le 8, 3) := by decide +kernel
theorem dL_times_296 : decode cL_times 296 = .ok (.iload 10, 2) := by decide +kernel
theorem dL_times_298 : decode cL_times 298 = .ok (.goto 5, 3) := by decide +kernel
theorem dL_times_301 : decode cL_times 301 = .ok (.iload 4, 2) := by decide +kernel
theorem dL_times_303 : decode cL_times 303 = .ok (.istore 4, 2) := by decide +kernel
theorem dL_times_305 : decode cL_times 305 = .ok (.iinc 5 1, 3) := by decide +kernel
theorem dL_times_308 : decode cL_times 308 = .ok (.goto (-298), 3) := by decide +kernel
theorem dL_times_311 : decode cL_times 311 = .ok (.aload_n 0, 1) := by decide +kernel
theorem dL_times_312 : decode cL_times 312 = .ok (.iconst 0, 1) := by decide +kernel
theorem dL_times_313 : decode cL_times 313 = .ok (.invokevirtual 44, 3) := by decide +kernel
theorem dL_times_316 : decode cL_times 316 = .ok (.iload_n 1, 1) := by decide +kernel
theorem dL_times_317 : decode cL_times 317 = .ok (.if_icmp .ne 66, 3) := by decide +kernel
theorem dL_times_320 : decode cL_times 320 = .ok (.aload_n 0, 1) := by decide +kernel
theorem dL_times_321 : decode cL_times 321 = .ok (.iconst 3, 1) := by decide +kernel
theorem dL_times_322 : decode cL_times 322 = .ok (.invokevirtual 44, 3) := by decide +kernel
theorem dL_times_325 : decode cL_times 325 = .ok (.iload_n 3, 1) := by decide +kernel
theorem dL_times_326 : decode cL_times 326 = .ok (.if_icmp .ne 57, 3) := by decide +kernel
theorem dL_times_329 : decode cL_times 329 = .ok (.aload_n 0, 1) := by decide +kernel
theorem dL_times_330 : decode cL_times 330 = .ok (.iconst 4, 1) := by decide +kernel
theorem dL_times_331 : decode cL_times 331 = .ok (.invokevirtual 44, 3) := by decide +kernel
theorem dL_times_334 : decode cL_times 334 = .ok (.iload_n 2, 1) := by decide +kernel
theorem dL_times_335 : decode cL_times 335 = .ok (.if_icmp .ne 48, 3) := by decide +kernel
theorem dL_times_338 : decode cL_times 338 = .ok (.aload_n 0, 1) := by decide +kernel
theorem dL_times_339 : decode cL_times 339 = .ok (.iconst 5, 1) := by decide +kernel
theorem dL_times_340 : decode cL_times 340 = .ok (.invokevirtual 44, 3) := by decide +kernel
theorem dL_times_343 : decode cL_times 343 = .ok (.iload 4, 2) := by decide +kernel
theorem dL_times_345 : decode cL_times 345 = .ok (.if_icmp .ne 38, 3) := by decide +kernel
theorem dL_times_348 : decode cL_times 348 = .ok (.aload_n 0, 1) := by decide +kernel
theorem dL_times_349 : decode cL_times 349 = .ok (.bipush 12, 2) := by decide +kernel
theorem dL_times_351 : decode cL_times 351 = .ok (.invokevirtual 44, 3) := by decide +kernel
theorem dL_times_354 : decode cL_times 354 = .ok (.aload_n 0, 1) := by decide +kernel
theorem dL_times_355 : decode cL_times 355 = .ok (.bipush 13, 2) := by decide +kernel
theorem dL_times_357 : decode cL_times 357 = .ok (.invokevirtual 44, 3) := by decide +kernel
theorem dL_times_360 : decode cL_times 360 = .ok (.iadd, 1) := by decide +kernel
theorem dL_times_361 : decode cL_times 361 = .ok (.aload_n 0, 1) := by decide +kernel
theorem dL_times_362 : decode cL_times 362 = .ok (.bipush 14, 2) := by decide +kernel
theorem dL_times_364 : decode cL_times 364 = .ok (.invokevirtual 44, 3) := by decide +kernel
theorem dL_times_367 : decode cL_times 367 = .ok (.iadd, 1) := by decide +kernel
theorem dL_times_368 : decode cL_times 368 = .ok (.aload_n 0, 1) := by decide +kernel
theorem dL_times_369 : decode cL_times 369 = .ok (.bipush 15, 2) := by decide +kernel
theorem dL_times_371 : decode cL_times 371 = .ok (.invokevirtual 44, 3) := by decide +kernel
theorem dL_times_374 : decode cL_times 374 = .ok (.iadd, 1) := by decide +kernel
theorem dL_times_375 : decode cL_times 375 = .ok (.iload_n 1, 1) := by decide +kernel
theorem dL_times_376 : decode cL_times 376 = .ok (.if_icmp .ne 7, 3) := by decide +kernel
theorem dL_times_379 : decode cL_times 379 = .ok (.iconst 1, 1) := by decide +kernel
theorem dL_times_380 : decode cL_times 380 = .ok (.goto 4, 3) := by decide +kernel
theorem dL_times_383 : decode cL_times 383 = .ok (.iconst 0, 1) := by decide +kernel
theorem dL_times_384 : decode cL_times 384 = .ok (.ireturn, 1) := by decide +kernel
theorem okL_times : CalOK yL_times cL_times 13 (some .boolean) 2 := ⟨wd_15, wd_403, by decide +kernel⟩
theorem osL_times : Cond.static yL_times ∈ lw_gd := wd_402
def FL_times_287 (k10 : Int32 → Int32 → Int32 → Int32 → Int32 → Mem → Option (Int32 × Mem)) (l1 : Int32) (l2 : Int32) (l4 : Int32) (l5 : Int32) (l10 : Int32) (s0 : Int32) (s1 : Int32) (M : Mem) : Option (Int32 × Mem) :=
  lt1 (s1 ||| s0) fun x83 =>
  if l10 ≤ l4 then
    lt1 (l5 + (1 : Int32)) fun x86 =>
    k10 l1 l2 x83 l4 x86 M
  else
    lt1 (l5 + (1 : Int32)) fun x88 =>
    k10 l1 l2 x83 l10 x88 M
set_option maxRecDepth 100000 in
set_option maxHeartbeats 4000000 in
theorem wL_times_287 {E : WE} {V : VT} {A : Nat → Prop} {H0 : Heap} (Cx : CX E RL cL_times 13 7 173) {r : Int32} {M' : Mem} (hret : RetI E V A H0 cL_times .boolean r M') {k10 : Int32 → Int32 → Int32 → Int32 → Int32 → Mem → Option (Int32 × Mem)} (hk10 : ∀ {H : Heap} {locs : List Loc} {ls : Array Slot} {M : Mem} {l1 : Int32} {l2 : Int32} {l3 : Int32} {l4 : Int32} {l5 : Int32}, Wd V A H0 M (eS E) H locs → lv_has ls 13 [(0, .ref (vA V 11 0)), (1, .int l1), (2, .int l2), (3, .int l3), (4, .int l4), (5, .int l5)] → k10 l1 l2 l3 l4 l5 M = some (r, M') → Wq E H locs 10 ls []) {H : Heap} {locs : List Loc} {ls : Array Slot} {l1 : Int32} {l2 : Int32} {l4 : Int32} {l5 : Int32} {l10 : Int32} {s0 : Int32} {s1 : Int32} {M : Mem} (hW : Wd V A H0 M (eS E) H locs) (hl : lv_has ls 13 [(0, .ref (vA V 11 0)), (1, .int l1), (2, .int l2), (4, .int l4), (5, .int l5), (10, .int l10)]) (hF : FL_times_287 k10 l1 l2 l4 l5 l10 s0 s1 M = some (r, M')) : Wq E H locs 287 ls [.int s0, .int s1] := by
  unfold FL_times_287 at hF
  refine q_ior Cx dL_times_287 ?_
  obtain ⟨x83, e84, hF⟩ := lt1_some hF
  refine q_topi e84 ?_
  refine q_istore_n (lv' := [(3, .int x83), (0, .ref (vA V 11 0)), (1, .int l1), (2, .int l2), (4, .int l4), (5, .int l5), (10, .int l10)]) Cx dL_times_288 rfl hl (by decide) rfl (fun ls hl => ?_)
  refine q_iload Cx dL_times_289 (lv_at hl 6 rfl) ?_
  refine q_iload Cx dL_times_291 (lv_at hl 4 rfl) ?_
  refine q_icmp_le (tgt := 301) Cx dL_times_293 (by decide) (fun c85 => ?_) (fun c85 => ?_)
  · have hF := (if_pos c85).symm.trans hF
    refine q_iload Cx dL_times_301 (lv_at hl 4 rfl) ?_
    refine q_istore (lv' := [(4, .int l4), (3, .int x83), (0, .ref (vA V 11 0)), (1, .int l1), (2, .int l2), (5, .int l5), (10, .int l10)]) Cx dL_times_303 hl (by decide) rfl (fun ls hl => ?_)
    obtain ⟨x86, e87, hF⟩ := lt1_some hF
    refine q_iinc (k := 5) (v := x86) (lv' := [(5, .int x86), (4, .int l4), (3, .int x83), (0, .ref (vA V 11 0)), (1, .int l1), (2, .int l2), (10, .int l10)]) Cx dL_times_305 hl rfl e87.symm (by decide) rfl (fun ls hl => ?_)
    refine q_goto (tgt := 10) Cx dL_times_308 (by decide) ?_
    exact hk10 hW (lv_sub hl [3, 4, 5, 2, 1, 0] rfl) hF
  · have hF := (if_neg c85).symm.trans hF
    refine q_iload Cx dL_times_296 (lv_at hl 6 rfl) ?_
    refine q_goto (tgt := 303) Cx dL_times_298 (by decide) ?_
    refine q_istore (lv' := [(4, .int l10), (3, .int x83), (0, .ref (vA V 11 0)), (1, .int l1), (2, .int l2), (5, .int l5), (10, .int l10)]) Cx dL_times_303 hl (by decide) rfl (fun ls hl => ?_)
    obtain ⟨x88, e89, hF⟩ := lt1_some hF
    refine q_iinc (k := 5) (v := x88) (lv' := [(5, .int x88), (4, .int l10), (3, .int x83), (0, .ref (vA V 11 0)), (1, .int l1), (2, .int l2), (10, .int l10)]) Cx dL_times_305 hl rfl e89.symm (by decide) rfl (fun ls hl => ?_)
    refine q_goto (tgt := 10) Cx dL_times_308 (by decide) ?_
    exact hk10 hW (lv_sub hl [3, 4, 5, 2, 1, 0] rfl) hF
def FL_times_260 (k10 : Int32 → Int32 → Int32 → Int32 → Int32 → Mem → Option (Int32 × Mem)) (l1 : Int32) (l2 : Int32) (l3 : Int32) (l4 : Int32) (l5 : Int32) (l10 : Int32) (l11 : Int64) (M : Mem) : Option (Int32 × Mem) :=
  c2 (FX5_ofTask M l5 (6 : Int32)) fun r77 M79 =>
  lt1 (l2 + r77) fun x80 =>
  if (lg_cmp l11 (0 : Int64)) ≤ 0 then
    FL_times_287 k10 l1 x80 l4 l5 l10 (0 : Int32) l3 M79
  else
    FL_times_287 k10 l1 x80 l4 l5 l10 ((1 : Int32) <<< (l5 &&& 31)) l3 M79
set_option maxRecDepth 100000 in
set_option maxHeartbeats 4000000 in
theorem wL_times_260 {E : WE} {V : VT} {A : Nat → Prop} {H0 : Heap} (Cx : CX E RL cL_times 13 7 173) {r : Int32} {M' : Mem} (hret : RetI E V A H0 cL_times .boolean r M') {k10 : Int32 → Int32 → Int32 → Int32 → Int32 → Mem → Option (Int32 × Mem)} (hk10 : ∀ {H : Heap} {locs : List Loc} {ls : Array Slot} {M : Mem} {l1 : Int32} {l2 : Int32} {l3 : Int32} {l4 : Int32} {l5 : Int32}, Wd V A H0 M (eS E) H locs → lv_has ls 13 [(0, .ref (vA V 11 0)), (1, .int l1), (2, .int l2), (3, .int l3), (4, .int l4), (5, .int l5)] → k10 l1 l2 l3 l4 l5 M = some (r, M') → Wq E H locs 10 ls []) {H : Heap} {locs : List Loc} {ls : Array Slot} {l1 : Int32} {l2 : Int32} {l3 : Int32} {l4 : Int32} {l5 : Int32} {l10 : Int32} {l11 : Int64} {M : Mem} (hW : Wd V A H0 M (eS E) H locs) (hl : lv_has ls 13 [(0, .ref (vA V 11 0)), (1, .int l1), (2, .int l2), (3, .int l3), (4, .int l4), (5, .int l5), (10, .int l10), (11, .long l11)]) (hF : FL_times_260 k10 l1 l2 l3 l4 l5 l10 l11 M = some (r, M')) : Wq E H locs 260 ls [] := by
  unfold FL_times_260 at hF
  refine q_iload_n Cx dL_times_260 rfl (lv_at hl 2 rfl) ?_
  refine q_aload_n Cx dL_times_261 rfl (lv_at hl 0 rfl) ?_
  refine q_iload Cx dL_times_262 (lv_at hl 5 rfl) ?_
  refine q_bipush (v := (6 : Int32)) Cx dL_times_264 (by decide) ?_
  obtain ⟨r77, M79, e78, hF⟩ := c2_some hF
  refine q_callI (as := [.int l5, .int (6 : Int32)]) (rest := [.int l2]) Cx (kX5_ofTask e78) okX5_ofTask ovX5_ofTask wd_273 ⟨rfl, rfl, by decide, by decide⟩ hW oX ic5 rfl hl.1 (Nat.le_of_ble_eq_true rfl) rfl dL_times_266 (fun H locs hW => ?_)
  refine q_iadd Cx dL_times_269 ?_
  obtain ⟨x80, e81, hF⟩ := lt1_some hF
  refine q_topi e81 ?_
  refine q_istore_n (lv' := [(2, .int x80), (0, .ref (vA V 11 0)), (1, .int l1), (3, .int l3), (4, .int l4), (5, .int l5), (10, .int l10), (11, .long l11)]) Cx dL_times_270 rfl hl (by decide) rfl (fun ls hl => ?_)
  refine q_iload_n Cx dL_times_271 rfl (lv_at hl 3 rfl) ?_
  refine q_lload Cx dL_times_272 (lv_at hl 7 rfl) ?_
  refine q_lconst (v := (0 : Int64)) Cx dL_times_274 (by decide) ?_
  refine q_lcmp Cx dL_times_275 ?_
  refine q_if_le (tgt := 286) Cx dL_times_276 (by decide) (fun c82 => ?_) (fun c82 => ?_)
  · have hF := (if_pos c82).symm.trans hF
    refine q_iconst (v := (0 : Int32)) Cx dL_times_286 (by decide) ?_
    exact wL_times_287 Cx hret hk10 hW (lv_sub hl [1, 2, 0, 4, 5, 6] rfl) hF
  · have hF := (if_neg c82).symm.trans hF
    refine q_iconst (v := (1 : Int32)) Cx dL_times_279 (by decide) ?_
    refine q_iload Cx dL_times_280 (lv_at hl 5 rfl) ?_
    refine q_ishl Cx dL_times_282 ?_
    refine q_goto (tgt := 287) Cx dL_times_283 (by decide) ?_
    exact wL_times_287 Cx hret hk10 hW (lv_sub hl [1, 2, 0, 4, 5, 6] rfl) hF
def FL_times_237 (k10 : Int32 → Int32 → Int32 → Int32 → Int32 → Mem → Option (Int32 × Mem)) (l1 : Int32) (l2 : Int32) (l3 : Int32) (l4 : Int32) (l5 : Int32) (l7 : Int32) (l10 : Int32) (l11 : Int64) (M : Mem) : Option (Int32 × Mem) :=
  if l7 < 0 then
    FL_times_260 k10 l1 l2 l3 l4 l5 l10 l11 M
  else
    c2 (FX5_ofTask M l7 (13 : Int32)) fun r90 M92 =>
    if ((r90 >>> (l5 &&& 31)) &&& (1 : Int32)) = 0 then
      some ((0 : Int32), M92)
    else
      FL_times_260 k10 l1 l2 l3 l4 l5 l10 l11 M92
set_option maxRecDepth 100000 in
set_option maxHeartbeats 4000000 in
theorem wL_times_237 {E : WE} {V : VT} {A : Nat → Prop} {H0 : Heap} (Cx : CX E RL cL_times 13 7 173) {r : Int32} {M' : Mem} (hret : RetI E V A H0 cL_times .boolean r M') {k10 : Int32 → Int32 → Int32 → Int32 → Int32 → Mem → Option (Int32 × Mem)} (hk10 : ∀ {H : Heap} {locs : List Loc} {ls : Array Slot} {M : Mem} {l1 : Int32} {l2 : Int32} {l3 : Int32} {l4 : Int32} {l5 : Int32}, Wd V A H0 M (eS E) H locs → lv_has ls 13 [(0, .ref (vA V 11 0)), (1, .int l1), (2, .int l2), (3, .int l3), (4, .int l4), (5, .int l5)] → k10 l1 l2 l3 l4 l5 M = some (r, M') → Wq E H locs 10 ls []) {H : Heap} {locs : List Loc} {ls : Array Slot} {l1 : Int32} {l2 : Int32} {l3 : Int32} {l4 : Int32} {l5 : Int32} {l7 : Int32} {l10 : Int32} {l11 : Int64} {M : Mem} (hW : Wd V A H0 M (eS E) H locs) (hl : lv_has ls 13 [(0, .ref (vA V 11 0)), (1, .int l1), (2, .int l2), (3, .int l3), (4, .int l4), (5, .int l5), (7, .int l7), (10, .int l10), (11, .long l11)]) (hF : FL_times_237 k10 l1 l2 l3 l4 l5 l7 l10 l11 M = some (r, M')) : Wq E H locs 237 ls [] := by
  unfold FL_times_237 at hF
  refine q_iload Cx dL_times_237 (lv_at hl 6 rfl) ?_
  refine q_if_lt (tgt := 260) Cx dL_times_239 (by decide) (fun c76 => ?_) (fun c76 => ?_)
  · have hF := (if_pos c76).symm.trans hF
    exact wL_times_260 Cx hret hk10 hW (lv_sub hl [0, 1, 2, 3, 4, 5, 7, 8] rfl) hF
  · have hF := (if_neg c76).symm.trans hF
    refine q_aload_n Cx dL_times_242 rfl (lv_at hl 0 rfl) ?_
    refine q_iload Cx dL_times_243 (lv_at hl 6 rfl) ?_
    refine q_bipush (v := (13 : Int32)) Cx dL_times_245 (by decide) ?_
    obtain ⟨r90, M92, e91, hF⟩ := c2_some hF
    refine q_callI (as := [.int l7, .int (13 : Int32)]) (rest := []) Cx (kX5_ofTask e91) okX5_ofTask ovX5_ofTask wd_273 ⟨rfl, rfl, by decide, by decide⟩ hW oX ic5 rfl hl.1 (Nat.le_of_ble_eq_true rfl) rfl dL_times_247 (fun H locs hW => ?_)
    refine q_iload Cx dL_times_250 (lv_at hl 5 rfl) ?_
    refine q_ishr Cx dL_times_252 ?_
    refine q_iconst (v := (1 : Int32)) Cx dL_times_253 (by decide) ?_
    refine q_iand Cx dL_times_254 ?_
    refine q_if_ne (tgt := 260) Cx dL_times_255 (by decide) (fun c93 => ?_) (fun c93 => ?_)
    · have hF := (if_neg c93).symm.trans hF
      exact wL_times_260 Cx hret hk10 hW (lv_sub hl [0, 1, 2, 3, 4, 5, 7, 8] rfl) hF
    · have hF := (if_pos c93).symm.trans hF
      refine q_iconst (v := (0 : Int32)) Cx dL_times_258 (by decide) ?_
      obtain ⟨rfl, rfl⟩ := Prod.mk.inj (Option.some.inj hF)
      exact hret _ _ _ _ dL_times_259 (by rfl) hW
def FL_times_187 (k10 : Int32 → Int32 → Int32 → Int32 → Int32 → Mem → Option (Int32 × Mem)) (l1 : Int32) (l2 : Int32) (l3 : Int32) (l4 : Int32) (l5 : Int32) (l6 : Int32) (l7 : Int32) (l10 : Int32) (l11 : Int64) (s0 : Int64) (s1 : Int64) (M : Mem) : Option (Int32 × Mem) :=
  if (lg_cmp s1 s0) = 0 then
    c2 (FX5_ofTask M l5 (0 : Int32)) fun r66 M68 =>
    c2 (FX5_ofTask M68 l5 (3 : Int32)) fun r69 M71 =>
    c1 (FX5_at M71 r66 r69) fun r72 =>
    if r72 = l5 then
      if l6 < 0 then
        FL_times_237 k10 l1 l2 l3 l4 l5 l7 l10 l11 M71
      else
        c2 (FX5_ofTask M71 l6 (13 : Int32)) fun r94 M96 =>
        if ((r94 >>> (l5 &&& 31)) &&& (1 : Int32)) = 0 then
          some ((0 : Int32), M96)
        else
          FL_times_237 k10 l1 l2 l3 l4 l5 l7 l10 l11 M96
    else
      some ((0 : Int32), M71)
  else
    some ((0 : Int32), M)
set_option maxRecDepth 100000 in
set_option maxHeartbeats 4000000 in
theorem wL_times_187 {E : WE} {V : VT} {A : Nat → Prop} {H0 : Heap} (Cx : CX E RL cL_times 13 7 173) {r : Int32} {M' : Mem} (hret : RetI E V A H0 cL_times .boolean r M') {k10 : Int32 → Int32 → Int32 → Int32 → Int32 → Mem → Option (Int32 × Mem)} (hk10 : ∀ {H : Heap} {locs : List Loc} {ls : Array Slot} {M : Mem} {l1 : Int32} {l2 : Int32} {l3 : Int32} {l4 : Int32} {l5 : Int32}, Wd V A H0 M (eS E) H locs → lv_has ls 13 [(0, .ref (vA V 11 0)), (1, .int l1), (2, .int l2), (3, .int l3), (4, .int l4), (5, .int l5)] → k10 l1 l2 l3 l4 l5 M = some (r, M') → Wq E H locs 10 ls []) {H : Heap} {locs : List Loc} {ls : Array Slot} {l1 : Int32} {l2 : Int32} {l3 : Int32} {l4 : Int32} {l5 : Int32} {l6 : Int32} {l7 : Int32} {l10 : Int32} {l11 : Int64} {s0 : Int64} {s1 : Int64} {M : Mem} (hW : Wd V A H0 M (eS E) H locs) (hl : lv_has ls 13 [(0, .ref (vA V 11 0)), (1, .int l1), (2, .int l2), (3, .int l3), (4, .int l4), (5, .int l5), (6, .int l6), (7, .int l7), (10, .int l10), (11, .long l11)]) (hF : FL_times_187 k10 l1 l2 l3 l4 l5 l6 l7 l10 l11 s0 s1 M = some (r, M')) : Wq E H locs 187 ls [.long s0, .long s1] := by
  unfold FL_times_187 at hF
  refine q_lcmp Cx dL_times_187 ?_
  refine q_if_eq (tgt := 193) Cx dL_times_188 (by decide) (fun c65 => ?_) (fun c65 => ?_)
  · have hF := (if_pos c65).symm.trans hF
    refine q_aload_n Cx dL_times_193 rfl (lv_at hl 0 rfl) ?_
    refine q_aload_n Cx dL_times_194 rfl (lv_at hl 0 rfl) ?_
    refine q_iload Cx dL_times_195 (lv_at hl 5 rfl) ?_
    refine q_iconst (v := (0 : Int32)) Cx dL_times_197 (by decide) ?_
    obtain ⟨r66, M68, e67, hF⟩ := c2_some hF
    refine q_callI (as := [.int l5, .int (0 : Int32)]) (rest := [.ref (vA V 11 0)]) Cx (kX5_ofTask e67) okX5_ofTask ovX5_ofTask wd_273 ⟨rfl, rfl, by decide, by decide⟩ hW oX ic5 rfl hl.1 (Nat.le_of_ble_eq_true rfl) rfl dL_times_198 (fun H locs hW => ?_)
    refine q_aload_n Cx dL_times_201 rfl (lv_at hl 0 rfl) ?_
    refine q_iload Cx dL_times_202 (lv_at hl 5 rfl) ?_
    refine q_iconst (v := (3 : Int32)) Cx dL_times_204 (by decide) ?_
    obtain ⟨r69, M71, e70, hF⟩ := c2_some hF
    refine q_callI (as := [.int l5, .int (3 : Int32)]) (rest := [.int r66, .ref (vA V 11 0)]) Cx (kX5_ofTask e70) okX5_ofTask ovX5_ofTask wd_273 ⟨rfl, rfl, by decide, by decide⟩ hW oX ic5 rfl hl.1 (Nat.le_of_ble_eq_true rfl) rfl dL_times_205 (fun H locs hW => ?_)
    obtain ⟨r72, e73, hF⟩ := c1_some hF
    refine q_callI (as := [.int r66, .int r69]) (rest := []) Cx (kX5_at e73) okX5_at ovX5_at wd_407 ⟨rfl, rfl, by decide, by decide⟩ hW oX ic5 rfl hl.1 (Nat.le_of_ble_eq_true rfl) rfl dL_times_208 (fun H locs hW => ?_)
    refine q_iload Cx dL_times_211 (lv_at hl 5 rfl) ?_
    refine q_icmp_ne (tgt := 258) Cx dL_times_213 (by decide) (fun c74 => ?_) (fun c74 => ?_)
    · have hF := (if_neg c74).symm.trans hF
      refine q_iconst (v := (0 : Int32)) Cx dL_times_258 (by decide) ?_
      obtain ⟨rfl, rfl⟩ := Prod.mk.inj (Option.some.inj hF)
      exact hret _ _ _ _ dL_times_259 (by rfl) hW
    · have hF := (if_pos c74).symm.trans hF
      refine q_iload Cx dL_times_216 (lv_at hl 6 rfl) ?_
      refine q_if_lt (tgt := 237) Cx dL_times_218 (by decide) (fun c75 => ?_) (fun c75 => ?_)
      · have hF := (if_pos c75).symm.trans hF
        exact wL_times_237 Cx hret hk10 hW (lv_sub hl [0, 1, 2, 3, 4, 5, 7, 8, 9] rfl) hF
      · have hF := (if_neg c75).symm.trans hF
        refine q_aload_n Cx dL_times_221 rfl (lv_at hl 0 rfl) ?_
        refine q_iload Cx dL_times_222 (lv_at hl 6 rfl) ?_
        refine q_bipush (v := (13 : Int32)) Cx dL_times_224 (by decide) ?_
        obtain ⟨r94, M96, e95, hF⟩ := c2_some hF
        refine q_callI (as := [.int l6, .int (13 : Int32)]) (rest := []) Cx (kX5_ofTask e95) okX5_ofTask ovX5_ofTask wd_273 ⟨rfl, rfl, by decide, by decide⟩ hW oX ic5 rfl hl.1 (Nat.le_of_ble_eq_true rfl) rfl dL_times_226 (fun H locs hW => ?_)
        refine q_iload Cx dL_times_229 (lv_at hl 5 rfl) ?_
        refine q_ishr Cx dL_times_231 ?_
        refine q_iconst (v := (1 : Int32)) Cx dL_times_232 (by decide) ?_
        refine q_iand Cx dL_times_233 ?_
        refine q_if_eq (tgt := 258) Cx dL_times_234 (by decide) (fun c97 => ?_) (fun c97 => ?_)
        · have hF := (if_pos c97).symm.trans hF
          refine q_iconst (v := (0 : Int32)) Cx dL_times_258 (by decide) ?_
          obtain ⟨rfl, rfl⟩ := Prod.mk.inj (Option.some.inj hF)
          exact hret _ _ _ _ dL_times_259 (by rfl) hW
        · have hF := (if_neg c97).symm.trans hF
          exact wL_times_237 Cx hret hk10 hW (lv_sub hl [0, 1, 2, 3, 4, 5, 7, 8, 9] rfl) hF
  · have hF := (if_neg c65).symm.trans hF
    refine q_iconst (v := (0 : Int32)) Cx dL_times_191 (by decide) ?_
    obtain ⟨rfl, rfl⟩ := Prod.mk.inj (Option.some.inj hF)
    exact hret _ _ _ _ dL_times_192 (by rfl) hW
def FL_times_160 (k10 : Int32 → Int32 → Int32 → Int32 → Int32 → Mem → Option (Int32 × Mem)) (l1 : Int32) (l2 : Int32) (l3 : Int32) (l4 : Int32) (l5 : Int32) (l6 : Int32) (l7 : Int32) (l10 : Int32) (l11 : Int64) (s0 : Int64) (s1 : Int64) (M : Mem) : Option (Int32 × Mem) :=
  if (lg_cmp s1 s0) = 0 then
    c2 (FX5_ofTask M l5 (7 : Int32)) fun r61 M63 =>
    if 0 ≤ (lg_cmp l11 (0 : Int64)) then
      FL_times_187 k10 l1 l2 l3 l4 l5 l6 l7 l10 l11 (0 : Int64) r61.toInt64 M63
    else
      FL_times_187 k10 l1 l2 l3 l4 l5 l6 l7 l10 l11 (-l11) r61.toInt64 M63
  else
    some ((0 : Int32), M)
set_option maxRecDepth 100000 in
set_option maxHeartbeats 4000000 in
theorem wL_times_160 {E : WE} {V : VT} {A : Nat → Prop} {H0 : Heap} (Cx : CX E RL cL_times 13 7 173) {r : Int32} {M' : Mem} (hret : RetI E V A H0 cL_times .boolean r M') {k10 : Int32 → Int32 → Int32 → Int32 → Int32 → Mem → Option (Int32 × Mem)} (hk10 : ∀ {H : Heap} {locs : List Loc} {ls : Array Slot} {M : Mem} {l1 : Int32} {l2 : Int32} {l3 : Int32} {l4 : Int32} {l5 : Int32}, Wd V A H0 M (eS E) H locs → lv_has ls 13 [(0, .ref (vA V 11 0)), (1, .int l1), (2, .int l2), (3, .int l3), (4, .int l4), (5, .int l5)] → k10 l1 l2 l3 l4 l5 M = some (r, M') → Wq E H locs 10 ls []) {H : Heap} {locs : List Loc} {ls : Array Slot} {l1 : Int32} {l2 : Int32} {l3 : Int32} {l4 : Int32} {l5 : Int32} {l6 : Int32} {l7 : Int32} {l10 : Int32} {l11 : Int64} {s0 : Int64} {s1 : Int64} {M : Mem} (hW : Wd V A H0 M (eS E) H locs) (hl : lv_has ls 13 [(0, .ref (vA V 11 0)), (1, .int l1), (2, .int l2), (3, .int l3), (4, .int l4), (5, .int l5), (6, .int l6), (7, .int l7), (10, .int l10), (11, .long l11)]) (hF : FL_times_160 k10 l1 l2 l3 l4 l5 l6 l7 l10 l11 s0 s1 M = some (r, M')) : Wq E H locs 160 ls [.long s0, .long s1] := by
  unfold FL_times_160 at hF
  refine q_lcmp Cx dL_times_160 ?_
  refine q_if_ne (tgt := 191) Cx dL_times_161 (by decide) (fun c60 => ?_) (fun c60 => ?_)
  · have hF := (if_neg c60).symm.trans hF
    refine q_iconst (v := (0 : Int32)) Cx dL_times_191 (by decide) ?_
    obtain ⟨rfl, rfl⟩ := Prod.mk.inj (Option.some.inj hF)
    exact hret _ _ _ _ dL_times_192 (by rfl) hW
  · have hF := (if_pos c60).symm.trans hF
    refine q_aload_n Cx dL_times_164 rfl (lv_at hl 0 rfl) ?_
    refine q_iload Cx dL_times_165 (lv_at hl 5 rfl) ?_
    refine q_bipush (v := (7 : Int32)) Cx dL_times_167 (by decide) ?_
    obtain ⟨r61, M63, e62, hF⟩ := c2_some hF
    refine q_callI (as := [.int l5, .int (7 : Int32)]) (rest := []) Cx (kX5_ofTask e62) okX5_ofTask ovX5_ofTask wd_273 ⟨rfl, rfl, by decide, by decide⟩ hW oX ic5 rfl hl.1 (Nat.le_of_ble_eq_true rfl) rfl dL_times_169 (fun H locs hW => ?_)
    refine q_i2l Cx dL_times_172 ?_
    refine q_lload Cx dL_times_173 (lv_at hl 9 rfl) ?_
    refine q_lconst (v := (0 : Int64)) Cx dL_times_175 (by decide) ?_
    refine q_lcmp Cx dL_times_176 ?_
    refine q_if_ge (tgt := 186) Cx dL_times_177 (by decide) (fun c64 => ?_) (fun c64 => ?_)
    · have hF := (if_pos c64).symm.trans hF
      refine q_lconst (v := (0 : Int64)) Cx dL_times_186 (by decide) ?_
      exact wL_times_187 Cx hret hk10 hW (lv_sub hl [0, 1, 2, 3, 4, 5, 6, 7, 8, 9] rfl) hF
    · have hF := (if_neg c64).symm.trans hF
      refine q_lload Cx dL_times_180 (lv_at hl 9 rfl) ?_
      refine q_lneg Cx dL_times_182 ?_
      refine q_goto (tgt := 187) Cx dL_times_183 (by decide) ?_
      exact wL_times_187 Cx hret hk10 hW (lv_sub hl [0, 1, 2, 3, 4, 5, 6, 7, 8, 9] rfl) hF
def FL_times_115 (k10 : Int32 → Int32 → Int32 → Int32 → Int32 → Mem → Option (Int32 × Mem)) (l1 : Int32) (l2 : Int32) (l3 : Int32) (l4 : Int32) (l5 : Int32) (l6 : Int32) (l7 : Int32) (l10 : Int32) (l11 : Int64) (s0 : Int32) (s1 : Int32) (M : Mem) : Option (Int32 × Mem) :=
  if s1 = s0 then
    c2 (FX5_ofTask M l5 (4 : Int32)) fun r49 M51 =>
    c2 (FX5_ofTask M51 l5 (1 : Int32)) fun r52 M54 =>
    if l10 = (r49 + r52) then
      c2 (FX5_ofTask M54 l5 (6 : Int32)) fun r56 M58 =>
      if (lg_cmp l11 (0 : Int64)) ≤ 0 then
        FL_times_160 k10 l1 l2 l3 l4 l5 l6 l7 l10 l11 (0 : Int64) r56.toInt64 M58
      else
        FL_times_160 k10 l1 l2 l3 l4 l5 l6 l7 l10 l11 l11 r56.toInt64 M58
    else
      some ((0 : Int32), M54)
  else
    some ((0 : Int32), M)
set_option maxRecDepth 100000 in
set_option maxHeartbeats 4000000 in
theorem wL_times_115 {E : WE} {V : VT} {A : Nat → Prop} {H0 : Heap} (Cx : CX E RL cL_times 13 7 173) {r : Int32} {M' : Mem} (hret : RetI E V A H0 cL_times .boolean r M') {k10 : Int32 → Int32 → Int32 → Int32 → Int32 → Mem → Option (Int32 × Mem)} (hk10 : ∀ {H : Heap} {locs : List Loc} {ls : Array Slot} {M : Mem} {l1 : Int32} {l2 : Int32} {l3 : Int32} {l4 : Int32} {l5 : Int32}, Wd V A H0 M (eS E) H locs → lv_has ls 13 [(0, .ref (vA V 11 0)), (1, .int l1), (2, .int l2), (3, .int l3), (4, .int l4), (5, .int l5)] → k10 l1 l2 l3 l4 l5 M = some (r, M') → Wq E H locs 10 ls []) {H : Heap} {locs : List Loc} {ls : Array Slot} {l1 : Int32} {l2 : Int32} {l3 : Int32} {l4 : Int32} {l5 : Int32} {l6 : Int32} {l7 : Int32} {l10 : Int32} {l11 : Int64} {s0 : Int32} {s1 : Int32} {M : Mem} (hW : Wd V A H0 M (eS E) H locs) (hl : lv_has ls 13 [(0, .ref (vA V 11 0)), (1, .int l1), (2, .int l2), (3, .int l3), (4, .int l4), (5, .int l5), (6, .int l6), (7, .int l7), (10, .int l10), (11, .long l11)]) (hF : FL_times_115 k10 l1 l2 l3 l4 l5 l6 l7 l10 l11 s0 s1 M = some (r, M')) : Wq E H locs 115 ls [.int s0, .int s1] := by
  unfold FL_times_115 at hF
  refine q_icmp_ne (tgt := 191) Cx dL_times_115 (by decide) (fun c48 => ?_) (fun c48 => ?_)
  · have hF := (if_neg c48).symm.trans hF
    refine q_iconst (v := (0 : Int32)) Cx dL_times_191 (by decide) ?_
    obtain ⟨rfl, rfl⟩ := Prod.mk.inj (Option.some.inj hF)
    exact hret _ _ _ _ dL_times_192 (by rfl) hW
  · have hF := (if_pos c48).symm.trans hF
    refine q_iload Cx dL_times_118 (lv_at hl 8 rfl) ?_
    refine q_aload_n Cx dL_times_120 rfl (lv_at hl 0 rfl) ?_
    refine q_iload Cx dL_times_121 (lv_at hl 5 rfl) ?_
    refine q_iconst (v := (4 : Int32)) Cx dL_times_123 (by decide) ?_
    obtain ⟨r49, M51, e50, hF⟩ := c2_some hF
    refine q_callI (as := [.int l5, .int (4 : Int32)]) (rest := [.int l10]) Cx (kX5_ofTask e50) okX5_ofTask ovX5_ofTask wd_273 ⟨rfl, rfl, by decide, by decide⟩ hW oX ic5 rfl hl.1 (Nat.le_of_ble_eq_true rfl) rfl dL_times_124 (fun H locs hW => ?_)
    refine q_aload_n Cx dL_times_127 rfl (lv_at hl 0 rfl) ?_
    refine q_iload Cx dL_times_128 (lv_at hl 5 rfl) ?_
    refine q_iconst (v := (1 : Int32)) Cx dL_times_130 (by decide) ?_
    obtain ⟨r52, M54, e53, hF⟩ := c2_some hF
    refine q_callI (as := [.int l5, .int (1 : Int32)]) (rest := [.int r49, .int l10]) Cx (kX5_ofTask e53) okX5_ofTask ovX5_ofTask wd_273 ⟨rfl, rfl, by decide, by decide⟩ hW oX ic5 rfl hl.1 (Nat.le_of_ble_eq_true rfl) rfl dL_times_131 (fun H locs hW => ?_)
    refine q_iadd Cx dL_times_134 ?_
    refine q_icmp_ne (tgt := 191) Cx dL_times_135 (by decide) (fun c55 => ?_) (fun c55 => ?_)
    · have hF := (if_neg c55).symm.trans hF
      refine q_iconst (v := (0 : Int32)) Cx dL_times_191 (by decide) ?_
      obtain ⟨rfl, rfl⟩ := Prod.mk.inj (Option.some.inj hF)
      exact hret _ _ _ _ dL_times_192 (by rfl) hW
    · have hF := (if_pos c55).symm.trans hF
      refine q_aload_n Cx dL_times_138 rfl (lv_at hl 0 rfl) ?_
      refine q_iload Cx dL_times_139 (lv_at hl 5 rfl) ?_
      refine q_bipush (v := (6 : Int32)) Cx dL_times_141 (by decide) ?_
      obtain ⟨r56, M58, e57, hF⟩ := c2_some hF
      refine q_callI (as := [.int l5, .int (6 : Int32)]) (rest := []) Cx (kX5_ofTask e57) okX5_ofTask ovX5_ofTask wd_273 ⟨rfl, rfl, by decide, by decide⟩ hW oX ic5 rfl hl.1 (Nat.le_of_ble_eq_true rfl) rfl dL_times_143 (fun H locs hW => ?_)
      refine q_i2l Cx dL_times_146 ?_
      refine q_lload Cx dL_times_147 (lv_at hl 9 rfl) ?_
      refine q_lconst (v := (0 : Int64)) Cx dL_times_149 (by decide) ?_
      refine q_lcmp Cx dL_times_150 ?_
      refine q_if_le (tgt := 159) Cx dL_times_151 (by decide) (fun c59 => ?_) (fun c59 => ?_)
      · have hF := (if_pos c59).symm.trans hF
        refine q_lconst (v := (0 : Int64)) Cx dL_times_159 (by decide) ?_
        exact wL_times_160 Cx hret hk10 hW (lv_sub hl [0, 1, 2, 3, 4, 5, 6, 7, 8, 9] rfl) hF
      · have hF := (if_neg c59).symm.trans hF
        refine q_lload Cx dL_times_154 (lv_at hl 9 rfl) ?_
        refine q_goto (tgt := 160) Cx dL_times_156 (by decide) ?_
        exact wL_times_160 Cx hret hk10 hW (lv_sub hl [0, 1, 2, 3, 4, 5, 6, 7, 8, 9] rfl) hF
def FL_times_71 (k10 : Int32 → Int32 → Int32 → Int32 → Int32 → Mem → Option (Int32 × Mem)) (l1 : Int32) (l2 : Int32) (l3 : Int32) (l4 : Int32) (l5 : Int32) (l6 : Int32) (l7 : Int32) (l8 : Int32) (s0 : Int32) (M : Mem) : Option (Int32 × Mem) :=
  c2 (FX5_ofTask M l5 (5 : Int32)) fun r37 M39 =>
  c1 (FX5_due M39 l5) fun r40 =>
  lt1 (r37.toInt64 - r40) fun x42 =>
  c2 (FX5_ofTask M39 l5 (4 : Int32)) fun r44 M46 =>
  if l8 ≤ s0 then
    FL_times_115 k10 l1 l2 l3 l4 l5 l6 l7 r37 x42 s0 r44 M46
  else
    FL_times_115 k10 l1 l2 l3 l4 l5 l6 l7 r37 x42 l8 r44 M46
set_option maxRecDepth 100000 in
set_option maxHeartbeats 4000000 in
theorem wL_times_71 {E : WE} {V : VT} {A : Nat → Prop} {H0 : Heap} (Cx : CX E RL cL_times 13 7 173) {r : Int32} {M' : Mem} (hret : RetI E V A H0 cL_times .boolean r M') {k10 : Int32 → Int32 → Int32 → Int32 → Int32 → Mem → Option (Int32 × Mem)} (hk10 : ∀ {H : Heap} {locs : List Loc} {ls : Array Slot} {M : Mem} {l1 : Int32} {l2 : Int32} {l3 : Int32} {l4 : Int32} {l5 : Int32}, Wd V A H0 M (eS E) H locs → lv_has ls 13 [(0, .ref (vA V 11 0)), (1, .int l1), (2, .int l2), (3, .int l3), (4, .int l4), (5, .int l5)] → k10 l1 l2 l3 l4 l5 M = some (r, M') → Wq E H locs 10 ls []) {H : Heap} {locs : List Loc} {ls : Array Slot} {l1 : Int32} {l2 : Int32} {l3 : Int32} {l4 : Int32} {l5 : Int32} {l6 : Int32} {l7 : Int32} {l8 : Int32} {s0 : Int32} {M : Mem} (hW : Wd V A H0 M (eS E) H locs) (hl : lv_has ls 13 [(0, .ref (vA V 11 0)), (1, .int l1), (2, .int l2), (3, .int l3), (4, .int l4), (5, .int l5), (6, .int l6), (7, .int l7), (8, .int l8)]) (hF : FL_times_71 k10 l1 l2 l3 l4 l5 l6 l7 l8 s0 M = some (r, M')) : Wq E H locs 71 ls [.int s0] := by
  unfold FL_times_71 at hF
  refine q_istore (lv' := [(9, .int s0), (0, .ref (vA V 11 0)), (1, .int l1), (2, .int l2), (3, .int l3), (4, .int l4), (5, .int l5), (6, .int l6), (7, .int l7), (8, .int l8)]) Cx dL_times_71 hl (by decide) rfl (fun ls hl => ?_)
  refine q_aload_n Cx dL_times_73 rfl (lv_at hl 1 rfl) ?_
  refine q_iload Cx dL_times_74 (lv_at hl 6 rfl) ?_
  refine q_iconst (v := (5 : Int32)) Cx dL_times_76 (by decide) ?_
  obtain ⟨r37, M39, e38, hF⟩ := c2_some hF
  refine q_callI (as := [.int l5, .int (5 : Int32)]) (rest := []) Cx (kX5_ofTask e38) okX5_ofTask ovX5_ofTask wd_273 ⟨rfl, rfl, by decide, by decide⟩ hW oX ic5 rfl hl.1 (Nat.le_of_ble_eq_true rfl) rfl dL_times_77 (fun H locs hW => ?_)
  refine q_istore (lv' := [(10, .int r37), (9, .int s0), (0, .ref (vA V 11 0)), (1, .int l1), (2, .int l2), (3, .int l3), (4, .int l4), (5, .int l5), (6, .int l6), (7, .int l7), (8, .int l8)]) Cx dL_times_80 hl (by decide) rfl (fun ls hl => ?_)
  refine q_iload Cx dL_times_82 (lv_at hl 0 rfl) ?_
  refine q_i2l Cx dL_times_84 ?_
  refine q_aload_n Cx dL_times_85 rfl (lv_at hl 2 rfl) ?_
  refine q_iload Cx dL_times_86 (lv_at hl 7 rfl) ?_
  obtain ⟨r40, e41, hF⟩ := c1_some hF
  refine q_callL (as := [.int l5]) (rest := [.long r37.toInt64]) Cx (kX5_due e41) okX5_due ovX5_due wd_412 ⟨rfl, rfl, by decide, by decide⟩ hW oX ic5 rfl hl.1 (Nat.le_of_ble_eq_true rfl) rfl dL_times_88 (fun H locs hW => ?_)
  refine q_lsub Cx dL_times_91 ?_
  obtain ⟨x42, e43, hF⟩ := lt1_some hF
  refine q_topl e43 ?_
  refine q_lstore (lv' := [(11, .long x42), (10, .int r37), (9, .int s0), (0, .ref (vA V 11 0)), (1, .int l1), (2, .int l2), (3, .int l3), (4, .int l4), (5, .int l5), (6, .int l6), (7, .int l7), (8, .int l8)]) Cx dL_times_92 hl (by decide) rfl (fun ls hl => ?_)
  refine q_aload_n Cx dL_times_94 rfl (lv_at hl 3 rfl) ?_
  refine q_iload Cx dL_times_95 (lv_at hl 8 rfl) ?_
  refine q_iconst (v := (4 : Int32)) Cx dL_times_97 (by decide) ?_
  obtain ⟨r44, M46, e45, hF⟩ := c2_some hF
  refine q_callI (as := [.int l5, .int (4 : Int32)]) (rest := []) Cx (kX5_ofTask e45) okX5_ofTask ovX5_ofTask wd_273 ⟨rfl, rfl, by decide, by decide⟩ hW oX ic5 rfl hl.1 (Nat.le_of_ble_eq_true rfl) rfl dL_times_98 (fun H locs hW => ?_)
  refine q_iload Cx dL_times_101 (lv_at hl 11 rfl) ?_
  refine q_iload Cx dL_times_103 (lv_at hl 2 rfl) ?_
  refine q_icmp_le (tgt := 113) Cx dL_times_105 (by decide) (fun c47 => ?_) (fun c47 => ?_)
  · have hF := (if_pos c47).symm.trans hF
    refine q_iload Cx dL_times_113 (lv_at hl 2 rfl) ?_
    exact wL_times_115 Cx hret hk10 hW (lv_sub hl [3, 4, 5, 6, 7, 8, 9, 10, 1, 0] rfl) hF
  · have hF := (if_neg c47).symm.trans hF
    refine q_iload Cx dL_times_108 (lv_at hl 11 rfl) ?_
    refine q_goto (tgt := 115) Cx dL_times_110 (by decide) ?_
    exact wL_times_115 Cx hret hk10 hW (lv_sub hl [3, 4, 5, 6, 7, 8, 9, 10, 1, 0] rfl) hF
def FL_times_51 (k10 : Int32 → Int32 → Int32 → Int32 → Int32 → Mem → Option (Int32 × Mem)) (l1 : Int32) (l2 : Int32) (l3 : Int32) (l4 : Int32) (l5 : Int32) (l6 : Int32) (l7 : Int32) (s0 : Int32) (M : Mem) : Option (Int32 × Mem) :=
  if l7 = (-6 : Int32) then
    FL_times_71 k10 l1 l2 l3 l4 l5 l6 l7 s0 (0 : Int32) M
  else
    c2 (FX5_ofTask M l7 (5 : Int32)) fun r34 M36 =>
    FL_times_71 k10 l1 l2 l3 l4 l5 l6 l7 s0 r34 M36
set_option maxRecDepth 100000 in
set_option maxHeartbeats 4000000 in
theorem wL_times_51 {E : WE} {V : VT} {A : Nat → Prop} {H0 : Heap} (Cx : CX E RL cL_times 13 7 173) {r : Int32} {M' : Mem} (hret : RetI E V A H0 cL_times .boolean r M') {k10 : Int32 → Int32 → Int32 → Int32 → Int32 → Mem → Option (Int32 × Mem)} (hk10 : ∀ {H : Heap} {locs : List Loc} {ls : Array Slot} {M : Mem} {l1 : Int32} {l2 : Int32} {l3 : Int32} {l4 : Int32} {l5 : Int32}, Wd V A H0 M (eS E) H locs → lv_has ls 13 [(0, .ref (vA V 11 0)), (1, .int l1), (2, .int l2), (3, .int l3), (4, .int l4), (5, .int l5)] → k10 l1 l2 l3 l4 l5 M = some (r, M') → Wq E H locs 10 ls []) {H : Heap} {locs : List Loc} {ls : Array Slot} {l1 : Int32} {l2 : Int32} {l3 : Int32} {l4 : Int32} {l5 : Int32} {l6 : Int32} {l7 : Int32} {s0 : Int32} {M : Mem} (hW : Wd V A H0 M (eS E) H locs) (hl : lv_has ls 13 [(0, .ref (vA V 11 0)), (1, .int l1), (2, .int l2), (3, .int l3), (4, .int l4), (5, .int l5), (6, .int l6), (7, .int l7)]) (hF : FL_times_51 k10 l1 l2 l3 l4 l5 l6 l7 s0 M = some (r, M')) : Wq E H locs 51 ls [.int s0] := by
  unfold FL_times_51 at hF
  refine q_istore (lv' := [(8, .int s0), (0, .ref (vA V 11 0)), (1, .int l1), (2, .int l2), (3, .int l3), (4, .int l4), (5, .int l5), (6, .int l6), (7, .int l7)]) Cx dL_times_51 hl (by decide) rfl (fun ls hl => ?_)
  refine q_iload Cx dL_times_53 (lv_at hl 8 rfl) ?_
  refine q_bipush (v := (-6 : Int32)) Cx dL_times_55 (by decide) ?_
  refine q_icmp_ne (tgt := 64) Cx dL_times_57 (by decide) (fun c33 => ?_) (fun c33 => ?_)
  · have hF := (if_neg c33).symm.trans hF
    refine q_aload_n Cx dL_times_64 rfl (lv_at hl 1 rfl) ?_
    refine q_iload Cx dL_times_65 (lv_at hl 8 rfl) ?_
    refine q_iconst (v := (5 : Int32)) Cx dL_times_67 (by decide) ?_
    obtain ⟨r34, M36, e35, hF⟩ := c2_some hF
    refine q_callI (as := [.int l7, .int (5 : Int32)]) (rest := []) Cx (kX5_ofTask e35) okX5_ofTask ovX5_ofTask wd_273 ⟨rfl, rfl, by decide, by decide⟩ hW oX ic5 rfl hl.1 (Nat.le_of_ble_eq_true rfl) rfl dL_times_68 (fun H locs hW => ?_)
    exact wL_times_71 Cx hret hk10 hW (lv_sub hl [1, 2, 3, 4, 5, 6, 7, 8, 0] rfl) hF
  · have hF := (if_pos c33).symm.trans hF
    refine q_iconst (v := (0 : Int32)) Cx dL_times_60 (by decide) ?_
    refine q_goto (tgt := 71) Cx dL_times_61 (by decide) ?_
    exact wL_times_71 Cx hret hk10 hW (lv_sub hl [1, 2, 3, 4, 5, 6, 7, 8, 0] rfl) hF
def FL_times_10s (k10 : Int32 → Int32 → Int32 → Int32 → Int32 → Mem → Option (Int32 × Mem)) (l1 : Int32) (l2 : Int32) (l3 : Int32) (l4 : Int32) (l5 : Int32) (M : Mem) : Option (Int32 × Mem) :=
  if l1 ≤ l5 then
    c1 (FX5_count M (0 : Int32)) fun r2 =>
    if r2 = l1 then
      c1 (FX5_count M (3 : Int32)) fun r5 =>
      if r5 = l3 then
        c1 (FX5_count M (4 : Int32)) fun r8 =>
        if r8 = l2 then
          c1 (FX5_count M (5 : Int32)) fun r11 =>
          if r11 = l4 then
            c1 (FX5_count M (12 : Int32)) fun r14 =>
            c1 (FX5_count M (13 : Int32)) fun r16 =>
            c1 (FX5_count M (14 : Int32)) fun r18 =>
            c1 (FX5_count M (15 : Int32)) fun r20 =>
            if (((r14 + r16) + r18) + r20) = l1 then
              some ((1 : Int32), M)
            else
              some ((0 : Int32), M)
          else
            some ((0 : Int32), M)
        else
          some ((0 : Int32), M)
      else
        some ((0 : Int32), M)
    else
      some ((0 : Int32), M)
  else
    c2 (FL_before M l5) fun r23 M25 =>
    c2 (FX5_ofTask M25 l5 (2 : Int32)) fun r26 M28 =>
    if r23 = (-6 : Int32) then
      FL_times_51 k10 l1 l2 l3 l4 l5 r23 r26 (0 : Int32) M28
    else
      c2 (FX5_ofTask M28 r23 (5 : Int32)) fun r30 M32 =>
      FL_times_51 k10 l1 l2 l3 l4 l5 r23 r26 r30 M32
set_option maxRecDepth 100000 in
set_option maxHeartbeats 4000000 in
theorem wL_times_10s {E : WE} {V : VT} {A : Nat → Prop} {H0 : Heap} (Cx : CX E RL cL_times 13 7 173) {r : Int32} {M' : Mem} (hret : RetI E V A H0 cL_times .boolean r M') {k10 : Int32 → Int32 → Int32 → Int32 → Int32 → Mem → Option (Int32 × Mem)} (hk10 : ∀ {H : Heap} {locs : List Loc} {ls : Array Slot} {M : Mem} {l1 : Int32} {l2 : Int32} {l3 : Int32} {l4 : Int32} {l5 : Int32}, Wd V A H0 M (eS E) H locs → lv_has ls 13 [(0, .ref (vA V 11 0)), (1, .int l1), (2, .int l2), (3, .int l3), (4, .int l4), (5, .int l5)] → k10 l1 l2 l3 l4 l5 M = some (r, M') → Wq E H locs 10 ls []) {H : Heap} {locs : List Loc} {ls : Array Slot} {l1 : Int32} {l2 : Int32} {l3 : Int32} {l4 : Int32} {l5 : Int32} {M : Mem} (hW : Wd V A H0 M (eS E) H locs) (hl : lv_has ls 13 [(0, .ref (vA V 11 0)), (1, .int l1), (2, .int l2), (3, .int l3), (4, .int l4), (5, .int l5)]) (hF : FL_times_10s k10 l1 l2 l3 l4 l5 M = some (r, M')) : Wq E H locs 10 ls [] := by
  unfold FL_times_10s at hF
  refine q_iload Cx dL_times_10 (lv_at hl 5 rfl) ?_
  refine q_iload_n Cx dL_times_12 rfl (lv_at hl 1 rfl) ?_
  refine q_icmp_ge (tgt := 311) Cx dL_times_13 (by decide) (fun c1 => ?_) (fun c1 => ?_)
  · have hF := (if_pos c1).symm.trans hF
    refine q_aload_n Cx dL_times_311 rfl (lv_at hl 0 rfl) ?_
    refine q_iconst (v := (0 : Int32)) Cx dL_times_312 (by decide) ?_
    obtain ⟨r2, e3, hF⟩ := c1_some hF
    refine q_callI (as := [.int (0 : Int32)]) (rest := []) Cx (kX5_count e3) okX5_count ovX5_count wd_417 ⟨rfl, rfl, by decide, by decide⟩ hW oX ic5 rfl hl.1 (Nat.le_of_ble_eq_true rfl) rfl dL_times_313 (fun H locs hW => ?_)
    refine q_iload_n Cx dL_times_316 rfl (lv_at hl 1 rfl) ?_
    refine q_icmp_ne (tgt := 383) Cx dL_times_317 (by decide) (fun c4 => ?_) (fun c4 => ?_)
    · have hF := (if_neg c4).symm.trans hF
      refine q_iconst (v := (0 : Int32)) Cx dL_times_383 (by decide) ?_
      obtain ⟨rfl, rfl⟩ := Prod.mk.inj (Option.some.inj hF)
      exact hret _ _ _ _ dL_times_384 (by rfl) hW
    · have hF := (if_pos c4).symm.trans hF
      refine q_aload_n Cx dL_times_320 rfl (lv_at hl 0 rfl) ?_
      refine q_iconst (v := (3 : Int32)) Cx dL_times_321 (by decide) ?_
      obtain ⟨r5, e6, hF⟩ := c1_some hF
      refine q_callI (as := [.int (3 : Int32)]) (rest := []) Cx (kX5_count e6) okX5_count ovX5_count wd_417 ⟨rfl, rfl, by decide, by decide⟩ hW oX ic5 rfl hl.1 (Nat.le_of_ble_eq_true rfl) rfl dL_times_322 (fun H locs hW => ?_)
      refine q_iload_n Cx dL_times_325 rfl (lv_at hl 3 rfl) ?_
      refine q_icmp_ne (tgt := 383) Cx dL_times_326 (by decide) (fun c7 => ?_) (fun c7 => ?_)
      · have hF := (if_neg c7).symm.trans hF
        refine q_iconst (v := (0 : Int32)) Cx dL_times_383 (by decide) ?_
        obtain ⟨rfl, rfl⟩ := Prod.mk.inj (Option.some.inj hF)
        exact hret _ _ _ _ dL_times_384 (by rfl) hW
      · have hF := (if_pos c7).symm.trans hF
        refine q_aload_n Cx dL_times_329 rfl (lv_at hl 0 rfl) ?_
        refine q_iconst (v := (4 : Int32)) Cx dL_times_330 (by decide) ?_
        obtain ⟨r8, e9, hF⟩ := c1_some hF
        refine q_callI (as := [.int (4 : Int32)]) (rest := []) Cx (kX5_count e9) okX5_count ovX5_count wd_417 ⟨rfl, rfl, by decide, by decide⟩ hW oX ic5 rfl hl.1 (Nat.le_of_ble_eq_true rfl) rfl dL_times_331 (fun H locs hW => ?_)
        refine q_iload_n Cx dL_times_334 rfl (lv_at hl 2 rfl) ?_
        refine q_icmp_ne (tgt := 383) Cx dL_times_335 (by decide) (fun c10 => ?_) (fun c10 => ?_)
        · have hF := (if_neg c10).symm.trans hF
          refine q_iconst (v := (0 : Int32)) Cx dL_times_383 (by decide) ?_
          obtain ⟨rfl, rfl⟩ := Prod.mk.inj (Option.some.inj hF)
          exact hret _ _ _ _ dL_times_384 (by rfl) hW
        · have hF := (if_pos c10).symm.trans hF
          refine q_aload_n Cx dL_times_338 rfl (lv_at hl 0 rfl) ?_
          refine q_iconst (v := (5 : Int32)) Cx dL_times_339 (by decide) ?_
          obtain ⟨r11, e12, hF⟩ := c1_some hF
          refine q_callI (as := [.int (5 : Int32)]) (rest := []) Cx (kX5_count e12) okX5_count ovX5_count wd_417 ⟨rfl, rfl, by decide, by decide⟩ hW oX ic5 rfl hl.1 (Nat.le_of_ble_eq_true rfl) rfl dL_times_340 (fun H locs hW => ?_)
          refine q_iload Cx dL_times_343 (lv_at hl 4 rfl) ?_
          refine q_icmp_ne (tgt := 383) Cx dL_times_345 (by decide) (fun c13 => ?_) (fun c13 => ?_)
          · have hF := (if_neg c13).symm.trans hF
            refine q_iconst (v := (0 : Int32)) Cx dL_times_383 (by decide) ?_
            obtain ⟨rfl, rfl⟩ := Prod.mk.inj (Option.some.inj hF)
            exact hret _ _ _ _ dL_times_384 (by rfl) hW
          · have hF := (if_pos c13).symm.trans hF
            refine q_aload_n Cx dL_times_348 rfl (lv_at hl 0 rfl) ?_
            refine q_bipush (v := (12 : Int32)) Cx dL_times_349 (by decide) ?_
            obtain ⟨r14, e15, hF⟩ := c1_some hF
            refine q_callI (as := [.int (12 : Int32)]) (rest := []) Cx (kX5_count e15) okX5_count ovX5_count wd_417 ⟨rfl, rfl, by decide, by decide⟩ hW oX ic5 rfl hl.1 (Nat.le_of_ble_eq_true rfl) rfl dL_times_351 (fun H locs hW => ?_)
            refine q_aload_n Cx dL_times_354 rfl (lv_at hl 0 rfl) ?_
            refine q_bipush (v := (13 : Int32)) Cx dL_times_355 (by decide) ?_
            obtain ⟨r16, e17, hF⟩ := c1_some hF
            refine q_callI (as := [.int (13 : Int32)]) (rest := [.int r14]) Cx (kX5_count e17) okX5_count ovX5_count wd_417 ⟨rfl, rfl, by decide, by decide⟩ hW oX ic5 rfl hl.1 (Nat.le_of_ble_eq_true rfl) rfl dL_times_357 (fun H locs hW => ?_)
            refine q_iadd Cx dL_times_360 ?_
            refine q_aload_n Cx dL_times_361 rfl (lv_at hl 0 rfl) ?_
            refine q_bipush (v := (14 : Int32)) Cx dL_times_362 (by decide) ?_
            obtain ⟨r18, e19, hF⟩ := c1_some hF
            refine q_callI (as := [.int (14 : Int32)]) (rest := [.int (r14 + r16)]) Cx (kX5_count e19) okX5_count ovX5_count wd_417 ⟨rfl, rfl, by decide, by decide⟩ hW oX ic5 rfl hl.1 (Nat.le_of_ble_eq_true rfl) rfl dL_times_364 (fun H locs hW => ?_)
            refine q_iadd Cx dL_times_367 ?_
            refine q_aload_n Cx dL_times_368 rfl (lv_at hl 0 rfl) ?_
            refine q_bipush (v := (15 : Int32)) Cx dL_times_369 (by decide) ?_
            obtain ⟨r20, e21, hF⟩ := c1_some hF
            refine q_callI (as := [.int (15 : Int32)]) (rest := [.int ((r14 + r16) + r18)]) Cx (kX5_count e21) okX5_count ovX5_count wd_417 ⟨rfl, rfl, by decide, by decide⟩ hW oX ic5 rfl hl.1 (Nat.le_of_ble_eq_true rfl) rfl dL_times_371 (fun H locs hW => ?_)
            refine q_iadd Cx dL_times_374 ?_
            refine q_iload_n Cx dL_times_375 rfl (lv_at hl 1 rfl) ?_
            refine q_icmp_ne (tgt := 383) Cx dL_times_376 (by decide) (fun c22 => ?_) (fun c22 => ?_)
            · have hF := (if_neg c22).symm.trans hF
              refine q_iconst (v := (0 : Int32)) Cx dL_times_383 (by decide) ?_
              obtain ⟨rfl, rfl⟩ := Prod.mk.inj (Option.some.inj hF)
              exact hret _ _ _ _ dL_times_384 (by rfl) hW
            · have hF := (if_pos c22).symm.trans hF
              refine q_iconst (v := (1 : Int32)) Cx dL_times_379 (by decide) ?_
              refine q_goto (tgt := 384) Cx dL_times_380 (by decide) ?_
              obtain ⟨rfl, rfl⟩ := Prod.mk.inj (Option.some.inj hF)
              exact hret _ _ _ _ dL_times_384 (by rfl) hW
  · have hF := (if_neg c1).symm.trans hF
    refine q_aload_n Cx dL_times_16 rfl (lv_at hl 0 rfl) ?_
    refine q_iload Cx dL_times_17 (lv_at hl 5 rfl) ?_
    obtain ⟨r23, M25, e24, hF⟩ := c2_some hF
    refine q_callSI (as := [.ref (vA V 11 0), .int l5]) (rest := []) Cx (kL_before e24) okL_before osL_before rfl wd_404 ⟨rfl, rfl, by decide, by decide⟩ hW rfl hl.1 (Nat.le_of_ble_eq_true rfl) rfl dL_times_19 (fun H locs hW => ?_)
    refine q_istore (lv' := [(6, .int r23), (0, .ref (vA V 11 0)), (1, .int l1), (2, .int l2), (3, .int l3), (4, .int l4), (5, .int l5)]) Cx dL_times_22 hl (by decide) rfl (fun ls hl => ?_)
    refine q_aload_n Cx dL_times_24 rfl (lv_at hl 1 rfl) ?_
    refine q_iload Cx dL_times_25 (lv_at hl 6 rfl) ?_
    refine q_iconst (v := (2 : Int32)) Cx dL_times_27 (by decide) ?_
    obtain ⟨r26, M28, e27, hF⟩ := c2_some hF
    refine q_callI (as := [.int l5, .int (2 : Int32)]) (rest := []) Cx (kX5_ofTask e27) okX5_ofTask ovX5_ofTask wd_273 ⟨rfl, rfl, by decide, by decide⟩ hW oX ic5 rfl hl.1 (Nat.le_of_ble_eq_true rfl) rfl dL_times_28 (fun H locs hW => ?_)
    refine q_istore (lv' := [(7, .int r26), (6, .int r23), (0, .ref (vA V 11 0)), (1, .int l1), (2, .int l2), (3, .int l3), (4, .int l4), (5, .int l5)]) Cx dL_times_31 hl (by decide) rfl (fun ls hl => ?_)
    refine q_iload Cx dL_times_33 (lv_at hl 1 rfl) ?_
    refine q_bipush (v := (-6 : Int32)) Cx dL_times_35 (by decide) ?_
    refine q_icmp_ne (tgt := 44) Cx dL_times_37 (by decide) (fun c29 => ?_) (fun c29 => ?_)
    · have hF := (if_neg c29).symm.trans hF
      refine q_aload_n Cx dL_times_44 rfl (lv_at hl 2 rfl) ?_
      refine q_iload Cx dL_times_45 (lv_at hl 1 rfl) ?_
      refine q_iconst (v := (5 : Int32)) Cx dL_times_47 (by decide) ?_
      obtain ⟨r30, M32, e31, hF⟩ := c2_some hF
      refine q_callI (as := [.int r23, .int (5 : Int32)]) (rest := []) Cx (kX5_ofTask e31) okX5_ofTask ovX5_ofTask wd_273 ⟨rfl, rfl, by decide, by decide⟩ hW oX ic5 rfl hl.1 (Nat.le_of_ble_eq_true rfl) rfl dL_times_48 (fun H locs hW => ?_)
      exact wL_times_51 Cx hret hk10 hW (lv_sub hl [2, 3, 4, 5, 6, 7, 1, 0] rfl) hF
    · have hF := (if_pos c29).symm.trans hF
      refine q_iconst (v := (0 : Int32)) Cx dL_times_40 (by decide) ?_
      refine q_goto (tgt := 51) Cx dL_times_41 (by decide) ?_
      exact wL_times_51 Cx hret hk10 hW (lv_sub hl [2, 3, 4, 5, 6, 7, 1, 0] rfl) hF
def FL_times_10 : Nat → Int32 → Int32 → Int32 → Int32 → Int32 → Mem → Option (Int32 × Mem)
  | 0 => fun _ _ _ _ _ _ => none
  | n + 1 => FL_times_10s (FL_times_10 n)
set_option maxRecDepth 100000 in
theorem wL_times_10 {E : WE} {V : VT} {A : Nat → Prop} {H0 : Heap} (Cx : CX E RL cL_times 13 7 173) {r : Int32} {M' : Mem} (hret : RetI E V A H0 cL_times .boolean r M') : ∀ (n : Nat) {H : Heap} {locs : List Loc} {ls : Array Slot} {l1 : Int32} {l2 : Int32} {l3 : Int32} {l4 : Int32} {l5 : Int32} {M : Mem}, Wd V A H0 M (eS E) H locs → lv_has ls 13 [(0, .ref (vA V 11 0)), (1, .int l1), (2, .int l2), (3, .int l3), (4, .int l4), (5, .int l5)] → FL_times_10 n l1 l2 l3 l4 l5 M = some (r, M') → Wq E H locs 10 ls [] := by
  intro n
  induction n with
  | zero => intro _ _ _ _ _ _ _ _ _ hW hl hF; cases hF
  | succ n ih => intro _ _ _ _ _ _ _ _ _ hW hl hF; exact wL_times_10s Cx hret ih hW hl hF
def FL_times (M : Mem) (l1 : Int32) : Option (Int32 × Mem) :=
  FL_times_10 fu l1 (0 : Int32) (0 : Int32) (0 : Int32) (0 : Int32) M
set_option maxRecDepth 100000 in
set_option maxHeartbeats 4000000 in
theorem wL_times {E : WE} {V : VT} {A : Nat → Prop} {H0 : Heap} (Cx : CX E RL cL_times 13 7 173) {r : Int32} {M' : Mem} (hret : RetI E V A H0 cL_times .boolean r M') {H : Heap} {locs : List Loc} {ls : Array Slot} {l1 : Int32} {M : Mem} (hW : Wd V A H0 M (eS E) H locs) (hl : lv_has ls 13 [(0, .ref (vA V 11 0)), (1, .int l1)]) (hF : FL_times M l1 = some (r, M')) : Wq E H locs 0 ls [] := by
  unfold FL_times at hF
  refine q_iconst (v := (0 : Int32)) Cx dL_times_0 (by decide) ?_
  refine q_istore_n (lv' := [(2, .int (0 : Int32)), (0, .ref (vA V 11 0)), (1, .int l1)]) Cx dL_times_1 rfl hl (by decide) rfl (fun ls hl => ?_)
  refine q_iconst (v := (0 : Int32)) Cx dL_times_2 (by decide) ?_
  refine q_istore_n (lv' := [(3, .int (0 : Int32)), (2, .int (0 : Int32)), (0, .ref (vA V 11 0)), (1, .int l1)]) Cx dL_times_3 rfl hl (by decide) rfl (fun ls hl => ?_)
  refine q_iconst (v := (0 : Int32)) Cx dL_times_4 (by decide) ?_
  refine q_istore (lv' := [(4, .int (0 : Int32)), (3, .int (0 : Int32)), (2, .int (0 : Int32)), (0, .ref (vA V 11 0)), (1, .int l1)]) Cx dL_times_5 hl (by decide) rfl (fun ls hl => ?_)
  refine q_iconst (v := (0 : Int32)) Cx dL_times_7 (by decide) ?_
  refine q_istore (lv' := [(5, .int (0 : Int32)), (4, .int (0 : Int32)), (3, .int (0 : Int32)), (2, .int (0 : Int32)), (0, .ref (vA V 11 0)), (1, .int l1)]) Cx dL_times_8 hl (by decide) rfl (fun ls hl => ?_)
  exact wL_times_10 Cx hret fu hW (lv_sub hl [4, 5, 3, 2, 1, 0] rfl) hF
set_option maxRecDepth 100000 in
theorem kL_times {l : Launch} {V : VT} {M : Mem} {l1 : Int32} {r : Int32} {M' : Mem} (hF : FL_times M l1 = some (r, M')) : MetI l V yL_times cL_times 13 .boolean ({ frames := 7, cells := 0, slots := 0, locals := 173 } : Room) [.ref (vA V 11 0), .int l1] r M M' := metI_of (by decide) (Nat.le_of_ble_eq_true rfl) (fun E H0 _ Cx hret H locs ls hW hl => wL_times Cx hret hW hl hF)
theorem dL_canBeHeld_0 : decode cL_canBeHeld 0 = .ok (.iconst 0, 1) := by decide +kernel
theorem dL_canBeHeld_1 : decode cL_canBeHeld 1 = .ok (.istore 5, 2) := by decide +kernel
theorem dL_canBeHeld_3 : decode cL_canBeHeld 3 = .ok (.iload 5, 2) := by decide +kernel
theorem dL_canBeHeld_5 : decode cL_canBeHeld 5 = .ok (.iload_n 1, 1) := by decide +kernel
theorem dL_canBeHeld_6 : decode cL_canBeHeld 6 = .ok (.if_icmp .ge 15, 3) := by decide +kernel
theorem dL_canBeHeld_9 : decode cL_canBeHeld 9 = .ok (.aload 4, 2) := by decide +kernel
theorem dL_canBeHeld_11 : decode cL_canBeHeld 11 = .ok (.iload 5, 2) := by decide +kernel
theorem dL_canBeHeld_13 : decode cL_canBeHeld 13 = .ok (.iconst 0, 1) := by decide +kernel
theorem dL_canBeHeld_14 : decode cL_canBeHeld 14 = .ok (.iastore, 1) := by decide +kernel
theorem dL_canBeHeld_15 : decode cL_canBeHeld 15 = .ok (.iinc 5 1, 3) := by decide +kernel
theorem dL_canBeHeld_18 : decode cL_canBeHeld 18 = .ok (.goto (-15), 3) := by decide +kernel
theorem dL_canBeHeld_21 : decode cL_canBeHeld 21 = .ok (.iconst 0, 1) := by decide +kernel
theorem dL_canBeHeld_22 : decode cL_canBeHeld 22 = .ok (.istore 5, 2) := by decide +kernel
theorem dL_canBeHeld_24 : decode cL_canBeHeld 24 = .ok (.iload 5, 2) := by decide +kernel
theorem dL_canBeHeld_26 : decode cL_canBeHeld 26 = .ok (.iload_n 1, 1) := by decide +kernel
theorem dL_canBeHeld_27 : decode cL_canBeHeld 27 = .ok (.if_icmp .gt 111, 3) := by decide +kernel
theorem dL_canBeHeld_30 : decode cL_canBeHeld 30 = .ok (.iconst 0, 1) := by decide +kernel
theorem dL_canBeHeld_31 : decode cL_canBeHeld 31 = .ok (.istore 6, 2) := by decide +kernel
theorem dL_canBeHeld_33 : decode cL_canBeHeld 33 = .ok (.iload 6, 2) := by decide +kernel
theorem dL_canBeHeld_35 : decode cL_canBeHeld 35 = .ok (.iload_n 1, 1) := by decide +kernel
theorem dL_canBeHeld_36 : decode cL_canBeHeld 36 = .ok (.if_icmp .ge 96, 3) := by decide +kernel
theorem dL_canBeHeld_39 : decode cL_canBeHeld 39 = .ok (.aload_n 0, 1) := by decide +kernel
theorem dL_canBeHeld_40 : decode cL_canBeHeld 40 = .ok (.iload 6, 2) := by decide +kernel
theorem dL_canBeHeld_42 : decode cL_canBeHeld 42 = .ok (.invokestatic 36, 3) := by decide +kernel
theorem dL_canBeHeld_45 : decode cL_canBeHeld 45 = .ok (.istore 7, 2) := by decide +kernel
theorem dL_canBeHeld_47 : decode cL_canBeHeld 47 = .ok (.aload_n 0, 1) := by decide +kernel
theorem dL_canBeHeld_48 : decode cL_canBeHeld 48 = .ok (.iload 6, 2) := by decide +kernel
theorem dL_canBeHeld_50 : decode cL_canBeHeld 50 = .ok (.iconst 2, 1) := by decide +kernel
theorem dL_canBeHeld_51 : decode cL_canBeHeld 51 = .ok (.invokevirtual 26, 3) := by decide +kernel
theorem dL_canBeHeld_54 : decode cL_canBeHeld 54 = .ok (.istore 8, 2) := by decide +kernel
theorem dL_canBeHeld_56 : decode cL_canBeHeld 56 = .ok (.iload 7, 2) := by decide +kernel
theorem dL_canBeHeld_58 : decode cL_canBeHeld 58 = .ok (.ifCond .lt 11, 3) := by decide +kernel
theorem dL_canBeHeld_61 : decode cL_canBeHeld 61 = .ok (.aload 4, 2) := by decide +kernel
theorem dL_canBeHeld_63 : decode cL_canBeHeld 63 = .ok (.iload 7, 2) := by decide +kernel
theorem dL_canBeHeld_65 : decode cL_canBeHeld 65 = .ok (.iaload, 1) := by decide +kernel
theorem dL_canBeHeld_66 : decode cL_canBeHeld 66 = .ok (.goto 4, 3) := by decide +kernel
theorem dL_canBeHeld_69 : decode cL_canBeHeld 69 = .ok (.iconst 0, 1) := by decide +kernel
theorem dL_canBeHeld_70 : decode cL_canBeHeld 70 = .ok (.istore 9, 2) := by decide +kernel
theorem dL_canBeHeld_72 : decode cL_canBeHeld 72 = .ok (.iload 8, 2) := by decide +kernel
theorem dL_canBeHeld_74 : decode cL_canBeHeld 74 = .ok (.ifCond .lt 21, 3) := by decide +kernel
theorem dL_canBeHeld_77 : decode cL_canBeHeld 77 = .ok (.aload 4, 2) := by decide +kernel
theorem dL_canBeHeld_79 : decode cL_canBeHeld 79 = .ok (.iload 8, 2) := by decide +kernel
theorem dL_canBeHeld_81 : decode cL_canBeHeld 81 = .ok (.iaload, 1) := by decide +kernel
theorem dL_canBeHeld_82 : decode cL_canBeHeld 82 = .ok (.iload 9, 2) := by decide +kernel
theorem dL_canBeHeld_84 : decode cL_canBeHeld 84 = .ok (.if_icmp .le 11, 3) := by decide +kernel
theorem dL_canBeHeld_87 : decode cL_canBeHeld 87 = .ok (.aload 4, 2) := by decide +kernel
theorem dL_canBeHeld_89 : decode cL_canBeHeld 89 = .ok (.iload 8, 2) := by decide +kernel
theorem dL_canBeHeld_91 : decode cL_canBeHeld 91 = .ok (.iaload, 1) := by decide +kernel
theorem dL_canBeHeld_92 : decode cL_canBeHeld 92 = .ok (.goto 5, 3) := by decide +kernel
theorem dL_canBeHeld_95 : decode cL_canBeHeld 95 = .ok (.iload 9, 2) := by decide +kernel
theorem dL_canBeHeld_97 : decode cL_canBeHeld 97 = .ok (.istore 9, 2) := by decide +kernel
theorem dL_canBeHeld_99 : decode cL_canBeHeld 99 = .ok (.aload 4, 2) := by decide +kernel
theorem dL_canBeHeld_101 : decode cL_canBeHeld 101 = .ok (.iload 6, 2) := by decide +kernel
theorem dL_canBeHeld_103 : decode cL_canBeHeld 103 = .ok (.iload 9, 2) := by decide +kernel
theorem dL_canBeHeld_105 : decode cL_canBeHeld 105 = .ok (.aload_n 0, 1) := by decide +kernel
theorem dL_canBeHeld_106 : decode cL_canBeHeld 106 = .ok (.iload 6, 2) := by decide +kernel
theorem dL_canBeHeld_108 : decode cL_canBeHeld 108 = .ok (.iconst 1, 1) := by decide +kernel
theorem dL_canBeHeld_109 : decode cL_canBeHeld 109 = .ok (.invokevirtual 26, 3) := by decide +kernel
theorem dL_canBeHeld_112 : decode cL_canBeHeld 112 = .ok (.iadd, 1) := by decide +kernel
theorem dL_canBeHeld_113 : decode cL_canBeHeld 113 = .ok (.iload 6, 2) := by decide +kernel
theorem dL_canBeHeld_115 : decode cL_canBeHeld 115 = .ok (.iload_n 2, 1) := by decide +kernel
theorem dL_canBeHeld_116 : decode cL_canBeHeld 116 = .ok (.if_icmp .ne 7, 3) := by decide +kernel
theorem dL_canBeHeld_119 : decode cL_canBeHeld 119 = .ok (.iload_n 3, 1) := by decide +kernel
theorem dL_canBeHeld_120 : decode cL_canBeHeld 120 = .ok (.goto 4, 3) := by decide +kernel
theorem dL_canBeHeld_123 : decode cL_canBeHeld 123 = .ok (.iconst 0, 1) := by decide +kernel
theorem dL_canBeHeld_124 : decode cL_canBeHeld 124 = .ok (.iadd, 1) := by decide +kernel
theorem dL_canBeHeld_125 : decode cL_canBeHeld 125 = .ok (.iastore, 1) := by decide +kernel
theorem dL_canBeHeld_126 : decode cL_canBeHeld 126 = .ok (.iinc 6 1, 3) := by decide +kernel
theorem dL_canBeHeld_129 : decode cL_canBeHeld 129 = .ok (.goto (-96), 3) := by decide +kernel
theorem dL_canBeHeld_132 : decode cL_canBeHeld 132 = .ok (.iinc 5 1, 3) := by decide +kernel
theorem dL_canBeHeld_135 : decode cL_canBeHeld 135 = .ok (.goto (-111), 3) := by decide +kernel
theorem dL_canBeHeld_138 : decode cL_canBeHeld 138 = .ok (.iconst 1, 1) := by decide +kernel
theorem dL_canBeHeld_139 : decode cL_canBeHeld 139 = .ok (.istore 5, 2) := by decide +kernel
theorem dL_canBeHeld_141 : decode cL_canBeHeld 141 = .ok (.iconst 0, 1) := by decide +kernel
theorem dL_canBeHeld_142 : decode cL_canBeHeld 142 = .ok (.istore 6, 2) := by decide +kernel
theorem dL_canBeHeld_144 : decode cL_canBeHeld 144 = .ok (.iload 6, 2) := by decide +kernel
theorem dL_canBeHeld_146 : decode cL_canBeHeld 146 = .ok (.iload_n 1, 1) := by decide +kernel
theorem dL_canBeHeld_147 : decode cL_canBeHeld 147 = .ok (.if_icmp .ge 37, 3) := by decide +kernel
theorem dL_canBeHeld_150 : decode cL_canBeHeld 150 = .ok (.iload 5, 2) := by decide +kernel
theorem dL_canBeHeld_152 : decode cL_canBeHeld 152 = .ok (.ifCond .eq 23, 3) := by decide +kernel
theorem dL_canBeHeld_155 : decode cL_canBeHeld 155 = .ok (.aload 4, 2) := by decide +kernel
theorem dL_canBeHeld_157 : decode cL_canBeHeld 157 = .ok (.iload 6, 2) := by decide +kernel
theorem dL_canBeHeld_159 : decode cL_canBeHeld 159 = .ok (.iaload, 1) := by decide +kernel
theorem dL_canBeHeld_160 : decode cL_canBeHeld 160 = .ok (.i2l, 1) := by decide +kernel
theorem dL_canBeHeld_161 : decode cL_canBeHeld 161 = .ok (.aload_n 0, 1) := by decide +kernel
theorem dL_canBeHeld_162 : decode cL_canBeHeld 162 = .ok (.iload 6, 2) := by decide +kernel
theorem dL_canBeHeld_164 : decode cL_canBeHeld 164 = .ok (.invokevirtual 40, 3) := by decide +kernel
theorem dL_canBeHeld_167 : decode cL_canBeHeld 167 = .ok (.lcmp, 1) := by decide +kernel
theorem dL_canBeHeld_168 : decode cL_canBeHeld 168 = .ok (.ifCond .gt 7, 3) := by decide +kernel
theorem dL_canBeHeld_171 : decode cL_canBeHeld 171 = .ok (.iconst 1, 1) := by decide +kernel
theorem dL_canBeHeld_172 : decode cL_canBeHeld 172 = .ok (.goto 4, 3) := by decide +kernel
theorem dL_canBeHeld_175 : decode cL_canBeHeld 175 = .ok (.iconst 0, 1) := by decide +kernel
theorem dL_canBeHeld_176 : decode cL_canBeHeld 176 = .ok (.istore 5, 2) := by decide +kernel
theorem dL_canBeHeld_178 : decode cL_canBeHeld 178 = .ok (.iinc 6 1, 3) := by decide +kernel
theorem dL_canBeHeld_181 : decode cL_canBeHeld 181 = .ok (.goto (-37), 3) := by decide +kernel
theorem dL_canBeHeld_184 : decode cL_canBeHeld 184 = .ok (.iload 5, 2) := by decide +kernel
theorem dL_canBeHeld_186 : decode cL_canBeHeld 186 = .ok (.ireturn, 1) := by decide +kernel
theorem okL_canBeHeld : CalOK yL_canBeHeld cL_canBeHeld 10 (some .boolean) 5 := ⟨wd_15, wd_447, by decide +kernel⟩
theorem osL_canBeHeld : Cond.static yL_canBeHeld ∈ lw_gd := wd_446
def FL_canBeHeld_175 (k144 : Int32 → Int32 → Int32 → Mem → Option (Int32 × Mem)) (l1 : Int32) (l6 : Int32) (M : Mem) : Option (Int32 × Mem) :=
  lt1 (l6 + (1 : Int32)) fun x6 =>
  k144 l1 (0 : Int32) x6 M
set_option maxRecDepth 100000 in
set_option maxHeartbeats 4000000 in
theorem wL_canBeHeld_175 {E : WE} {V : VT} {A : Nat → Prop} {H0 : Heap} (Cx : CX E RL cL_canBeHeld 10 7 173) {r : Int32} {M' : Mem} (hret : RetI E V A H0 cL_canBeHeld .boolean r M') {k144 : Int32 → Int32 → Int32 → Mem → Option (Int32 × Mem)} (hk144 : ∀ {H : Heap} {locs : List Loc} {ls : Array Slot} {M : Mem} {l1 : Int32} {l5 : Int32} {l6 : Int32}, Wd V A H0 M (eS E) H locs → lv_has ls 10 [(0, .ref (vA V 11 0)), (1, .int l1), (4, .ref (vA V 12 0)), (5, .int l5), (6, .int l6)] → k144 l1 l5 l6 M = some (r, M') → Wq E H locs 144 ls []) {H : Heap} {locs : List Loc} {ls : Array Slot} {l1 : Int32} {l6 : Int32} {M : Mem} (hW : Wd V A H0 M (eS E) H locs) (hl : lv_has ls 10 [(0, .ref (vA V 11 0)), (1, .int l1), (4, .ref (vA V 12 0)), (6, .int l6)]) (hF : FL_canBeHeld_175 k144 l1 l6 M = some (r, M')) : Wq E H locs 175 ls [] := by
  unfold FL_canBeHeld_175 at hF
  refine q_iconst (v := (0 : Int32)) Cx dL_canBeHeld_175 (by decide) ?_
  refine q_istore (lv' := [(5, .int (0 : Int32)), (0, .ref (vA V 11 0)), (1, .int l1), (4, .ref (vA V 12 0)), (6, .int l6)]) Cx dL_canBeHeld_176 hl (by decide) rfl (fun ls hl => ?_)
  obtain ⟨x6, e7, hF⟩ := lt1_some hF
  refine q_iinc (k := 4) (v := x6) (lv' := [(6, .int x6), (5, .int (0 : Int32)), (0, .ref (vA V 11 0)), (1, .int l1), (4, .ref (vA V 12 0))]) Cx dL_canBeHeld_178 hl rfl e7.symm (by decide) rfl (fun ls hl => ?_)
  refine q_goto (tgt := 144) Cx dL_canBeHeld_181 (by decide) ?_
  exact hk144 hW (lv_sub hl [2, 3, 4, 1, 0] rfl) hF
def FL_canBeHeld_144s (k144 : Int32 → Int32 → Int32 → Mem → Option (Int32 × Mem)) (l1 : Int32) (l5 : Int32) (l6 : Int32) (M : Mem) : Option (Int32 × Mem) :=
  if l1 ≤ l6 then
    rZ l5 (some (l5, M))
  else
    if l5 = 0 then
      FL_canBeHeld_175 k144 l1 l6 M
    else
      ld (M 12 0) 24 l6 fun v8 =>
      c1 (FX5_due M l6) fun r11 =>
      if 0 < (lg_cmp v8.toInt64 r11) then
        FL_canBeHeld_175 k144 l1 l6 M
      else
        lt1 (l6 + (1 : Int32)) fun x14 =>
        k144 l1 (1 : Int32) x14 M
set_option maxRecDepth 100000 in
set_option maxHeartbeats 4000000 in
theorem wL_canBeHeld_144s {E : WE} {V : VT} {A : Nat → Prop} {H0 : Heap} (Cx : CX E RL cL_canBeHeld 10 7 173) {r : Int32} {M' : Mem} (hret : RetI E V A H0 cL_canBeHeld .boolean r M') {k144 : Int32 → Int32 → Int32 → Mem → Option (Int32 × Mem)} (hk144 : ∀ {H : Heap} {locs : List Loc} {ls : Array Slot} {M : Mem} {l1 : Int32} {l5 : Int32} {l6 : Int32}, Wd V A H0 M (eS E) H locs → lv_has ls 10 [(0, .ref (vA V 11 0)), (1, .int l1), (4, .ref (vA V 12 0)), (5, .int l5), (6, .int l6)] → k144 l1 l5 l6 M = some (r, M') → Wq E H locs 144 ls []) {H : Heap} {locs : List Loc} {ls : Array Slot} {l1 : Int32} {l5 : Int32} {l6 : Int32} {M : Mem} (hW : Wd V A H0 M (eS E) H locs) (hl : lv_has ls 10 [(0, .ref (vA V 11 0)), (1, .int l1), (4, .ref (vA V 12 0)), (5, .int l5), (6, .int l6)]) (hF : FL_canBeHeld_144s k144 l1 l5 l6 M = some (r, M')) : Wq E H locs 144 ls [] := by
  unfold FL_canBeHeld_144s at hF
  refine q_iload Cx dL_canBeHeld_144 (lv_at hl 4 rfl) ?_
  refine q_iload_n Cx dL_canBeHeld_146 rfl (lv_at hl 1 rfl) ?_
  refine q_icmp_ge (tgt := 184) Cx dL_canBeHeld_147 (by decide) (fun c3 => ?_) (fun c3 => ?_)
  · have hF := (if_pos c3).symm.trans hF
    refine q_iload Cx dL_canBeHeld_184 (lv_at hl 3 rfl) ?_
    obtain ⟨h4, hF⟩ := rZ_some hF
    obtain ⟨rfl, rfl⟩ := Prod.mk.inj (Option.some.inj hF)
    exact hret _ _ _ _ dL_canBeHeld_186 h4 hW
  · have hF := (if_neg c3).symm.trans hF
    refine q_iload Cx dL_canBeHeld_150 (lv_at hl 3 rfl) ?_
    refine q_if_eq (tgt := 175) Cx dL_canBeHeld_152 (by decide) (fun c5 => ?_) (fun c5 => ?_)
    · have hF := (if_pos c5).symm.trans hF
      exact wL_canBeHeld_175 Cx hret hk144 hW (lv_sub hl [0, 1, 2, 4] rfl) hF
    · have hF := (if_neg c5).symm.trans hF
      refine q_aload Cx dL_canBeHeld_155 (lv_at hl 2 rfl) ?_
      refine q_iload Cx dL_canBeHeld_157 (lv_at hl 4 rfl) ?_
      obtain ⟨h9, v8, e10, hF⟩ := ld_some hF
      refine q_iald Cx hW az_0 h9 e10 dL_canBeHeld_159 ?_
      refine q_i2l Cx dL_canBeHeld_160 ?_
      refine q_aload_n Cx dL_canBeHeld_161 rfl (lv_at hl 0 rfl) ?_
      refine q_iload Cx dL_canBeHeld_162 (lv_at hl 4 rfl) ?_
      obtain ⟨r11, e12, hF⟩ := c1_some hF
      refine q_callL (as := [.int l6]) (rest := [.long v8.toInt64]) Cx (kX5_due e12) okX5_due ovX5_due wd_412 ⟨rfl, rfl, by decide, by decide⟩ hW oX ic5 rfl hl.1 (Nat.le_of_ble_eq_true rfl) rfl dL_canBeHeld_164 (fun H locs hW => ?_)
      refine q_lcmp Cx dL_canBeHeld_167 ?_
      refine q_if_gt (tgt := 175) Cx dL_canBeHeld_168 (by decide) (fun c13 => ?_) (fun c13 => ?_)
      · have hF := (if_pos c13).symm.trans hF
        exact wL_canBeHeld_175 Cx hret hk144 hW (lv_sub hl [0, 1, 2, 4] rfl) hF
      · have hF := (if_neg c13).symm.trans hF
        refine q_iconst (v := (1 : Int32)) Cx dL_canBeHeld_171 (by decide) ?_
        refine q_goto (tgt := 176) Cx dL_canBeHeld_172 (by decide) ?_
        refine q_istore (lv' := [(5, .int (1 : Int32)), (0, .ref (vA V 11 0)), (1, .int l1), (4, .ref (vA V 12 0)), (6, .int l6)]) Cx dL_canBeHeld_176 hl (by decide) rfl (fun ls hl => ?_)
        obtain ⟨x14, e15, hF⟩ := lt1_some hF
        refine q_iinc (k := 4) (v := x14) (lv' := [(6, .int x14), (5, .int (1 : Int32)), (0, .ref (vA V 11 0)), (1, .int l1), (4, .ref (vA V 12 0))]) Cx dL_canBeHeld_178 hl rfl e15.symm (by decide) rfl (fun ls hl => ?_)
        refine q_goto (tgt := 144) Cx dL_canBeHeld_181 (by decide) ?_
        exact hk144 hW (lv_sub hl [2, 3, 4, 1, 0] rfl) hF
def FL_canBeHeld_144 : Nat → Int32 → Int32 → Int32 → Mem → Option (Int32 × Mem)
  | 0 => fun _ _ _ _ => none
  | n + 1 => FL_canBeHeld_144s (FL_canBeHeld_144 n)
set_option maxRecDepth 100000 in
theorem wL_canBeHeld_144 {E : WE} {V : VT} {A : Nat → Prop} {H0 : Heap} (Cx : CX E RL cL_canBeHeld 10 7 173) {r : Int32} {M' : Mem} (hret : RetI E V A H0 cL_canBeHeld .boolean r M') : ∀ (n : Nat) {H : Heap} {locs : List Loc} {ls : Array Slot} {l1 : Int32} {l5 : Int32} {l6 : Int32} {M : Mem}, Wd V A H0 M (eS E) H locs → lv_has ls 10 [(0, .ref (vA V 11 0)), (1, .int l1), (4, .ref (vA V 12 0)), (5, .int l5), (6, .int l6)] → FL_canBeHeld_144 n l1 l5 l6 M = some (r, M') → Wq E H locs 144 ls [] := by
  intro n
  induction n with
  | zero => intro _ _ _ _ _ _ _ hW hl hF; cases hF
  | succ n ih => intro _ _ _ _ _ _ _ hW hl hF; exact wL_canBeHeld_144s Cx hret ih hW hl hF
def FL_canBeHeld_124 (k24 : Int32 → Int32 → Int32 → Int32 → Mem → Option (Int32 × Mem)) (k33 : Int32 → Int32 → Int32 → Int32 → Int32 → Mem → Option (Int32 × Mem)) (l1 : Int32) (l2 : Int32) (l3 : Int32) (l5 : Int32) (l6 : Int32) (s0 : Int32) (s1 : Int32) (s2 : Int32) (M : Mem) : Option (Int32 × Mem) :=
  stm M 12 0 24 s2 (s1 + s0) fun M31 =>
  lt1 (l6 + (1 : Int32)) fun x34 =>
  k33 l1 l2 l3 l5 x34 M31
set_option maxRecDepth 100000 in
set_option maxHeartbeats 4000000 in
theorem wL_canBeHeld_124 {E : WE} {V : VT} {A : Nat → Prop} {H0 : Heap} (Cx : CX E RL cL_canBeHeld 10 7 173) {r : Int32} {M' : Mem} (hret : RetI E V A H0 cL_canBeHeld .boolean r M') {k24 : Int32 → Int32 → Int32 → Int32 → Mem → Option (Int32 × Mem)} (hk24 : ∀ {H : Heap} {locs : List Loc} {ls : Array Slot} {M : Mem} {l1 : Int32} {l2 : Int32} {l3 : Int32} {l5 : Int32}, Wd V A H0 M (eS E) H locs → lv_has ls 10 [(0, .ref (vA V 11 0)), (1, .int l1), (2, .int l2), (3, .int l3), (4, .ref (vA V 12 0)), (5, .int l5)] → k24 l1 l2 l3 l5 M = some (r, M') → Wq E H locs 24 ls []) {k33 : Int32 → Int32 → Int32 → Int32 → Int32 → Mem → Option (Int32 × Mem)} (hk33 : ∀ {H : Heap} {locs : List Loc} {ls : Array Slot} {M : Mem} {l1 : Int32} {l2 : Int32} {l3 : Int32} {l5 : Int32} {l6 : Int32}, Wd V A H0 M (eS E) H locs → lv_has ls 10 [(0, .ref (vA V 11 0)), (1, .int l1), (2, .int l2), (3, .int l3), (4, .ref (vA V 12 0)), (5, .int l5), (6, .int l6)] → k33 l1 l2 l3 l5 l6 M = some (r, M') → Wq E H locs 33 ls []) {H : Heap} {locs : List Loc} {ls : Array Slot} {l1 : Int32} {l2 : Int32} {l3 : Int32} {l5 : Int32} {l6 : Int32} {s0 : Int32} {s1 : Int32} {s2 : Int32} {M : Mem} (hW : Wd V A H0 M (eS E) H locs) (hl : lv_has ls 10 [(0, .ref (vA V 11 0)), (1, .int l1), (2, .int l2), (3, .int l3), (4, .ref (vA V 12 0)), (5, .int l5), (6, .int l6)]) (hF : FL_canBeHeld_124 k24 k33 l1 l2 l3 l5 l6 s0 s1 s2 M = some (r, M')) : Wq E H locs 124 ls [.int s0, .int s1, .int s2, .ref (vA V 12 0)] := by
  unfold FL_canBeHeld_124 at hF
  refine q_iadd Cx dL_canBeHeld_124 ?_
  obtain ⟨h32, M31, e33, hF⟩ := stm_some hF
  refine qw_iast Cx hW az_0 h32 e33 dL_canBeHeld_125 (fun H locs hW => ?_)
  obtain ⟨x34, e35, hF⟩ := lt1_some hF
  refine q_iinc (k := 6) (v := x34) (lv' := [(6, .int x34), (0, .ref (vA V 11 0)), (1, .int l1), (2, .int l2), (3, .int l3), (4, .ref (vA V 12 0)), (5, .int l5)]) Cx dL_canBeHeld_126 hl rfl e35.symm (by decide) rfl (fun ls hl => ?_)
  refine q_goto (tgt := 33) Cx dL_canBeHeld_129 (by decide) ?_
  exact hk33 hW (lv_sub hl [1, 2, 3, 4, 5, 6, 0] rfl) hF
def FL_canBeHeld_97 (k24 : Int32 → Int32 → Int32 → Int32 → Mem → Option (Int32 × Mem)) (k33 : Int32 → Int32 → Int32 → Int32 → Int32 → Mem → Option (Int32 × Mem)) (l1 : Int32) (l2 : Int32) (l3 : Int32) (l5 : Int32) (l6 : Int32) (s0 : Int32) (M : Mem) : Option (Int32 × Mem) :=
  c2 (FX5_ofTask M l6 (1 : Int32)) fun r27 M29 =>
  if l6 = l2 then
    FL_canBeHeld_124 k24 k33 l1 l2 l3 l5 l6 l3 (s0 + r27) l6 M29
  else
    FL_canBeHeld_124 k24 k33 l1 l2 l3 l5 l6 (0 : Int32) (s0 + r27) l6 M29
set_option maxRecDepth 100000 in
set_option maxHeartbeats 4000000 in
theorem wL_canBeHeld_97 {E : WE} {V : VT} {A : Nat → Prop} {H0 : Heap} (Cx : CX E RL cL_canBeHeld 10 7 173) {r : Int32} {M' : Mem} (hret : RetI E V A H0 cL_canBeHeld .boolean r M') {k24 : Int32 → Int32 → Int32 → Int32 → Mem → Option (Int32 × Mem)} (hk24 : ∀ {H : Heap} {locs : List Loc} {ls : Array Slot} {M : Mem} {l1 : Int32} {l2 : Int32} {l3 : Int32} {l5 : Int32}, Wd V A H0 M (eS E) H locs → lv_has ls 10 [(0, .ref (vA V 11 0)), (1, .int l1), (2, .int l2), (3, .int l3), (4, .ref (vA V 12 0)), (5, .int l5)] → k24 l1 l2 l3 l5 M = some (r, M') → Wq E H locs 24 ls []) {k33 : Int32 → Int32 → Int32 → Int32 → Int32 → Mem → Option (Int32 × Mem)} (hk33 : ∀ {H : Heap} {locs : List Loc} {ls : Array Slot} {M : Mem} {l1 : Int32} {l2 : Int32} {l3 : Int32} {l5 : Int32} {l6 : Int32}, Wd V A H0 M (eS E) H locs → lv_has ls 10 [(0, .ref (vA V 11 0)), (1, .int l1), (2, .int l2), (3, .int l3), (4, .ref (vA V 12 0)), (5, .int l5), (6, .int l6)] → k33 l1 l2 l3 l5 l6 M = some (r, M') → Wq E H locs 33 ls []) {H : Heap} {locs : List Loc} {ls : Array Slot} {l1 : Int32} {l2 : Int32} {l3 : Int32} {l5 : Int32} {l6 : Int32} {s0 : Int32} {M : Mem} (hW : Wd V A H0 M (eS E) H locs) (hl : lv_has ls 10 [(0, .ref (vA V 11 0)), (1, .int l1), (2, .int l2), (3, .int l3), (4, .ref (vA V 12 0)), (5, .int l5), (6, .int l6)]) (hF : FL_canBeHeld_97 k24 k33 l1 l2 l3 l5 l6 s0 M = some (r, M')) : Wq E H locs 97 ls [.int s0] := by
  unfold FL_canBeHeld_97 at hF
  refine q_istore (lv' := [(9, .int s0), (0, .ref (vA V 11 0)), (1, .int l1), (2, .int l2), (3, .int l3), (4, .ref (vA V 12 0)), (5, .int l5), (6, .int l6)]) Cx dL_canBeHeld_97 hl (by decide) rfl (fun ls hl => ?_)
  refine q_aload Cx dL_canBeHeld_99 (lv_at hl 5 rfl) ?_
  refine q_iload Cx dL_canBeHeld_101 (lv_at hl 7 rfl) ?_
  refine q_iload Cx dL_canBeHeld_103 (lv_at hl 0 rfl) ?_
  refine q_aload_n Cx dL_canBeHeld_105 rfl (lv_at hl 1 rfl) ?_
  refine q_iload Cx dL_canBeHeld_106 (lv_at hl 7 rfl) ?_
  refine q_iconst (v := (1 : Int32)) Cx dL_canBeHeld_108 (by decide) ?_
  obtain ⟨r27, M29, e28, hF⟩ := c2_some hF
  refine q_callI (as := [.int l6, .int (1 : Int32)]) (rest := [.int s0, .int l6, .ref (vA V 12 0)]) Cx (kX5_ofTask e28) okX5_ofTask ovX5_ofTask wd_273 ⟨rfl, rfl, by decide, by decide⟩ hW oX ic5 rfl hl.1 (Nat.le_of_ble_eq_true rfl) rfl dL_canBeHeld_109 (fun H locs hW => ?_)
  refine q_iadd Cx dL_canBeHeld_112 ?_
  refine q_iload Cx dL_canBeHeld_113 (lv_at hl 7 rfl) ?_
  refine q_iload_n Cx dL_canBeHeld_115 rfl (lv_at hl 3 rfl) ?_
  refine q_icmp_ne (tgt := 123) Cx dL_canBeHeld_116 (by decide) (fun c30 => ?_) (fun c30 => ?_)
  · have hF := (if_neg c30).symm.trans hF
    refine q_iconst (v := (0 : Int32)) Cx dL_canBeHeld_123 (by decide) ?_
    exact wL_canBeHeld_124 Cx hret hk24 hk33 hW (lv_sub hl [1, 2, 3, 4, 5, 6, 7] rfl) hF
  · have hF := (if_pos c30).symm.trans hF
    refine q_iload_n Cx dL_canBeHeld_119 rfl (lv_at hl 4 rfl) ?_
    refine q_goto (tgt := 124) Cx dL_canBeHeld_120 (by decide) ?_
    exact wL_canBeHeld_124 Cx hret hk24 hk33 hW (lv_sub hl [1, 2, 3, 4, 5, 6, 7] rfl) hF
def FL_canBeHeld_95 (k24 : Int32 → Int32 → Int32 → Int32 → Mem → Option (Int32 × Mem)) (k33 : Int32 → Int32 → Int32 → Int32 → Int32 → Mem → Option (Int32 × Mem)) (l1 : Int32) (l2 : Int32) (l3 : Int32) (l5 : Int32) (l6 : Int32) (l9 : Int32) (M : Mem) : Option (Int32 × Mem) :=
  FL_canBeHeld_97 k24 k33 l1 l2 l3 l5 l6 l9 M
set_option maxRecDepth 100000 in
set_option maxHeartbeats 4000000 in
theorem wL_canBeHeld_95 {E : WE} {V : VT} {A : Nat → Prop} {H0 : Heap} (Cx : CX E RL cL_canBeHeld 10 7 173) {r : Int32} {M' : Mem} (hret : RetI E V A H0 cL_canBeHeld .boolean r M') {k24 : Int32 → Int32 → Int32 → Int32 → Mem → Option (Int32 × Mem)} (hk24 : ∀ {H : Heap} {locs : List Loc} {ls : Array Slot} {M : Mem} {l1 : Int32} {l2 : Int32} {l3 : Int32} {l5 : Int32}, Wd V A H0 M (eS E) H locs → lv_has ls 10 [(0, .ref (vA V 11 0)), (1, .int l1), (2, .int l2), (3, .int l3), (4, .ref (vA V 12 0)), (5, .int l5)] → k24 l1 l2 l3 l5 M = some (r, M') → Wq E H locs 24 ls []) {k33 : Int32 → Int32 → Int32 → Int32 → Int32 → Mem → Option (Int32 × Mem)} (hk33 : ∀ {H : Heap} {locs : List Loc} {ls : Array Slot} {M : Mem} {l1 : Int32} {l2 : Int32} {l3 : Int32} {l5 : Int32} {l6 : Int32}, Wd V A H0 M (eS E) H locs → lv_has ls 10 [(0, .ref (vA V 11 0)), (1, .int l1), (2, .int l2), (3, .int l3), (4, .ref (vA V 12 0)), (5, .int l5), (6, .int l6)] → k33 l1 l2 l3 l5 l6 M = some (r, M') → Wq E H locs 33 ls []) {H : Heap} {locs : List Loc} {ls : Array Slot} {l1 : Int32} {l2 : Int32} {l3 : Int32} {l5 : Int32} {l6 : Int32} {l9 : Int32} {M : Mem} (hW : Wd V A H0 M (eS E) H locs) (hl : lv_has ls 10 [(0, .ref (vA V 11 0)), (1, .int l1), (2, .int l2), (3, .int l3), (4, .ref (vA V 12 0)), (5, .int l5), (6, .int l6), (9, .int l9)]) (hF : FL_canBeHeld_95 k24 k33 l1 l2 l3 l5 l6 l9 M = some (r, M')) : Wq E H locs 95 ls [] := by
  unfold FL_canBeHeld_95 at hF
  refine q_iload Cx dL_canBeHeld_95 (lv_at hl 7 rfl) ?_
  exact wL_canBeHeld_97 Cx hret hk24 hk33 hW (lv_sub hl [0, 1, 2, 3, 4, 5, 6] rfl) hF
def FL_canBeHeld_70 (k24 : Int32 → Int32 → Int32 → Int32 → Mem → Option (Int32 × Mem)) (k33 : Int32 → Int32 → Int32 → Int32 → Int32 → Mem → Option (Int32 × Mem)) (l1 : Int32) (l2 : Int32) (l3 : Int32) (l5 : Int32) (l6 : Int32) (l8 : Int32) (s0 : Int32) (M : Mem) : Option (Int32 × Mem) :=
  if l8 < 0 then
    FL_canBeHeld_95 k24 k33 l1 l2 l3 l5 l6 s0 M
  else
    ld (M 12 0) 24 l8 fun v36 =>
    if v36 ≤ s0 then
      FL_canBeHeld_95 k24 k33 l1 l2 l3 l5 l6 s0 M
    else
      ld (M 12 0) 24 l8 fun v40 =>
      FL_canBeHeld_97 k24 k33 l1 l2 l3 l5 l6 v40 M
set_option maxRecDepth 100000 in
set_option maxHeartbeats 4000000 in
theorem wL_canBeHeld_70 {E : WE} {V : VT} {A : Nat → Prop} {H0 : Heap} (Cx : CX E RL cL_canBeHeld 10 7 173) {r : Int32} {M' : Mem} (hret : RetI E V A H0 cL_canBeHeld .boolean r M') {k24 : Int32 → Int32 → Int32 → Int32 → Mem → Option (Int32 × Mem)} (hk24 : ∀ {H : Heap} {locs : List Loc} {ls : Array Slot} {M : Mem} {l1 : Int32} {l2 : Int32} {l3 : Int32} {l5 : Int32}, Wd V A H0 M (eS E) H locs → lv_has ls 10 [(0, .ref (vA V 11 0)), (1, .int l1), (2, .int l2), (3, .int l3), (4, .ref (vA V 12 0)), (5, .int l5)] → k24 l1 l2 l3 l5 M = some (r, M') → Wq E H locs 24 ls []) {k33 : Int32 → Int32 → Int32 → Int32 → Int32 → Mem → Option (Int32 × Mem)} (hk33 : ∀ {H : Heap} {locs : List Loc} {ls : Array Slot} {M : Mem} {l1 : Int32} {l2 : Int32} {l3 : Int32} {l5 : Int32} {l6 : Int32}, Wd V A H0 M (eS E) H locs → lv_has ls 10 [(0, .ref (vA V 11 0)), (1, .int l1), (2, .int l2), (3, .int l3), (4, .ref (vA V 12 0)), (5, .int l5), (6, .int l6)] → k33 l1 l2 l3 l5 l6 M = some (r, M') → Wq E H locs 33 ls []) {H : Heap} {locs : List Loc} {ls : Array Slot} {l1 : Int32} {l2 : Int32} {l3 : Int32} {l5 : Int32} {l6 : Int32} {l8 : Int32} {s0 : Int32} {M : Mem} (hW : Wd V A H0 M (eS E) H locs) (hl : lv_has ls 10 [(0, .ref (vA V 11 0)), (1, .int l1), (2, .int l2), (3, .int l3), (4, .ref (vA V 12 0)), (5, .int l5), (6, .int l6), (8, .int l8)]) (hF : FL_canBeHeld_70 k24 k33 l1 l2 l3 l5 l6 l8 s0 M = some (r, M')) : Wq E H locs 70 ls [.int s0] := by
  unfold FL_canBeHeld_70 at hF
  refine q_istore (lv' := [(9, .int s0), (0, .ref (vA V 11 0)), (1, .int l1), (2, .int l2), (3, .int l3), (4, .ref (vA V 12 0)), (5, .int l5), (6, .int l6), (8, .int l8)]) Cx dL_canBeHeld_70 hl (by decide) rfl (fun ls hl => ?_)
  refine q_iload Cx dL_canBeHeld_72 (lv_at hl 8 rfl) ?_
  refine q_if_lt (tgt := 95) Cx dL_canBeHeld_74 (by decide) (fun c26 => ?_) (fun c26 => ?_)
  · have hF := (if_pos c26).symm.trans hF
    exact wL_canBeHeld_95 Cx hret hk24 hk33 hW (lv_sub hl [1, 2, 3, 4, 5, 6, 7, 0] rfl) hF
  · have hF := (if_neg c26).symm.trans hF
    refine q_aload Cx dL_canBeHeld_77 (lv_at hl 5 rfl) ?_
    refine q_iload Cx dL_canBeHeld_79 (lv_at hl 8 rfl) ?_
    obtain ⟨h37, v36, e38, hF⟩ := ld_some hF
    refine q_iald Cx hW az_0 h37 e38 dL_canBeHeld_81 ?_
    refine q_iload Cx dL_canBeHeld_82 (lv_at hl 0 rfl) ?_
    refine q_icmp_le (tgt := 95) Cx dL_canBeHeld_84 (by decide) (fun c39 => ?_) (fun c39 => ?_)
    · have hF := (if_pos c39).symm.trans hF
      exact wL_canBeHeld_95 Cx hret hk24 hk33 hW (lv_sub hl [1, 2, 3, 4, 5, 6, 7, 0] rfl) hF
    · have hF := (if_neg c39).symm.trans hF
      refine q_aload Cx dL_canBeHeld_87 (lv_at hl 5 rfl) ?_
      refine q_iload Cx dL_canBeHeld_89 (lv_at hl 8 rfl) ?_
      obtain ⟨h41, v40, e42, hF⟩ := ld_some hF
      refine q_iald Cx hW az_0 h41 e42 dL_canBeHeld_91 ?_
      refine q_goto (tgt := 97) Cx dL_canBeHeld_92 (by decide) ?_
      exact wL_canBeHeld_97 Cx hret hk24 hk33 hW (lv_sub hl [1, 2, 3, 4, 5, 6, 7] rfl) hF
def FL_canBeHeld_33s (k24 : Int32 → Int32 → Int32 → Int32 → Mem → Option (Int32 × Mem)) (k33 : Int32 → Int32 → Int32 → Int32 → Int32 → Mem → Option (Int32 × Mem)) (l1 : Int32) (l2 : Int32) (l3 : Int32) (l5 : Int32) (l6 : Int32) (M : Mem) : Option (Int32 × Mem) :=
  if l1 ≤ l6 then
    lt1 (l5 + (1 : Int32)) fun x17 =>
    k24 l1 l2 l3 x17 M
  else
    c2 (FL_before M l6) fun r19 M21 =>
    c2 (FX5_ofTask M21 l6 (2 : Int32)) fun r22 M24 =>
    if r19 < 0 then
      FL_canBeHeld_70 k24 k33 l1 l2 l3 l5 l6 r22 (0 : Int32) M24
    else
      ld (M24 12 0) 24 r19 fun v43 =>
      FL_canBeHeld_70 k24 k33 l1 l2 l3 l5 l6 r22 v43 M24
set_option maxRecDepth 100000 in
set_option maxHeartbeats 4000000 in
theorem wL_canBeHeld_33s {E : WE} {V : VT} {A : Nat → Prop} {H0 : Heap} (Cx : CX E RL cL_canBeHeld 10 7 173) {r : Int32} {M' : Mem} (hret : RetI E V A H0 cL_canBeHeld .boolean r M') {k24 : Int32 → Int32 → Int32 → Int32 → Mem → Option (Int32 × Mem)} (hk24 : ∀ {H : Heap} {locs : List Loc} {ls : Array Slot} {M : Mem} {l1 : Int32} {l2 : Int32} {l3 : Int32} {l5 : Int32}, Wd V A H0 M (eS E) H locs → lv_has ls 10 [(0, .ref (vA V 11 0)), (1, .int l1), (2, .int l2), (3, .int l3), (4, .ref (vA V 12 0)), (5, .int l5)] → k24 l1 l2 l3 l5 M = some (r, M') → Wq E H locs 24 ls []) {k33 : Int32 → Int32 → Int32 → Int32 → Int32 → Mem → Option (Int32 × Mem)} (hk33 : ∀ {H : Heap} {locs : List Loc} {ls : Array Slot} {M : Mem} {l1 : Int32} {l2 : Int32} {l3 : Int32} {l5 : Int32} {l6 : Int32}, Wd V A H0 M (eS E) H locs → lv_has ls 10 [(0, .ref (vA V 11 0)), (1, .int l1), (2, .int l2), (3, .int l3), (4, .ref (vA V 12 0)), (5, .int l5), (6, .int l6)] → k33 l1 l2 l3 l5 l6 M = some (r, M') → Wq E H locs 33 ls []) {H : Heap} {locs : List Loc} {ls : Array Slot} {l1 : Int32} {l2 : Int32} {l3 : Int32} {l5 : Int32} {l6 : Int32} {M : Mem} (hW : Wd V A H0 M (eS E) H locs) (hl : lv_has ls 10 [(0, .ref (vA V 11 0)), (1, .int l1), (2, .int l2), (3, .int l3), (4, .ref (vA V 12 0)), (5, .int l5), (6, .int l6)]) (hF : FL_canBeHeld_33s k24 k33 l1 l2 l3 l5 l6 M = some (r, M')) : Wq E H locs 33 ls [] := by
  unfold FL_canBeHeld_33s at hF
  refine q_iload Cx dL_canBeHeld_33 (lv_at hl 6 rfl) ?_
  refine q_iload_n Cx dL_canBeHeld_35 rfl (lv_at hl 1 rfl) ?_
  refine q_icmp_ge (tgt := 132) Cx dL_canBeHeld_36 (by decide) (fun c16 => ?_) (fun c16 => ?_)
  · have hF := (if_pos c16).symm.trans hF
    obtain ⟨x17, e18, hF⟩ := lt1_some hF
    refine q_iinc (k := 5) (v := x17) (lv' := [(5, .int x17), (0, .ref (vA V 11 0)), (1, .int l1), (2, .int l2), (3, .int l3), (4, .ref (vA V 12 0)), (6, .int l6)]) Cx dL_canBeHeld_132 hl rfl e18.symm (by decide) rfl (fun ls hl => ?_)
    refine q_goto (tgt := 24) Cx dL_canBeHeld_135 (by decide) ?_
    exact hk24 hW (lv_sub hl [1, 2, 3, 4, 5, 0] rfl) hF
  · have hF := (if_neg c16).symm.trans hF
    refine q_aload_n Cx dL_canBeHeld_39 rfl (lv_at hl 0 rfl) ?_
    refine q_iload Cx dL_canBeHeld_40 (lv_at hl 6 rfl) ?_
    obtain ⟨r19, M21, e20, hF⟩ := c2_some hF
    refine q_callSI (as := [.ref (vA V 11 0), .int l6]) (rest := []) Cx (kL_before e20) okL_before osL_before rfl wd_404 ⟨rfl, rfl, by decide, by decide⟩ hW rfl hl.1 (Nat.le_of_ble_eq_true rfl) rfl dL_canBeHeld_42 (fun H locs hW => ?_)
    refine q_istore (lv' := [(7, .int r19), (0, .ref (vA V 11 0)), (1, .int l1), (2, .int l2), (3, .int l3), (4, .ref (vA V 12 0)), (5, .int l5), (6, .int l6)]) Cx dL_canBeHeld_45 hl (by decide) rfl (fun ls hl => ?_)
    refine q_aload_n Cx dL_canBeHeld_47 rfl (lv_at hl 1 rfl) ?_
    refine q_iload Cx dL_canBeHeld_48 (lv_at hl 7 rfl) ?_
    refine q_iconst (v := (2 : Int32)) Cx dL_canBeHeld_50 (by decide) ?_
    obtain ⟨r22, M24, e23, hF⟩ := c2_some hF
    refine q_callI (as := [.int l6, .int (2 : Int32)]) (rest := []) Cx (kX5_ofTask e23) okX5_ofTask ovX5_ofTask wd_273 ⟨rfl, rfl, by decide, by decide⟩ hW oX ic5 rfl hl.1 (Nat.le_of_ble_eq_true rfl) rfl dL_canBeHeld_51 (fun H locs hW => ?_)
    refine q_istore (lv' := [(8, .int r22), (7, .int r19), (0, .ref (vA V 11 0)), (1, .int l1), (2, .int l2), (3, .int l3), (4, .ref (vA V 12 0)), (5, .int l5), (6, .int l6)]) Cx dL_canBeHeld_54 hl (by decide) rfl (fun ls hl => ?_)
    refine q_iload Cx dL_canBeHeld_56 (lv_at hl 1 rfl) ?_
    refine q_if_lt (tgt := 69) Cx dL_canBeHeld_58 (by decide) (fun c25 => ?_) (fun c25 => ?_)
    · have hF := (if_pos c25).symm.trans hF
      refine q_iconst (v := (0 : Int32)) Cx dL_canBeHeld_69 (by decide) ?_
      exact wL_canBeHeld_70 Cx hret hk24 hk33 hW (lv_sub hl [2, 3, 4, 5, 6, 7, 8, 0] rfl) hF
    · have hF := (if_neg c25).symm.trans hF
      refine q_aload Cx dL_canBeHeld_61 (lv_at hl 6 rfl) ?_
      refine q_iload Cx dL_canBeHeld_63 (lv_at hl 1 rfl) ?_
      obtain ⟨h44, v43, e45, hF⟩ := ld_some hF
      refine q_iald Cx hW az_0 h44 e45 dL_canBeHeld_65 ?_
      refine q_goto (tgt := 70) Cx dL_canBeHeld_66 (by decide) ?_
      exact wL_canBeHeld_70 Cx hret hk24 hk33 hW (lv_sub hl [2, 3, 4, 5, 6, 7, 8, 0] rfl) hF
def FL_canBeHeld_33 (k24 : Int32 → Int32 → Int32 → Int32 → Mem → Option (Int32 × Mem)) : Nat → Int32 → Int32 → Int32 → Int32 → Int32 → Mem → Option (Int32 × Mem)
  | 0 => fun _ _ _ _ _ _ => none
  | n + 1 => FL_canBeHeld_33s k24 (FL_canBeHeld_33 k24 n)
set_option maxRecDepth 100000 in
theorem wL_canBeHeld_33 {E : WE} {V : VT} {A : Nat → Prop} {H0 : Heap} (Cx : CX E RL cL_canBeHeld 10 7 173) {r : Int32} {M' : Mem} (hret : RetI E V A H0 cL_canBeHeld .boolean r M') {k24 : Int32 → Int32 → Int32 → Int32 → Mem → Option (Int32 × Mem)} (hk24 : ∀ {H : Heap} {locs : List Loc} {ls : Array Slot} {M : Mem} {l1 : Int32} {l2 : Int32} {l3 : Int32} {l5 : Int32}, Wd V A H0 M (eS E) H locs → lv_has ls 10 [(0, .ref (vA V 11 0)), (1, .int l1), (2, .int l2), (3, .int l3), (4, .ref (vA V 12 0)), (5, .int l5)] → k24 l1 l2 l3 l5 M = some (r, M') → Wq E H locs 24 ls []) : ∀ (n : Nat) {H : Heap} {locs : List Loc} {ls : Array Slot} {l1 : Int32} {l2 : Int32} {l3 : Int32} {l5 : Int32} {l6 : Int32} {M : Mem}, Wd V A H0 M (eS E) H locs → lv_has ls 10 [(0, .ref (vA V 11 0)), (1, .int l1), (2, .int l2), (3, .int l3), (4, .ref (vA V 12 0)), (5, .int l5), (6, .int l6)] → FL_canBeHeld_33 k24 n l1 l2 l3 l5 l6 M = some (r, M') → Wq E H locs 33 ls [] := by
  intro n
  induction n with
  | zero => intro _ _ _ _ _ _ _ _ _ hW hl hF; cases hF
  | succ n ih => intro _ _ _ _ _ _ _ _ _ hW hl hF; exact wL_canBeHeld_33s Cx hret hk24 ih hW hl hF
def FL_canBeHeld_24s (k24 : Int32 → Int32 → Int32 → Int32 → Mem → Option (Int32 × Mem)) (l1 : Int32) (l2 : Int32) (l3 : Int32) (l5 : Int32) (M : Mem) : Option (Int32 × Mem) :=
  if l1 < l5 then
    FL_canBeHeld_144 fu l1 (1 : Int32) (0 : Int32) M
  else
    FL_canBeHeld_33 k24 fu l1 l2 l3 l5 (0 : Int32) M
set_option maxRecDepth 100000 in
set_option maxHeartbeats 4000000 in
theorem wL_canBeHeld_24s {E : WE} {V : VT} {A : Nat → Prop} {H0 : Heap} (Cx : CX E RL cL_canBeHeld 10 7 173) {r : Int32} {M' : Mem} (hret : RetI E V A H0 cL_canBeHeld .boolean r M') {k24 : Int32 → Int32 → Int32 → Int32 → Mem → Option (Int32 × Mem)} (hk24 : ∀ {H : Heap} {locs : List Loc} {ls : Array Slot} {M : Mem} {l1 : Int32} {l2 : Int32} {l3 : Int32} {l5 : Int32}, Wd V A H0 M (eS E) H locs → lv_has ls 10 [(0, .ref (vA V 11 0)), (1, .int l1), (2, .int l2), (3, .int l3), (4, .ref (vA V 12 0)), (5, .int l5)] → k24 l1 l2 l3 l5 M = some (r, M') → Wq E H locs 24 ls []) {H : Heap} {locs : List Loc} {ls : Array Slot} {l1 : Int32} {l2 : Int32} {l3 : Int32} {l5 : Int32} {M : Mem} (hW : Wd V A H0 M (eS E) H locs) (hl : lv_has ls 10 [(0, .ref (vA V 11 0)), (1, .int l1), (2, .int l2), (3, .int l3), (4, .ref (vA V 12 0)), (5, .int l5)]) (hF : FL_canBeHeld_24s k24 l1 l2 l3 l5 M = some (r, M')) : Wq E H locs 24 ls [] := by
  unfold FL_canBeHeld_24s at hF
  refine q_iload Cx dL_canBeHeld_24 (lv_at hl 5 rfl) ?_
  refine q_iload_n Cx dL_canBeHeld_26 rfl (lv_at hl 1 rfl) ?_
  refine q_icmp_gt (tgt := 138) Cx dL_canBeHeld_27 (by decide) (fun c2 => ?_) (fun c2 => ?_)
  · have hF := (if_pos c2).symm.trans hF
    refine q_iconst (v := (1 : Int32)) Cx dL_canBeHeld_138 (by decide) ?_
    refine q_istore (lv' := [(5, .int (1 : Int32)), (0, .ref (vA V 11 0)), (1, .int l1), (2, .int l2), (3, .int l3), (4, .ref (vA V 12 0))]) Cx dL_canBeHeld_139 hl (by decide) rfl (fun ls hl => ?_)
    refine q_iconst (v := (0 : Int32)) Cx dL_canBeHeld_141 (by decide) ?_
    refine q_istore (lv' := [(6, .int (0 : Int32)), (5, .int (1 : Int32)), (0, .ref (vA V 11 0)), (1, .int l1), (2, .int l2), (3, .int l3), (4, .ref (vA V 12 0))]) Cx dL_canBeHeld_142 hl (by decide) rfl (fun ls hl => ?_)
    exact wL_canBeHeld_144 Cx hret fu hW (lv_sub hl [2, 3, 6, 1, 0] rfl) hF
  · have hF := (if_neg c2).symm.trans hF
    refine q_iconst (v := (0 : Int32)) Cx dL_canBeHeld_30 (by decide) ?_
    refine q_istore (lv' := [(6, .int (0 : Int32)), (0, .ref (vA V 11 0)), (1, .int l1), (2, .int l2), (3, .int l3), (4, .ref (vA V 12 0)), (5, .int l5)]) Cx dL_canBeHeld_31 hl (by decide) rfl (fun ls hl => ?_)
    exact wL_canBeHeld_33 Cx hret hk24 fu hW (lv_sub hl [1, 2, 3, 4, 5, 6, 0] rfl) hF
def FL_canBeHeld_24 : Nat → Int32 → Int32 → Int32 → Int32 → Mem → Option (Int32 × Mem)
  | 0 => fun _ _ _ _ _ => none
  | n + 1 => FL_canBeHeld_24s (FL_canBeHeld_24 n)
set_option maxRecDepth 100000 in
theorem wL_canBeHeld_24 {E : WE} {V : VT} {A : Nat → Prop} {H0 : Heap} (Cx : CX E RL cL_canBeHeld 10 7 173) {r : Int32} {M' : Mem} (hret : RetI E V A H0 cL_canBeHeld .boolean r M') : ∀ (n : Nat) {H : Heap} {locs : List Loc} {ls : Array Slot} {l1 : Int32} {l2 : Int32} {l3 : Int32} {l5 : Int32} {M : Mem}, Wd V A H0 M (eS E) H locs → lv_has ls 10 [(0, .ref (vA V 11 0)), (1, .int l1), (2, .int l2), (3, .int l3), (4, .ref (vA V 12 0)), (5, .int l5)] → FL_canBeHeld_24 n l1 l2 l3 l5 M = some (r, M') → Wq E H locs 24 ls [] := by
  intro n
  induction n with
  | zero => intro _ _ _ _ _ _ _ _ hW hl hF; cases hF
  | succ n ih => intro _ _ _ _ _ _ _ _ hW hl hF; exact wL_canBeHeld_24s Cx hret ih hW hl hF
def FL_canBeHeld_3s (k3 : Int32 → Int32 → Int32 → Int32 → Mem → Option (Int32 × Mem)) (l1 : Int32) (l2 : Int32) (l3 : Int32) (l5 : Int32) (M : Mem) : Option (Int32 × Mem) :=
  if l1 ≤ l5 then
    FL_canBeHeld_24 fu l1 l2 l3 (0 : Int32) M
  else
    stm M 12 0 24 l5 (0 : Int32) fun M46 =>
    lt1 (l5 + (1 : Int32)) fun x49 =>
    k3 l1 l2 l3 x49 M46
set_option maxRecDepth 100000 in
set_option maxHeartbeats 4000000 in
theorem wL_canBeHeld_3s {E : WE} {V : VT} {A : Nat → Prop} {H0 : Heap} (Cx : CX E RL cL_canBeHeld 10 7 173) {r : Int32} {M' : Mem} (hret : RetI E V A H0 cL_canBeHeld .boolean r M') {k3 : Int32 → Int32 → Int32 → Int32 → Mem → Option (Int32 × Mem)} (hk3 : ∀ {H : Heap} {locs : List Loc} {ls : Array Slot} {M : Mem} {l1 : Int32} {l2 : Int32} {l3 : Int32} {l5 : Int32}, Wd V A H0 M (eS E) H locs → lv_has ls 10 [(0, .ref (vA V 11 0)), (1, .int l1), (2, .int l2), (3, .int l3), (4, .ref (vA V 12 0)), (5, .int l5)] → k3 l1 l2 l3 l5 M = some (r, M') → Wq E H locs 3 ls []) {H : Heap} {locs : List Loc} {ls : Array Slot} {l1 : Int32} {l2 : Int32} {l3 : Int32} {l5 : Int32} {M : Mem} (hW : Wd V A H0 M (eS E) H locs) (hl : lv_has ls 10 [(0, .ref (vA V 11 0)), (1, .int l1), (2, .int l2), (3, .int l3), (4, .ref (vA V 12 0)), (5, .int l5)]) (hF : FL_canBeHeld_3s k3 l1 l2 l3 l5 M = some (r, M')) : Wq E H locs 3 ls [] := by
  unfold FL_canBeHeld_3s at hF
  refine q_iload Cx dL_canBeHeld_3 (lv_at hl 5 rfl) ?_
  refine q_iload_n Cx dL_canBeHeld_5 rfl (lv_at hl 1 rfl) ?_
  refine q_icmp_ge (tgt := 21) Cx dL_canBeHeld_6 (by decide) (fun c1 => ?_) (fun c1 => ?_)
  · have hF := (if_pos c1).symm.trans hF
    refine q_iconst (v := (0 : Int32)) Cx dL_canBeHeld_21 (by decide) ?_
    refine q_istore (lv' := [(5, .int (0 : Int32)), (0, .ref (vA V 11 0)), (1, .int l1), (2, .int l2), (3, .int l3), (4, .ref (vA V 12 0))]) Cx dL_canBeHeld_22 hl (by decide) rfl (fun ls hl => ?_)
    exact wL_canBeHeld_24 Cx hret fu hW (lv_sub hl [1, 2, 3, 4, 5, 0] rfl) hF
  · have hF := (if_neg c1).symm.trans hF
    refine q_aload Cx dL_canBeHeld_9 (lv_at hl 4 rfl) ?_
    refine q_iload Cx dL_canBeHeld_11 (lv_at hl 5 rfl) ?_
    refine q_iconst (v := (0 : Int32)) Cx dL_canBeHeld_13 (by decide) ?_
    obtain ⟨h47, M46, e48, hF⟩ := stm_some hF
    refine qw_iast Cx hW az_0 h47 e48 dL_canBeHeld_14 (fun H locs hW => ?_)
    obtain ⟨x49, e50, hF⟩ := lt1_some hF
    refine q_iinc (k := 5) (v := x49) (lv' := [(5, .int x49), (0, .ref (vA V 11 0)), (1, .int l1), (2, .int l2), (3, .int l3), (4, .ref (vA V 12 0))]) Cx dL_canBeHeld_15 hl rfl e50.symm (by decide) rfl (fun ls hl => ?_)
    refine q_goto (tgt := 3) Cx dL_canBeHeld_18 (by decide) ?_
    exact hk3 hW (lv_sub hl [1, 2, 3, 4, 5, 0] rfl) hF
def FL_canBeHeld_3 : Nat → Int32 → Int32 → Int32 → Int32 → Mem → Option (Int32 × Mem)
  | 0 => fun _ _ _ _ _ => none
  | n + 1 => FL_canBeHeld_3s (FL_canBeHeld_3 n)
set_option maxRecDepth 100000 in
theorem wL_canBeHeld_3 {E : WE} {V : VT} {A : Nat → Prop} {H0 : Heap} (Cx : CX E RL cL_canBeHeld 10 7 173) {r : Int32} {M' : Mem} (hret : RetI E V A H0 cL_canBeHeld .boolean r M') : ∀ (n : Nat) {H : Heap} {locs : List Loc} {ls : Array Slot} {l1 : Int32} {l2 : Int32} {l3 : Int32} {l5 : Int32} {M : Mem}, Wd V A H0 M (eS E) H locs → lv_has ls 10 [(0, .ref (vA V 11 0)), (1, .int l1), (2, .int l2), (3, .int l3), (4, .ref (vA V 12 0)), (5, .int l5)] → FL_canBeHeld_3 n l1 l2 l3 l5 M = some (r, M') → Wq E H locs 3 ls [] := by
  intro n
  induction n with
  | zero => intro _ _ _ _ _ _ _ _ hW hl hF; cases hF
  | succ n ih => intro _ _ _ _ _ _ _ _ hW hl hF; exact wL_canBeHeld_3s Cx hret ih hW hl hF
def FL_canBeHeld (M : Mem) (l1 : Int32) (l2 : Int32) (l3 : Int32) : Option (Int32 × Mem) :=
  FL_canBeHeld_3 fu l1 l2 l3 (0 : Int32) M
set_option maxRecDepth 100000 in
set_option maxHeartbeats 4000000 in
theorem wL_canBeHeld {E : WE} {V : VT} {A : Nat → Prop} {H0 : Heap} (Cx : CX E RL cL_canBeHeld 10 7 173) {r : Int32} {M' : Mem} (hret : RetI E V A H0 cL_canBeHeld .boolean r M') {H : Heap} {locs : List Loc} {ls : Array Slot} {l1 : Int32} {l2 : Int32} {l3 : Int32} {M : Mem} (hW : Wd V A H0 M (eS E) H locs) (hl : lv_has ls 10 [(0, .ref (vA V 11 0)), (1, .int l1), (2, .int l2), (3, .int l3), (4, .ref (vA V 12 0))]) (hF : FL_canBeHeld M l1 l2 l3 = some (r, M')) : Wq E H locs 0 ls [] := by
  unfold FL_canBeHeld at hF
  refine q_iconst (v := (0 : Int32)) Cx dL_canBeHeld_0 (by decide) ?_
  refine q_istore (lv' := [(5, .int (0 : Int32)), (0, .ref (vA V 11 0)), (1, .int l1), (2, .int l2), (3, .int l3), (4, .ref (vA V 12 0))]) Cx dL_canBeHeld_1 hl (by decide) rfl (fun ls hl => ?_)
  exact wL_canBeHeld_3 Cx hret fu hW (lv_sub hl [1, 2, 3, 4, 5, 0] rfl) hF
set_option maxRecDepth 100000 in
theorem kL_canBeHeld {l : Launch} {V : VT} {M : Mem} {l1 : Int32} {l2 : Int32} {l3 : Int32} {r : Int32} {M' : Mem} (hF : FL_canBeHeld M l1 l2 l3 = some (r, M')) : MetI l V yL_canBeHeld cL_canBeHeld 10 .boolean ({ frames := 7, cells := 0, slots := 0, locals := 173 } : Room) [.ref (vA V 11 0), .int l1, .int l2, .int l3, .ref (vA V 12 0)] r M M' := metI_of (by decide) (Nat.le_of_ble_eq_true rfl) (fun E H0 _ Cx hret H locs ls hW hl => wL_canBeHeld Cx hret hW hl hF)
theorem dL_slacks_0 : decode cL_slacks 0 = .ok (.iconst 0, 1) := by decide +kernel
theorem dL_slacks_1 : decode cL_slacks 1 = .ok (.istore_n 3, 1) := by decide +kernel
theorem dL_slacks_2 : decode cL_slacks 2 = .ok (.iload_n 3, 1) := by decide +kernel
theorem dL_slacks_3 : decode cL_slacks 3 = .ok (.iload_n 1, 1) := by decide +kernel
theorem dL_slacks_4 : decode cL_slacks 4 = .ok (.if_icmp .ge 92, 3) := by decide +kernel
theorem dL_slacks_7 : decode cL_slacks 7 = .ok (.aload_n 0, 1) := by decide +kernel
theorem dL_slacks_8 : decode cL_slacks 8 = .ok (.iload_n 3, 1) := by decide +kernel
theorem dL_slacks_9 : decode cL_slacks 9 = .ok (.bipush 8, 2) := by decide +kernel
theorem dL_slacks_11 : decode cL_slacks 11 = .ok (.invokevirtual 26, 3) := by decide +kernel
theorem dL_slacks_14 : decode cL_slacks 14 = .ok (.istore 4, 2) := by decide +kernel
theorem dL_slacks_16 : decode cL_slacks 16 = .ok (.aload_n 0, 1) := by decide +kernel
theorem dL_slacks_17 : decode cL_slacks 17 = .ok (.iconst 3, 1) := by decide +kernel
theorem dL_slacks_18 : decode cL_slacks 18 = .ok (.invokevirtual 44, 3) := by decide +kernel
theorem dL_slacks_21 : decode cL_slacks 21 = .ok (.ifCond .eq 16, 3) := by decide +kernel
theorem dL_slacks_24 : decode cL_slacks 24 = .ok (.iload 4, 2) := by decide +kernel
theorem dL_slacks_26 : decode cL_slacks 26 = .ok (.ifCond .ne 7, 3) := by decide +kernel
theorem dL_slacks_29 : decode cL_slacks 29 = .ok (.iconst 1, 1) := by decide +kernel
theorem dL_slacks_30 : decode cL_slacks 30 = .ok (.goto 51, 3) := by decide +kernel
theorem dL_slacks_33 : decode cL_slacks 33 = .ok (.iconst 0, 1) := by decide +kernel
theorem dL_slacks_34 : decode cL_slacks 34 = .ok (.goto 47, 3) := by decide +kernel
theorem dL_slacks_37 : decode cL_slacks 37 = .ok (.iload 4, 2) := by decide +kernel
theorem dL_slacks_39 : decode cL_slacks 39 = .ok (.ifCond .lt 41, 3) := by decide +kernel
theorem dL_slacks_42 : decode cL_slacks 42 = .ok (.aload_n 0, 1) := by decide +kernel
theorem dL_slacks_43 : decode cL_slacks 43 = .ok (.iload_n 1, 1) := by decide +kernel
theorem dL_slacks_44 : decode cL_slacks 44 = .ok (.iload_n 3, 1) := by decide +kernel
theorem dL_slacks_45 : decode cL_slacks 45 = .ok (.iload 4, 2) := by decide +kernel
theorem dL_slacks_47 : decode cL_slacks 47 = .ok (.aload_n 2, 1) := by decide +kernel
theorem dL_slacks_48 : decode cL_slacks 48 = .ok (.invokestatic 48, 3) := by decide +kernel
theorem dL_slacks_51 : decode cL_slacks 51 = .ok (.ifCond .eq 29, 3) := by decide +kernel
theorem dL_slacks_54 : decode cL_slacks 54 = .ok (.iload 4, 2) := by decide +kernel
theorem dL_slacks_56 : decode cL_slacks 56 = .ok (.sipush 5000, 3) := by decide +kernel
theorem dL_slacks_59 : decode cL_slacks 59 = .ok (.if_icmp .eq 17, 3) := by decide +kernel
theorem dL_slacks_62 : decode cL_slacks 62 = .ok (.aload_n 0, 1) := by decide +kernel
theorem dL_slacks_63 : decode cL_slacks 63 = .ok (.iload_n 1, 1) := by decide +kernel
theorem dL_slacks_64 : decode cL_slacks 64 = .ok (.iload_n 3, 1) := by decide +kernel
theorem dL_slacks_65 : decode cL_slacks 65 = .ok (.iload 4, 2) := by decide +kernel
theorem dL_slacks_67 : decode cL_slacks 67 = .ok (.iconst 1, 1) := by decide +kernel
theorem dL_slacks_68 : decode cL_slacks 68 = .ok (.iadd, 1) := by decide +kernel
theorem dL_slacks_69 : decode cL_slacks 69 = .ok (.aload_n 2, 1) := by decide +kernel
theorem dL_slacks_70 : decode cL_slacks 70 = .ok (.invokestatic 48, 3) := by decide +kernel
theorem dL_slacks_73 : decode cL_slacks 73 = .ok (.ifCond .ne 7, 3) := by decide +kernel
theorem dL_slacks_76 : decode cL_slacks 76 = .ok (.iconst 1, 1) := by decide +kernel
theorem dL_slacks_77 : decode cL_slacks 77 = .ok (.goto 4, 3) := by decide +kernel
theorem dL_slacks_80 : decode cL_slacks 80 = .ok (.iconst 0, 1) := by decide +kernel
theorem dL_slacks_81 : decode cL_slacks 81 = .ok (.istore 5, 2) := by decide +kernel
theorem dL_slacks_83 : decode cL_slacks 83 = .ok (.iload 5, 2) := by decide +kernel
theorem dL_slacks_85 : decode cL_slacks 85 = .ok (.ifCond .ne 5, 3) := by decide +kernel
theorem dL_slacks_88 : decode cL_slacks 88 = .ok (.iconst 0, 1) := by decide +kernel
theorem dL_slacks_89 : decode cL_slacks 89 = .ok (.ireturn, 1) := by decide +kernel
theorem dL_slacks_90 : decode cL_slacks 90 = .ok (.iinc 3 1, 3) := by decide +kernel
theorem dL_slacks_93 : decode cL_slacks 93 = .ok (.goto (-91), 3) := by decide +kernel
theorem dL_slacks_96 : decode cL_slacks 96 = .ok (.iconst 1, 1) := by decide +kernel
theorem dL_slacks_97 : decode cL_slacks 97 = .ok (.ireturn, 1) := by decide +kernel
theorem okL_slacks : CalOK yL_slacks cL_slacks 6 (some .boolean) 3 := ⟨wd_15, wd_444, by decide +kernel⟩
theorem osL_slacks : Cond.static yL_slacks ∈ lw_gd := wd_443
def FL_slacks_81 (k2 : Int32 → Int32 → Mem → Option (Int32 × Mem)) (l1 : Int32) (l3 : Int32) (s0 : Int32) (M : Mem) : Option (Int32 × Mem) :=
  if s0 = 0 then
    some ((0 : Int32), M)
  else
    lt1 (l3 + (1 : Int32)) fun x10 =>
    k2 l1 x10 M
set_option maxRecDepth 100000 in
set_option maxHeartbeats 4000000 in
theorem wL_slacks_81 {E : WE} {V : VT} {A : Nat → Prop} {H0 : Heap} (Cx : CX E RL cL_slacks 6 8 202) {r : Int32} {M' : Mem} (hret : RetI E V A H0 cL_slacks .boolean r M') {k2 : Int32 → Int32 → Mem → Option (Int32 × Mem)} (hk2 : ∀ {H : Heap} {locs : List Loc} {ls : Array Slot} {M : Mem} {l1 : Int32} {l3 : Int32}, Wd V A H0 M (eS E) H locs → lv_has ls 6 [(0, .ref (vA V 11 0)), (1, .int l1), (2, .ref (vA V 12 0)), (3, .int l3)] → k2 l1 l3 M = some (r, M') → Wq E H locs 2 ls []) {H : Heap} {locs : List Loc} {ls : Array Slot} {l1 : Int32} {l3 : Int32} {s0 : Int32} {M : Mem} (hW : Wd V A H0 M (eS E) H locs) (hl : lv_has ls 6 [(0, .ref (vA V 11 0)), (1, .int l1), (2, .ref (vA V 12 0)), (3, .int l3)]) (hF : FL_slacks_81 k2 l1 l3 s0 M = some (r, M')) : Wq E H locs 81 ls [.int s0] := by
  unfold FL_slacks_81 at hF
  refine q_istore (lv' := [(5, .int s0), (0, .ref (vA V 11 0)), (1, .int l1), (2, .ref (vA V 12 0)), (3, .int l3)]) Cx dL_slacks_81 hl (by decide) rfl (fun ls hl => ?_)
  refine q_iload Cx dL_slacks_83 (lv_at hl 0 rfl) ?_
  refine q_if_ne (tgt := 90) Cx dL_slacks_85 (by decide) (fun c9 => ?_) (fun c9 => ?_)
  · have hF := (if_neg c9).symm.trans hF
    obtain ⟨x10, e11, hF⟩ := lt1_some hF
    refine q_iinc (k := 4) (v := x10) (lv' := [(3, .int x10), (5, .int s0), (0, .ref (vA V 11 0)), (1, .int l1), (2, .ref (vA V 12 0))]) Cx dL_slacks_90 hl rfl e11.symm (by decide) rfl (fun ls hl => ?_)
    refine q_goto (tgt := 2) Cx dL_slacks_93 (by decide) ?_
    exact hk2 hW (lv_sub hl [2, 3, 4, 0] rfl) hF
  · have hF := (if_pos c9).symm.trans hF
    refine q_iconst (v := (0 : Int32)) Cx dL_slacks_88 (by decide) ?_
    obtain ⟨rfl, rfl⟩ := Prod.mk.inj (Option.some.inj hF)
    exact hret _ _ _ _ dL_slacks_89 (by rfl) hW
def FL_slacks_80 (k2 : Int32 → Int32 → Mem → Option (Int32 × Mem)) (l1 : Int32) (l3 : Int32) (M : Mem) : Option (Int32 × Mem) :=
  FL_slacks_81 k2 l1 l3 (0 : Int32) M
set_option maxRecDepth 100000 in
set_option maxHeartbeats 4000000 in
theorem wL_slacks_80 {E : WE} {V : VT} {A : Nat → Prop} {H0 : Heap} (Cx : CX E RL cL_slacks 6 8 202) {r : Int32} {M' : Mem} (hret : RetI E V A H0 cL_slacks .boolean r M') {k2 : Int32 → Int32 → Mem → Option (Int32 × Mem)} (hk2 : ∀ {H : Heap} {locs : List Loc} {ls : Array Slot} {M : Mem} {l1 : Int32} {l3 : Int32}, Wd V A H0 M (eS E) H locs → lv_has ls 6 [(0, .ref (vA V 11 0)), (1, .int l1), (2, .ref (vA V 12 0)), (3, .int l3)] → k2 l1 l3 M = some (r, M') → Wq E H locs 2 ls []) {H : Heap} {locs : List Loc} {ls : Array Slot} {l1 : Int32} {l3 : Int32} {M : Mem} (hW : Wd V A H0 M (eS E) H locs) (hl : lv_has ls 6 [(0, .ref (vA V 11 0)), (1, .int l1), (2, .ref (vA V 12 0)), (3, .int l3)]) (hF : FL_slacks_80 k2 l1 l3 M = some (r, M')) : Wq E H locs 80 ls [] := by
  unfold FL_slacks_80 at hF
  refine q_iconst (v := (0 : Int32)) Cx dL_slacks_80 (by decide) ?_
  exact wL_slacks_81 Cx hret hk2 hW (lv_sub hl [0, 1, 2, 3] rfl) hF
def FL_slacks_76 (k2 : Int32 → Int32 → Mem → Option (Int32 × Mem)) (l1 : Int32) (l3 : Int32) (M : Mem) : Option (Int32 × Mem) :=
  FL_slacks_81 k2 l1 l3 (1 : Int32) M
set_option maxRecDepth 100000 in
set_option maxHeartbeats 4000000 in
theorem wL_slacks_76 {E : WE} {V : VT} {A : Nat → Prop} {H0 : Heap} (Cx : CX E RL cL_slacks 6 8 202) {r : Int32} {M' : Mem} (hret : RetI E V A H0 cL_slacks .boolean r M') {k2 : Int32 → Int32 → Mem → Option (Int32 × Mem)} (hk2 : ∀ {H : Heap} {locs : List Loc} {ls : Array Slot} {M : Mem} {l1 : Int32} {l3 : Int32}, Wd V A H0 M (eS E) H locs → lv_has ls 6 [(0, .ref (vA V 11 0)), (1, .int l1), (2, .ref (vA V 12 0)), (3, .int l3)] → k2 l1 l3 M = some (r, M') → Wq E H locs 2 ls []) {H : Heap} {locs : List Loc} {ls : Array Slot} {l1 : Int32} {l3 : Int32} {M : Mem} (hW : Wd V A H0 M (eS E) H locs) (hl : lv_has ls 6 [(0, .ref (vA V 11 0)), (1, .int l1), (2, .ref (vA V 12 0)), (3, .int l3)]) (hF : FL_slacks_76 k2 l1 l3 M = some (r, M')) : Wq E H locs 76 ls [] := by
  unfold FL_slacks_76 at hF
  refine q_iconst (v := (1 : Int32)) Cx dL_slacks_76 (by decide) ?_
  refine q_goto (tgt := 81) Cx dL_slacks_77 (by decide) ?_
  exact wL_slacks_81 Cx hret hk2 hW (lv_sub hl [0, 1, 2, 3] rfl) hF
def FL_slacks_2s (k2 : Int32 → Int32 → Mem → Option (Int32 × Mem)) (l1 : Int32) (l3 : Int32) (M : Mem) : Option (Int32 × Mem) :=
  if l1 ≤ l3 then
    some ((1 : Int32), M)
  else
    c2 (FX5_ofTask M l3 (8 : Int32)) fun r2 M4 =>
    c1 (FX5_count M4 (3 : Int32)) fun r5 =>
    if r5 = 0 then
      if r2 < 0 then
        FL_slacks_80 k2 l1 l3 M4
      else
        c2 (FL_canBeHeld M4 l1 l3 r2) fun r12 M14 =>
        if r12 = 0 then
          FL_slacks_80 k2 l1 l3 M14
        else
          if r2 = (5000 : Int32) then
            FL_slacks_76 k2 l1 l3 M14
          else
            c2 (FL_canBeHeld M14 l1 l3 (r2 + (1 : Int32))) fun r17 M19 =>
            if r17 = 0 then
              FL_slacks_76 k2 l1 l3 M19
            else
              FL_slacks_80 k2 l1 l3 M19
    else
      if r2 = 0 then
        FL_slacks_81 k2 l1 l3 (1 : Int32) M4
      else
        FL_slacks_81 k2 l1 l3 (0 : Int32) M4
set_option maxRecDepth 100000 in
set_option maxHeartbeats 4000000 in
theorem wL_slacks_2s {E : WE} {V : VT} {A : Nat → Prop} {H0 : Heap} (Cx : CX E RL cL_slacks 6 8 202) {r : Int32} {M' : Mem} (hret : RetI E V A H0 cL_slacks .boolean r M') {k2 : Int32 → Int32 → Mem → Option (Int32 × Mem)} (hk2 : ∀ {H : Heap} {locs : List Loc} {ls : Array Slot} {M : Mem} {l1 : Int32} {l3 : Int32}, Wd V A H0 M (eS E) H locs → lv_has ls 6 [(0, .ref (vA V 11 0)), (1, .int l1), (2, .ref (vA V 12 0)), (3, .int l3)] → k2 l1 l3 M = some (r, M') → Wq E H locs 2 ls []) {H : Heap} {locs : List Loc} {ls : Array Slot} {l1 : Int32} {l3 : Int32} {M : Mem} (hW : Wd V A H0 M (eS E) H locs) (hl : lv_has ls 6 [(0, .ref (vA V 11 0)), (1, .int l1), (2, .ref (vA V 12 0)), (3, .int l3)]) (hF : FL_slacks_2s k2 l1 l3 M = some (r, M')) : Wq E H locs 2 ls [] := by
  unfold FL_slacks_2s at hF
  refine q_iload_n Cx dL_slacks_2 rfl (lv_at hl 3 rfl) ?_
  refine q_iload_n Cx dL_slacks_3 rfl (lv_at hl 1 rfl) ?_
  refine q_icmp_ge (tgt := 96) Cx dL_slacks_4 (by decide) (fun c1 => ?_) (fun c1 => ?_)
  · have hF := (if_pos c1).symm.trans hF
    refine q_iconst (v := (1 : Int32)) Cx dL_slacks_96 (by decide) ?_
    obtain ⟨rfl, rfl⟩ := Prod.mk.inj (Option.some.inj hF)
    exact hret _ _ _ _ dL_slacks_97 (by rfl) hW
  · have hF := (if_neg c1).symm.trans hF
    refine q_aload_n Cx dL_slacks_7 rfl (lv_at hl 0 rfl) ?_
    refine q_iload_n Cx dL_slacks_8 rfl (lv_at hl 3 rfl) ?_
    refine q_bipush (v := (8 : Int32)) Cx dL_slacks_9 (by decide) ?_
    obtain ⟨r2, M4, e3, hF⟩ := c2_some hF
    refine q_callI (as := [.int l3, .int (8 : Int32)]) (rest := []) Cx (kX5_ofTask e3) okX5_ofTask ovX5_ofTask wd_273 ⟨rfl, rfl, by decide, by decide⟩ hW oX ic5 rfl hl.1 (Nat.le_of_ble_eq_true rfl) rfl dL_slacks_11 (fun H locs hW => ?_)
    refine q_istore (lv' := [(4, .int r2), (0, .ref (vA V 11 0)), (1, .int l1), (2, .ref (vA V 12 0)), (3, .int l3)]) Cx dL_slacks_14 hl (by decide) rfl (fun ls hl => ?_)
    refine q_aload_n Cx dL_slacks_16 rfl (lv_at hl 1 rfl) ?_
    refine q_iconst (v := (3 : Int32)) Cx dL_slacks_17 (by decide) ?_
    obtain ⟨r5, e6, hF⟩ := c1_some hF
    refine q_callI (as := [.int (3 : Int32)]) (rest := []) Cx (kX5_count e6) okX5_count ovX5_count wd_417 ⟨rfl, rfl, by decide, by decide⟩ hW oX ic5 rfl hl.1 (Nat.le_of_ble_eq_true rfl) rfl dL_slacks_18 (fun H locs hW => ?_)
    refine q_if_eq (tgt := 37) Cx dL_slacks_21 (by decide) (fun c7 => ?_) (fun c7 => ?_)
    · have hF := (if_pos c7).symm.trans hF
      refine q_iload Cx dL_slacks_37 (lv_at hl 0 rfl) ?_
      refine q_if_lt (tgt := 80) Cx dL_slacks_39 (by decide) (fun c8 => ?_) (fun c8 => ?_)
      · have hF := (if_pos c8).symm.trans hF
        exact wL_slacks_80 Cx hret hk2 hW (lv_sub hl [1, 2, 3, 4] rfl) hF
      · have hF := (if_neg c8).symm.trans hF
        refine q_aload_n Cx dL_slacks_42 rfl (lv_at hl 1 rfl) ?_
        refine q_iload_n Cx dL_slacks_43 rfl (lv_at hl 2 rfl) ?_
        refine q_iload_n Cx dL_slacks_44 rfl (lv_at hl 4 rfl) ?_
        refine q_iload Cx dL_slacks_45 (lv_at hl 0 rfl) ?_
        refine q_aload_n Cx dL_slacks_47 rfl (lv_at hl 3 rfl) ?_
        obtain ⟨r12, M14, e13, hF⟩ := c2_some hF
        refine q_callSI (as := [.ref (vA V 11 0), .int l1, .int l3, .int r2, .ref (vA V 12 0)]) (rest := []) Cx (kL_canBeHeld e13) okL_canBeHeld osL_canBeHeld rfl wd_445 ⟨rfl, rfl, by decide, by decide⟩ hW rfl hl.1 (Nat.le_of_ble_eq_true rfl) rfl dL_slacks_48 (fun H locs hW => ?_)
        refine q_if_eq (tgt := 80) Cx dL_slacks_51 (by decide) (fun c15 => ?_) (fun c15 => ?_)
        · have hF := (if_pos c15).symm.trans hF
          exact wL_slacks_80 Cx hret hk2 hW (lv_sub hl [1, 2, 3, 4] rfl) hF
        · have hF := (if_neg c15).symm.trans hF
          refine q_iload Cx dL_slacks_54 (lv_at hl 0 rfl) ?_
          refine q_sipush (v := (5000 : Int32)) Cx dL_slacks_56 (by decide) ?_
          refine q_icmp_eq (tgt := 76) Cx dL_slacks_59 (by decide) (fun c16 => ?_) (fun c16 => ?_)
          · have hF := (if_pos c16).symm.trans hF
            exact wL_slacks_76 Cx hret hk2 hW (lv_sub hl [1, 2, 3, 4] rfl) hF
          · have hF := (if_neg c16).symm.trans hF
            refine q_aload_n Cx dL_slacks_62 rfl (lv_at hl 1 rfl) ?_
            refine q_iload_n Cx dL_slacks_63 rfl (lv_at hl 2 rfl) ?_
            refine q_iload_n Cx dL_slacks_64 rfl (lv_at hl 4 rfl) ?_
            refine q_iload Cx dL_slacks_65 (lv_at hl 0 rfl) ?_
            refine q_iconst (v := (1 : Int32)) Cx dL_slacks_67 (by decide) ?_
            refine q_iadd Cx dL_slacks_68 ?_
            refine q_aload_n Cx dL_slacks_69 rfl (lv_at hl 3 rfl) ?_
            obtain ⟨r17, M19, e18, hF⟩ := c2_some hF
            refine q_callSI (as := [.ref (vA V 11 0), .int l1, .int l3, .int (r2 + (1 : Int32)), .ref (vA V 12 0)]) (rest := []) Cx (kL_canBeHeld e18) okL_canBeHeld osL_canBeHeld rfl wd_445 ⟨rfl, rfl, by decide, by decide⟩ hW rfl hl.1 (Nat.le_of_ble_eq_true rfl) rfl dL_slacks_70 (fun H locs hW => ?_)
            refine q_if_ne (tgt := 80) Cx dL_slacks_73 (by decide) (fun c20 => ?_) (fun c20 => ?_)
            · have hF := (if_neg c20).symm.trans hF
              exact wL_slacks_80 Cx hret hk2 hW (lv_sub hl [1, 2, 3, 4] rfl) hF
            · have hF := (if_pos c20).symm.trans hF
              exact wL_slacks_76 Cx hret hk2 hW (lv_sub hl [1, 2, 3, 4] rfl) hF
    · have hF := (if_neg c7).symm.trans hF
      refine q_iload Cx dL_slacks_24 (lv_at hl 0 rfl) ?_
      refine q_if_ne (tgt := 33) Cx dL_slacks_26 (by decide) (fun c21 => ?_) (fun c21 => ?_)
      · have hF := (if_neg c21).symm.trans hF
        refine q_iconst (v := (0 : Int32)) Cx dL_slacks_33 (by decide) ?_
        refine q_goto (tgt := 81) Cx dL_slacks_34 (by decide) ?_
        exact wL_slacks_81 Cx hret hk2 hW (lv_sub hl [1, 2, 3, 4] rfl) hF
      · have hF := (if_pos c21).symm.trans hF
        refine q_iconst (v := (1 : Int32)) Cx dL_slacks_29 (by decide) ?_
        refine q_goto (tgt := 81) Cx dL_slacks_30 (by decide) ?_
        exact wL_slacks_81 Cx hret hk2 hW (lv_sub hl [1, 2, 3, 4] rfl) hF
def FL_slacks_2 : Nat → Int32 → Int32 → Mem → Option (Int32 × Mem)
  | 0 => fun _ _ _ => none
  | n + 1 => FL_slacks_2s (FL_slacks_2 n)
set_option maxRecDepth 100000 in
theorem wL_slacks_2 {E : WE} {V : VT} {A : Nat → Prop} {H0 : Heap} (Cx : CX E RL cL_slacks 6 8 202) {r : Int32} {M' : Mem} (hret : RetI E V A H0 cL_slacks .boolean r M') : ∀ (n : Nat) {H : Heap} {locs : List Loc} {ls : Array Slot} {l1 : Int32} {l3 : Int32} {M : Mem}, Wd V A H0 M (eS E) H locs → lv_has ls 6 [(0, .ref (vA V 11 0)), (1, .int l1), (2, .ref (vA V 12 0)), (3, .int l3)] → FL_slacks_2 n l1 l3 M = some (r, M') → Wq E H locs 2 ls [] := by
  intro n
  induction n with
  | zero => intro _ _ _ _ _ _ hW hl hF; cases hF
  | succ n ih => intro _ _ _ _ _ _ hW hl hF; exact wL_slacks_2s Cx hret ih hW hl hF
def FL_slacks (M : Mem) (l1 : Int32) : Option (Int32 × Mem) :=
  FL_slacks_2 fu l1 (0 : Int32) M
set_option maxRecDepth 100000 in
set_option maxHeartbeats 4000000 in
theorem wL_slacks {E : WE} {V : VT} {A : Nat → Prop} {H0 : Heap} (Cx : CX E RL cL_slacks 6 8 202) {r : Int32} {M' : Mem} (hret : RetI E V A H0 cL_slacks .boolean r M') {H : Heap} {locs : List Loc} {ls : Array Slot} {l1 : Int32} {M : Mem} (hW : Wd V A H0 M (eS E) H locs) (hl : lv_has ls 6 [(0, .ref (vA V 11 0)), (1, .int l1), (2, .ref (vA V 12 0))]) (hF : FL_slacks M l1 = some (r, M')) : Wq E H locs 0 ls [] := by
  unfold FL_slacks at hF
  refine q_iconst (v := (0 : Int32)) Cx dL_slacks_0 (by decide) ?_
  refine q_istore_n (lv' := [(3, .int (0 : Int32)), (0, .ref (vA V 11 0)), (1, .int l1), (2, .ref (vA V 12 0))]) Cx dL_slacks_1 rfl hl (by decide) rfl (fun ls hl => ?_)
  exact wL_slacks_2 Cx hret fu hW (lv_sub hl [1, 2, 3, 0] rfl) hF
set_option maxRecDepth 100000 in
theorem kL_slacks {l : Launch} {V : VT} {M : Mem} {l1 : Int32} {r : Int32} {M' : Mem} (hF : FL_slacks M l1 = some (r, M')) : MetI l V yL_slacks cL_slacks 6 .boolean ({ frames := 8, cells := 0, slots := 0, locals := 202 } : Room) [.ref (vA V 11 0), .int l1, .ref (vA V 12 0)] r M M' := metI_of (by decide) (Nat.le_of_ble_eq_true rfl) (fun E H0 _ Cx hret H locs ls hW hl => wL_slacks Cx hret hW hl hF)
theorem dL_chain_0 : decode cL_chain 0 = .ok (.iconst 0, 1) := by decide +kernel
theorem dL_chain_1 : decode cL_chain 1 = .ok (.istore_n 2, 1) := by decide +kernel
theorem dL_chain_2 : decode cL_chain 2 = .ok (.iconst 0, 1) := by decide +kernel
theorem dL_chain_3 : decode cL_chain 3 = .ok (.istore_n 3, 1) := by decide +kernel
theorem dL_chain_4 : decode cL_chain 4 = .ok (.iload_n 3, 1) := by decide +kernel
theorem dL_chain_5 : decode cL_chain 5 = .ok (.iload_n 1, 1) := by decide +kernel
theorem dL_chain_6 : decode cL_chain 6 = .ok (.if_icmp .ge 33, 3) := by decide +kernel
theorem dL_chain_9 : decode cL_chain 9 = .ok (.iload_n 2, 1) := by decide +kernel
theorem dL_chain_10 : decode cL_chain 10 = .ok (.aload_n 0, 1) := by decide +kernel
theorem dL_chain_11 : decode cL_chain 11 = .ok (.iload_n 3, 1) := by decide +kernel
theorem dL_chain_12 : decode cL_chain 12 = .ok (.iconst 5, 1) := by decide +kernel
theorem dL_chain_13 : decode cL_chain 13 = .ok (.invokevirtual 26, 3) := by decide +kernel
theorem dL_chain_16 : decode cL_chain 16 = .ok (.aload_n 0, 1) := by decide +kernel
theorem dL_chain_17 : decode cL_chain 17 = .ok (.iconst 5, 1) := by decide +kernel
theorem dL_chain_18 : decode cL_chain 18 = .ok (.invokevirtual 44, 3) := by decide +kernel
theorem dL_chain_21 : decode cL_chain 21 = .ok (.if_icmp .ne 9, 3) := by decide +kernel
theorem dL_chain_24 : decode cL_chain 24 = .ok (.iconst 1, 1) := by decide +kernel
theorem dL_chain_25 : decode cL_chain 25 = .ok (.iload_n 3, 1) := by decide +kernel
theorem dL_chain_26 : decode cL_chain 26 = .ok (.ishl, 1) := by decide +kernel
theorem dL_chain_27 : decode cL_chain 27 = .ok (.goto 4, 3) := by decide +kernel
theorem dL_chain_30 : decode cL_chain 30 = .ok (.iconst 0, 1) := by decide +kernel
theorem dL_chain_31 : decode cL_chain 31 = .ok (.ior, 1) := by decide +kernel
theorem dL_chain_32 : decode cL_chain 32 = .ok (.istore_n 2, 1) := by decide +kernel
theorem dL_chain_33 : decode cL_chain 33 = .ok (.iinc 3 1, 3) := by decide +kernel
theorem dL_chain_36 : decode cL_chain 36 = .ok (.goto (-32), 3) := by decide +kernel
theorem dL_chain_39 : decode cL_chain 39 = .ok (.iconst 0, 1) := by decide +kernel
theorem dL_chain_40 : decode cL_chain 40 = .ok (.istore_n 3, 1) := by decide +kernel
theorem dL_chain_41 : decode cL_chain 41 = .ok (.iload_n 3, 1) := by decide +kernel
theorem dL_chain_42 : decode cL_chain 42 = .ok (.iload_n 1, 1) := by decide +kernel
theorem dL_chain_43 : decode cL_chain 43 = .ok (.if_icmp .ge 134, 3) := by decide +kernel
theorem dL_chain_46 : decode cL_chain 46 = .ok (.iconst 0, 1) := by decide +kernel
theorem dL_chain_47 : decode cL_chain 47 = .ok (.istore 4, 2) := by decide +kernel
theorem dL_chain_49 : decode cL_chain 49 = .ok (.iload 4, 2) := by decide +kernel
theorem dL_chain_51 : decode cL_chain 51 = .ok (.iload_n 1, 1) := by decide +kernel
theorem dL_chain_52 : decode cL_chain 52 = .ok (.if_icmp .ge 119, 3) := by decide +kernel
theorem dL_chain_55 : decode cL_chain 55 = .ok (.aload_n 0, 1) := by decide +kernel
theorem dL_chain_56 : decode cL_chain 56 = .ok (.iload 4, 2) := by decide +kernel
theorem dL_chain_58 : decode cL_chain 58 = .ok (.invokestatic 36, 3) := by decide +kernel
theorem dL_chain_61 : decode cL_chain 61 = .ok (.istore 5, 2) := by decide +kernel
theorem dL_chain_63 : decode cL_chain 63 = .ok (.aload_n 0, 1) := by decide +kernel
theorem dL_chain_64 : decode cL_chain 64 = .ok (.iload 4, 2) := by decide +kernel
theorem dL_chain_66 : decode cL_chain 66 = .ok (.iconst 2, 1) := by decide +kernel
theorem dL_chain_67 : decode cL_chain 67 = .ok (.invokevirtual 26, 3) := by decide +kernel
theorem dL_chain_70 : decode cL_chain 70 = .ok (.istore 6, 2) := by decide +kernel
theorem dL_chain_72 : decode cL_chain 72 = .ok (.iload_n 2, 1) := by decide +kernel
theorem dL_chain_73 : decode cL_chain 73 = .ok (.iload 4, 2) := by decide +kernel
theorem dL_chain_75 : decode cL_chain 75 = .ok (.ishr, 1) := by decide +kernel
theorem dL_chain_76 : decode cL_chain 76 = .ok (.iconst 1, 1) := by decide +kernel
theorem dL_chain_77 : decode cL_chain 77 = .ok (.iand, 1) := by decide +kernel
theorem dL_chain_78 : decode cL_chain 78 = .ok (.iconst 1, 1) := by decide +kernel
theorem dL_chain_79 : decode cL_chain 79 = .ok (.if_icmp .ne 7, 3) := by decide +kernel
theorem dL_chain_82 : decode cL_chain 82 = .ok (.iconst 1, 1) := by decide +kernel
theorem dL_chain_83 : decode cL_chain 83 = .ok (.goto 4, 3) := by decide +kernel
theorem dL_chain_86 : decode cL_chain 86 = .ok (.iconst 0, 1) := by decide +kernel
theorem dL_chain_87 : decode cL_chain 87 = .ok (.istore 7, 2) := by decide +kernel
theorem dL_chain_89 : decode cL_chain 89 = .ok (.iload_n 2, 1) := by decide +kernel
theorem dL_chain_90 : decode cL_chain 90 = .ok (.iload 7, 2) := by decide +kernel
theorem dL_chain_92 : decode cL_chain 92 = .ok (.ifCond .eq 32, 3) := by decide +kernel
theorem dL_chain_95 : decode cL_chain 95 = .ok (.iload 5, 2) := by decide +kernel
theorem dL_chain_97 : decode cL_chain 97 = .ok (.ifCond .lt 27, 3) := by decide +kernel
theorem dL_chain_100 : decode cL_chain 100 = .ok (.aload_n 0, 1) := by decide +kernel
theorem dL_chain_101 : decode cL_chain 101 = .ok (.iload 5, 2) := by decide +kernel
theorem dL_chain_103 : decode cL_chain 103 = .ok (.iconst 5, 1) := by decide +kernel
theorem dL_chain_104 : decode cL_chain 104 = .ok (.invokevirtual 26, 3) := by decide +kernel
theorem dL_chain_107 : decode cL_chain 107 = .ok (.aload_n 0, 1) := by decide +kernel
theorem dL_chain_108 : decode cL_chain 108 = .ok (.iload 4, 2) := by decide +kernel
theorem dL_chain_110 : decode cL_chain 110 = .ok (.iconst 4, 1) := by decide +kernel
theorem dL_chain_111 : decode cL_chain 111 = .ok (.invokevirtual 26, 3) := by decide +kernel
theorem dL_chain_114 : decode cL_chain 114 = .ok (.if_icmp .ne 10, 3) := by decide +kernel
theorem dL_chain_117 : decode cL_chain 117 = .ok (.iconst 1, 1) := by decide +kernel
theorem dL_chain_118 : decode cL_chain 118 = .ok (.iload 5, 2) := by decide +kernel
theorem dL_chain_120 : decode cL_chain 120 = .ok (.ishl, 1) := by decide +kernel
theorem dL_chain_121 : decode cL_chain 121 = .ok (.goto 4, 3) := by decide +kernel
theorem dL_chain_124 : decode cL_chain 124 = .ok (.iconst 0, 1) := by decide +kernel
theorem dL_chain_125 : decode cL_chain 125 = .ok (.ior, 1) := by decide +kernel
theorem dL_chain_126 : decode cL_chain 126 = .ok (.istore_n 2, 1) := by decide +kernel
theorem dL_chain_127 : decode cL_chain 127 = .ok (.iload_n 2, 1) := by decide +kernel
theorem dL_chain_128 : decode cL_chain 128 = .ok (.iload 7, 2) := by decide +kernel
theorem dL_chain_130 : decode cL_chain 130 = .ok (.ifCond .eq 32, 3) := by decide +kernel
theorem dL_chain_133 : decode cL_chain 133 = .ok (.iload 6, 2) := by decide +kernel
theorem dL_chain_135 : decode cL_chain 135 = .ok (.ifCond .lt 27, 3) := by decide +kernel
theorem dL_chain_138 : decode cL_chain 138 = .ok (.aload_n 0, 1) := by decide +kernel
theorem dL_chain_139 : decode cL_chain 139 = .ok (.iload 6, 2) := by decide +kernel
theorem dL_chain_141 : decode cL_chain 141 = .ok (.iconst 5, 1) := by decide +kernel
theorem dL_chain_142 : decode cL_chain 142 = .ok (.invokevirtual 26, 3) := by decide +kernel
theorem dL_chain_145 : decode cL_chain 145 = .ok (.aload_n 0, 1) := by decide +kernel
theorem dL_chain_146 : decode cL_chain 146 = .ok (.iload 4, 2) := by decide +kernel
theorem dL_chain_148 : decode cL_chain 148 = .ok (.iconst 4, 1) := by decide +kernel
theorem dL_chain_149 : decode cL_chain 149 = .ok (.invokevirtual 26, 3) := by decide +kernel
theorem dL_chain_152 : decode cL_chain 152 = .ok (.if_icmp .ne 10, 3) := by decide +kernel
theorem dL_chain_155 : decode cL_chain 155 = .ok (.iconst 1, 1) := by decide +kernel
theorem dL_chain_156 : decode cL_chain 156 = .ok (.iload 6, 2) := by decide +kernel
theorem dL_chain_158 : decode cL_chain 158 = .ok (.ishl, 1) := by decide +kernel
theorem dL_chain_159 : decode cL_chain 159 = .ok (.goto 4, 3) := by decide +kernel
theorem dL_chain_162 : decode cL_chain 162 = .ok (.iconst 0, 1) := by decide +kernel
theorem dL_chain_163 : decode cL_chain 163 = .ok (.ior, 1) := by decide +kernel
theorem dL_chain_164 : decode cL_chain 164 = .ok (.istore_n 2, 1) := by decide +kernel
theorem dL_chain_165 : decode cL_chain 165 = .ok (.iinc 4 1, 3) := by decide +kernel
theorem dL_chain_168 : decode cL_chain 168 = .ok (.goto (-119), 3) := by decide +kernel
theorem dL_chain_171 : decode cL_chain 171 = .ok (.iinc 3 1, 3) := by decide +kernel
theorem dL_chain_174 : decode cL_chain 174 = .ok (.goto (-133), 3) := by decide +kernel
theorem dL_chain_177 : decode cL_chain 177 = .ok (.aload_n 0, 1) := by decide +kernel
theorem dL_chain_178 : decode cL_chain 178 = .ok (.invokevirtual 52, 3) := by decide +kernel
theorem dL_chain_181 : decode cL_chain 181 = .ok (.iload_n 2, 1) := by decide +kernel
theorem dL_chain_182 : decode cL_chain 182 = .ok (.if_icmp .ne 7, 3) := by decide +kernel
theorem dL_chain_185 : decode cL_chain 185 = .ok (.iconst 1, 1) := by decide +kernel
theorem dL_chain_186 : decode cL_chain 186 = .ok (.goto 4, 3) := by decide +kernel
theorem dL_chain_189 : decode cL_chain 189 = .ok (.iconst 0, 1) := by decide +kernel
theorem dL_chain_190 : decode cL_chain 190 = .ok (.ireturn, 1) := by decide +kernel
theorem okL_chain : CalOK yL_chain cL_chain 8 (some .boolean) 2 := ⟨wd_15, wd_450, by decide +kernel⟩
theorem osL_chain : Cond.static yL_chain ∈ lw_gd := wd_449
def FL_chain_163 (k41 : Int32 → Int32 → Int32 → Mem → Option (Int32 × Mem)) (k49 : Int32 → Int32 → Int32 → Int32 → Mem → Option (Int32 × Mem)) (l1 : Int32) (l3 : Int32) (l4 : Int32) (s0 : Int32) (s1 : Int32) (M : Mem) : Option (Int32 × Mem) :=
  lt1 (s1 ||| s0) fun x20 =>
  lt1 (l4 + (1 : Int32)) fun x22 =>
  k49 l1 x20 l3 x22 M
set_option maxRecDepth 100000 in
set_option maxHeartbeats 4000000 in
theorem wL_chain_163 {E : WE} {V : VT} {A : Nat → Prop} {H0 : Heap} (Cx : CX E RL cL_chain 8 7 173) {r : Int32} {M' : Mem} (hret : RetI E V A H0 cL_chain .boolean r M') {k41 : Int32 → Int32 → Int32 → Mem → Option (Int32 × Mem)} (hk41 : ∀ {H : Heap} {locs : List Loc} {ls : Array Slot} {M : Mem} {l1 : Int32} {l2 : Int32} {l3 : Int32}, Wd V A H0 M (eS E) H locs → lv_has ls 8 [(0, .ref (vA V 11 0)), (1, .int l1), (2, .int l2), (3, .int l3)] → k41 l1 l2 l3 M = some (r, M') → Wq E H locs 41 ls []) {k49 : Int32 → Int32 → Int32 → Int32 → Mem → Option (Int32 × Mem)} (hk49 : ∀ {H : Heap} {locs : List Loc} {ls : Array Slot} {M : Mem} {l1 : Int32} {l2 : Int32} {l3 : Int32} {l4 : Int32}, Wd V A H0 M (eS E) H locs → lv_has ls 8 [(0, .ref (vA V 11 0)), (1, .int l1), (2, .int l2), (3, .int l3), (4, .int l4)] → k49 l1 l2 l3 l4 M = some (r, M') → Wq E H locs 49 ls []) {H : Heap} {locs : List Loc} {ls : Array Slot} {l1 : Int32} {l3 : Int32} {l4 : Int32} {s0 : Int32} {s1 : Int32} {M : Mem} (hW : Wd V A H0 M (eS E) H locs) (hl : lv_has ls 8 [(0, .ref (vA V 11 0)), (1, .int l1), (3, .int l3), (4, .int l4)]) (hF : FL_chain_163 k41 k49 l1 l3 l4 s0 s1 M = some (r, M')) : Wq E H locs 163 ls [.int s0, .int s1] := by
  unfold FL_chain_163 at hF
  refine q_ior Cx dL_chain_163 ?_
  obtain ⟨x20, e21, hF⟩ := lt1_some hF
  refine q_topi e21 ?_
  refine q_istore_n (lv' := [(2, .int x20), (0, .ref (vA V 11 0)), (1, .int l1), (3, .int l3), (4, .int l4)]) Cx dL_chain_164 rfl hl (by decide) rfl (fun ls hl => ?_)
  obtain ⟨x22, e23, hF⟩ := lt1_some hF
  refine q_iinc (k := 4) (v := x22) (lv' := [(4, .int x22), (2, .int x20), (0, .ref (vA V 11 0)), (1, .int l1), (3, .int l3)]) Cx dL_chain_165 hl rfl e23.symm (by decide) rfl (fun ls hl => ?_)
  refine q_goto (tgt := 49) Cx dL_chain_168 (by decide) ?_
  exact hk49 hW (lv_sub hl [2, 3, 1, 4, 0] rfl) hF
def FL_chain_162 (k41 : Int32 → Int32 → Int32 → Mem → Option (Int32 × Mem)) (k49 : Int32 → Int32 → Int32 → Int32 → Mem → Option (Int32 × Mem)) (l1 : Int32) (l3 : Int32) (l4 : Int32) (s0 : Int32) (M : Mem) : Option (Int32 × Mem) :=
  FL_chain_163 k41 k49 l1 l3 l4 (0 : Int32) s0 M
set_option maxRecDepth 100000 in
set_option maxHeartbeats 4000000 in
theorem wL_chain_162 {E : WE} {V : VT} {A : Nat → Prop} {H0 : Heap} (Cx : CX E RL cL_chain 8 7 173) {r : Int32} {M' : Mem} (hret : RetI E V A H0 cL_chain .boolean r M') {k41 : Int32 → Int32 → Int32 → Mem → Option (Int32 × Mem)} (hk41 : ∀ {H : Heap} {locs : List Loc} {ls : Array Slot} {M : Mem} {l1 : Int32} {l2 : Int32} {l3 : Int32}, Wd V A H0 M (eS E) H locs → lv_has ls 8 [(0, .ref (vA V 11 0)), (1, .int l1), (2, .int l2), (3, .int l3)] → k41 l1 l2 l3 M = some (r, M') → Wq E H locs 41 ls []) {k49 : Int32 → Int32 → Int32 → Int32 → Mem → Option (Int32 × Mem)} (hk49 : ∀ {H : Heap} {locs : List Loc} {ls : Array Slot} {M : Mem} {l1 : Int32} {l2 : Int32} {l3 : Int32} {l4 : Int32}, Wd V A H0 M (eS E) H locs → lv_has ls 8 [(0, .ref (vA V 11 0)), (1, .int l1), (2, .int l2), (3, .int l3), (4, .int l4)] → k49 l1 l2 l3 l4 M = some (r, M') → Wq E H locs 49 ls []) {H : Heap} {locs : List Loc} {ls : Array Slot} {l1 : Int32} {l3 : Int32} {l4 : Int32} {s0 : Int32} {M : Mem} (hW : Wd V A H0 M (eS E) H locs) (hl : lv_has ls 8 [(0, .ref (vA V 11 0)), (1, .int l1), (3, .int l3), (4, .int l4)]) (hF : FL_chain_162 k41 k49 l1 l3 l4 s0 M = some (r, M')) : Wq E H locs 162 ls [.int s0] := by
  unfold FL_chain_162 at hF
  refine q_iconst (v := (0 : Int32)) Cx dL_chain_162 (by decide) ?_
  exact wL_chain_163 Cx hret hk41 hk49 hW (lv_sub hl [0, 1, 2, 3] rfl) hF
def FL_chain_125 (k41 : Int32 → Int32 → Int32 → Mem → Option (Int32 × Mem)) (k49 : Int32 → Int32 → Int32 → Int32 → Mem → Option (Int32 × Mem)) (l1 : Int32) (l3 : Int32) (l4 : Int32) (l6 : Int32) (l7 : Int32) (s0 : Int32) (s1 : Int32) (M : Mem) : Option (Int32 × Mem) :=
  lt1 (s1 ||| s0) fun x17 =>
  if l7 = 0 then
    FL_chain_162 k41 k49 l1 l3 l4 x17 M
  else
    if l6 < 0 then
      FL_chain_162 k41 k49 l1 l3 l4 x17 M
    else
      c2 (FX5_ofTask M l6 (5 : Int32)) fun r25 M27 =>
      c2 (FX5_ofTask M27 l4 (4 : Int32)) fun r28 M30 =>
      if r25 = r28 then
        FL_chain_163 k41 k49 l1 l3 l4 ((1 : Int32) <<< (l6 &&& 31)) x17 M30
      else
        FL_chain_162 k41 k49 l1 l3 l4 x17 M30
set_option maxRecDepth 100000 in
set_option maxHeartbeats 4000000 in
theorem wL_chain_125 {E : WE} {V : VT} {A : Nat → Prop} {H0 : Heap} (Cx : CX E RL cL_chain 8 7 173) {r : Int32} {M' : Mem} (hret : RetI E V A H0 cL_chain .boolean r M') {k41 : Int32 → Int32 → Int32 → Mem → Option (Int32 × Mem)} (hk41 : ∀ {H : Heap} {locs : List Loc} {ls : Array Slot} {M : Mem} {l1 : Int32} {l2 : Int32} {l3 : Int32}, Wd V A H0 M (eS E) H locs → lv_has ls 8 [(0, .ref (vA V 11 0)), (1, .int l1), (2, .int l2), (3, .int l3)] → k41 l1 l2 l3 M = some (r, M') → Wq E H locs 41 ls []) {k49 : Int32 → Int32 → Int32 → Int32 → Mem → Option (Int32 × Mem)} (hk49 : ∀ {H : Heap} {locs : List Loc} {ls : Array Slot} {M : Mem} {l1 : Int32} {l2 : Int32} {l3 : Int32} {l4 : Int32}, Wd V A H0 M (eS E) H locs → lv_has ls 8 [(0, .ref (vA V 11 0)), (1, .int l1), (2, .int l2), (3, .int l3), (4, .int l4)] → k49 l1 l2 l3 l4 M = some (r, M') → Wq E H locs 49 ls []) {H : Heap} {locs : List Loc} {ls : Array Slot} {l1 : Int32} {l3 : Int32} {l4 : Int32} {l6 : Int32} {l7 : Int32} {s0 : Int32} {s1 : Int32} {M : Mem} (hW : Wd V A H0 M (eS E) H locs) (hl : lv_has ls 8 [(0, .ref (vA V 11 0)), (1, .int l1), (3, .int l3), (4, .int l4), (6, .int l6), (7, .int l7)]) (hF : FL_chain_125 k41 k49 l1 l3 l4 l6 l7 s0 s1 M = some (r, M')) : Wq E H locs 125 ls [.int s0, .int s1] := by
  unfold FL_chain_125 at hF
  refine q_ior Cx dL_chain_125 ?_
  obtain ⟨x17, e18, hF⟩ := lt1_some hF
  refine q_topi e18 ?_
  refine q_istore_n (lv' := [(2, .int x17), (0, .ref (vA V 11 0)), (1, .int l1), (3, .int l3), (4, .int l4), (6, .int l6), (7, .int l7)]) Cx dL_chain_126 rfl hl (by decide) rfl (fun ls hl => ?_)
  refine q_iload_n Cx dL_chain_127 rfl (lv_at hl 0 rfl) ?_
  refine q_iload Cx dL_chain_128 (lv_at hl 6 rfl) ?_
  refine q_if_eq (tgt := 162) Cx dL_chain_130 (by decide) (fun c19 => ?_) (fun c19 => ?_)
  · have hF := (if_pos c19).symm.trans hF
    exact wL_chain_162 Cx hret hk41 hk49 hW (lv_sub hl [1, 2, 3, 4] rfl) hF
  · have hF := (if_neg c19).symm.trans hF
    refine q_iload Cx dL_chain_133 (lv_at hl 5 rfl) ?_
    refine q_if_lt (tgt := 162) Cx dL_chain_135 (by decide) (fun c24 => ?_) (fun c24 => ?_)
    · have hF := (if_pos c24).symm.trans hF
      exact wL_chain_162 Cx hret hk41 hk49 hW (lv_sub hl [1, 2, 3, 4] rfl) hF
    · have hF := (if_neg c24).symm.trans hF
      refine q_aload_n Cx dL_chain_138 rfl (lv_at hl 1 rfl) ?_
      refine q_iload Cx dL_chain_139 (lv_at hl 5 rfl) ?_
      refine q_iconst (v := (5 : Int32)) Cx dL_chain_141 (by decide) ?_
      obtain ⟨r25, M27, e26, hF⟩ := c2_some hF
      refine q_callI (as := [.int l6, .int (5 : Int32)]) (rest := [.int x17]) Cx (kX5_ofTask e26) okX5_ofTask ovX5_ofTask wd_273 ⟨rfl, rfl, by decide, by decide⟩ hW oX ic5 rfl hl.1 (Nat.le_of_ble_eq_true rfl) rfl dL_chain_142 (fun H locs hW => ?_)
      refine q_aload_n Cx dL_chain_145 rfl (lv_at hl 1 rfl) ?_
      refine q_iload Cx dL_chain_146 (lv_at hl 4 rfl) ?_
      refine q_iconst (v := (4 : Int32)) Cx dL_chain_148 (by decide) ?_
      obtain ⟨r28, M30, e29, hF⟩ := c2_some hF
      refine q_callI (as := [.int l4, .int (4 : Int32)]) (rest := [.int r25, .int x17]) Cx (kX5_ofTask e29) okX5_ofTask ovX5_ofTask wd_273 ⟨rfl, rfl, by decide, by decide⟩ hW oX ic5 rfl hl.1 (Nat.le_of_ble_eq_true rfl) rfl dL_chain_149 (fun H locs hW => ?_)
      refine q_icmp_ne (tgt := 162) Cx dL_chain_152 (by decide) (fun c31 => ?_) (fun c31 => ?_)
      · have hF := (if_neg c31).symm.trans hF
        exact wL_chain_162 Cx hret hk41 hk49 hW (lv_sub hl [1, 2, 3, 4] rfl) hF
      · have hF := (if_pos c31).symm.trans hF
        refine q_iconst (v := (1 : Int32)) Cx dL_chain_155 (by decide) ?_
        refine q_iload Cx dL_chain_156 (lv_at hl 5 rfl) ?_
        refine q_ishl Cx dL_chain_158 ?_
        refine q_goto (tgt := 163) Cx dL_chain_159 (by decide) ?_
        exact wL_chain_163 Cx hret hk41 hk49 hW (lv_sub hl [1, 2, 3, 4] rfl) hF
def FL_chain_124 (k41 : Int32 → Int32 → Int32 → Mem → Option (Int32 × Mem)) (k49 : Int32 → Int32 → Int32 → Int32 → Mem → Option (Int32 × Mem)) (l1 : Int32) (l3 : Int32) (l4 : Int32) (l6 : Int32) (l7 : Int32) (s0 : Int32) (M : Mem) : Option (Int32 × Mem) :=
  FL_chain_125 k41 k49 l1 l3 l4 l6 l7 (0 : Int32) s0 M
set_option maxRecDepth 100000 in
set_option maxHeartbeats 4000000 in
theorem wL_chain_124 {E : WE} {V : VT} {A : Nat → Prop} {H0 : Heap} (Cx : CX E RL cL_chain 8 7 173) {r : Int32} {M' : Mem} (hret : RetI E V A H0 cL_chain .boolean r M') {k41 : Int32 → Int32 → Int32 → Mem → Option (Int32 × Mem)} (hk41 : ∀ {H : Heap} {locs : List Loc} {ls : Array Slot} {M : Mem} {l1 : Int32} {l2 : Int32} {l3 : Int32}, Wd V A H0 M (eS E) H locs → lv_has ls 8 [(0, .ref (vA V 11 0)), (1, .int l1), (2, .int l2), (3, .int l3)] → k41 l1 l2 l3 M = some (r, M') → Wq E H locs 41 ls []) {k49 : Int32 → Int32 → Int32 → Int32 → Mem → Option (Int32 × Mem)} (hk49 : ∀ {H : Heap} {locs : List Loc} {ls : Array Slot} {M : Mem} {l1 : Int32} {l2 : Int32} {l3 : Int32} {l4 : Int32}, Wd V A H0 M (eS E) H locs → lv_has ls 8 [(0, .ref (vA V 11 0)), (1, .int l1), (2, .int l2), (3, .int l3), (4, .int l4)] → k49 l1 l2 l3 l4 M = some (r, M') → Wq E H locs 49 ls []) {H : Heap} {locs : List Loc} {ls : Array Slot} {l1 : Int32} {l3 : Int32} {l4 : Int32} {l6 : Int32} {l7 : Int32} {s0 : Int32} {M : Mem} (hW : Wd V A H0 M (eS E) H locs) (hl : lv_has ls 8 [(0, .ref (vA V 11 0)), (1, .int l1), (3, .int l3), (4, .int l4), (6, .int l6), (7, .int l7)]) (hF : FL_chain_124 k41 k49 l1 l3 l4 l6 l7 s0 M = some (r, M')) : Wq E H locs 124 ls [.int s0] := by
  unfold FL_chain_124 at hF
  refine q_iconst (v := (0 : Int32)) Cx dL_chain_124 (by decide) ?_
  exact wL_chain_125 Cx hret hk41 hk49 hW (lv_sub hl [0, 1, 2, 3, 4, 5] rfl) hF
def FL_chain_87 (k41 : Int32 → Int32 → Int32 → Mem → Option (Int32 × Mem)) (k49 : Int32 → Int32 → Int32 → Int32 → Mem → Option (Int32 × Mem)) (l1 : Int32) (l2 : Int32) (l3 : Int32) (l4 : Int32) (l5 : Int32) (l6 : Int32) (s0 : Int32) (M : Mem) : Option (Int32 × Mem) :=
  if s0 = 0 then
    FL_chain_124 k41 k49 l1 l3 l4 l6 s0 l2 M
  else
    if l5 < 0 then
      FL_chain_124 k41 k49 l1 l3 l4 l6 s0 l2 M
    else
      c2 (FX5_ofTask M l5 (5 : Int32)) fun r33 M35 =>
      c2 (FX5_ofTask M35 l4 (4 : Int32)) fun r36 M38 =>
      if r33 = r36 then
        FL_chain_125 k41 k49 l1 l3 l4 l6 s0 ((1 : Int32) <<< (l5 &&& 31)) l2 M38
      else
        FL_chain_124 k41 k49 l1 l3 l4 l6 s0 l2 M38
set_option maxRecDepth 100000 in
set_option maxHeartbeats 4000000 in
theorem wL_chain_87 {E : WE} {V : VT} {A : Nat → Prop} {H0 : Heap} (Cx : CX E RL cL_chain 8 7 173) {r : Int32} {M' : Mem} (hret : RetI E V A H0 cL_chain .boolean r M') {k41 : Int32 → Int32 → Int32 → Mem → Option (Int32 × Mem)} (hk41 : ∀ {H : Heap} {locs : List Loc} {ls : Array Slot} {M : Mem} {l1 : Int32} {l2 : Int32} {l3 : Int32}, Wd V A H0 M (eS E) H locs → lv_has ls 8 [(0, .ref (vA V 11 0)), (1, .int l1), (2, .int l2), (3, .int l3)] → k41 l1 l2 l3 M = some (r, M') → Wq E H locs 41 ls []) {k49 : Int32 → Int32 → Int32 → Int32 → Mem → Option (Int32 × Mem)} (hk49 : ∀ {H : Heap} {locs : List Loc} {ls : Array Slot} {M : Mem} {l1 : Int32} {l2 : Int32} {l3 : Int32} {l4 : Int32}, Wd V A H0 M (eS E) H locs → lv_has ls 8 [(0, .ref (vA V 11 0)), (1, .int l1), (2, .int l2), (3, .int l3), (4, .int l4)] → k49 l1 l2 l3 l4 M = some (r, M') → Wq E H locs 49 ls []) {H : Heap} {locs : List Loc} {ls : Array Slot} {l1 : Int32} {l2 : Int32} {l3 : Int32} {l4 : Int32} {l5 : Int32} {l6 : Int32} {s0 : Int32} {M : Mem} (hW : Wd V A H0 M (eS E) H locs) (hl : lv_has ls 8 [(0, .ref (vA V 11 0)), (1, .int l1), (2, .int l2), (3, .int l3), (4, .int l4), (5, .int l5), (6, .int l6)]) (hF : FL_chain_87 k41 k49 l1 l2 l3 l4 l5 l6 s0 M = some (r, M')) : Wq E H locs 87 ls [.int s0] := by
  unfold FL_chain_87 at hF
  refine q_istore (lv' := [(7, .int s0), (0, .ref (vA V 11 0)), (1, .int l1), (2, .int l2), (3, .int l3), (4, .int l4), (5, .int l5), (6, .int l6)]) Cx dL_chain_87 hl (by decide) rfl (fun ls hl => ?_)
  refine q_iload_n Cx dL_chain_89 rfl (lv_at hl 3 rfl) ?_
  refine q_iload Cx dL_chain_90 (lv_at hl 0 rfl) ?_
  refine q_if_eq (tgt := 124) Cx dL_chain_92 (by decide) (fun c16 => ?_) (fun c16 => ?_)
  · have hF := (if_pos c16).symm.trans hF
    exact wL_chain_124 Cx hret hk41 hk49 hW (lv_sub hl [1, 2, 4, 5, 7, 0] rfl) hF
  · have hF := (if_neg c16).symm.trans hF
    refine q_iload Cx dL_chain_95 (lv_at hl 6 rfl) ?_
    refine q_if_lt (tgt := 124) Cx dL_chain_97 (by decide) (fun c32 => ?_) (fun c32 => ?_)
    · have hF := (if_pos c32).symm.trans hF
      exact wL_chain_124 Cx hret hk41 hk49 hW (lv_sub hl [1, 2, 4, 5, 7, 0] rfl) hF
    · have hF := (if_neg c32).symm.trans hF
      refine q_aload_n Cx dL_chain_100 rfl (lv_at hl 1 rfl) ?_
      refine q_iload Cx dL_chain_101 (lv_at hl 6 rfl) ?_
      refine q_iconst (v := (5 : Int32)) Cx dL_chain_103 (by decide) ?_
      obtain ⟨r33, M35, e34, hF⟩ := c2_some hF
      refine q_callI (as := [.int l5, .int (5 : Int32)]) (rest := [.int l2]) Cx (kX5_ofTask e34) okX5_ofTask ovX5_ofTask wd_273 ⟨rfl, rfl, by decide, by decide⟩ hW oX ic5 rfl hl.1 (Nat.le_of_ble_eq_true rfl) rfl dL_chain_104 (fun H locs hW => ?_)
      refine q_aload_n Cx dL_chain_107 rfl (lv_at hl 1 rfl) ?_
      refine q_iload Cx dL_chain_108 (lv_at hl 5 rfl) ?_
      refine q_iconst (v := (4 : Int32)) Cx dL_chain_110 (by decide) ?_
      obtain ⟨r36, M38, e37, hF⟩ := c2_some hF
      refine q_callI (as := [.int l4, .int (4 : Int32)]) (rest := [.int r33, .int l2]) Cx (kX5_ofTask e37) okX5_ofTask ovX5_ofTask wd_273 ⟨rfl, rfl, by decide, by decide⟩ hW oX ic5 rfl hl.1 (Nat.le_of_ble_eq_true rfl) rfl dL_chain_111 (fun H locs hW => ?_)
      refine q_icmp_ne (tgt := 124) Cx dL_chain_114 (by decide) (fun c39 => ?_) (fun c39 => ?_)
      · have hF := (if_neg c39).symm.trans hF
        exact wL_chain_124 Cx hret hk41 hk49 hW (lv_sub hl [1, 2, 4, 5, 7, 0] rfl) hF
      · have hF := (if_pos c39).symm.trans hF
        refine q_iconst (v := (1 : Int32)) Cx dL_chain_117 (by decide) ?_
        refine q_iload Cx dL_chain_118 (lv_at hl 6 rfl) ?_
        refine q_ishl Cx dL_chain_120 ?_
        refine q_goto (tgt := 125) Cx dL_chain_121 (by decide) ?_
        exact wL_chain_125 Cx hret hk41 hk49 hW (lv_sub hl [1, 2, 4, 5, 7, 0] rfl) hF
def FL_chain_49s (k41 : Int32 → Int32 → Int32 → Mem → Option (Int32 × Mem)) (k49 : Int32 → Int32 → Int32 → Int32 → Mem → Option (Int32 × Mem)) (l1 : Int32) (l2 : Int32) (l3 : Int32) (l4 : Int32) (M : Mem) : Option (Int32 × Mem) :=
  if l1 ≤ l4 then
    lt1 (l3 + (1 : Int32)) fun x7 =>
    k41 l1 l2 x7 M
  else
    c2 (FL_before M l4) fun r9 M11 =>
    c2 (FX5_ofTask M11 l4 (2 : Int32)) fun r12 M14 =>
    if ((l2 >>> (l4 &&& 31)) &&& (1 : Int32)) = (1 : Int32) then
      FL_chain_87 k41 k49 l1 l2 l3 l4 r9 r12 (1 : Int32) M14
    else
      FL_chain_87 k41 k49 l1 l2 l3 l4 r9 r12 (0 : Int32) M14
set_option maxRecDepth 100000 in
set_option maxHeartbeats 4000000 in
theorem wL_chain_49s {E : WE} {V : VT} {A : Nat → Prop} {H0 : Heap} (Cx : CX E RL cL_chain 8 7 173) {r : Int32} {M' : Mem} (hret : RetI E V A H0 cL_chain .boolean r M') {k41 : Int32 → Int32 → Int32 → Mem → Option (Int32 × Mem)} (hk41 : ∀ {H : Heap} {locs : List Loc} {ls : Array Slot} {M : Mem} {l1 : Int32} {l2 : Int32} {l3 : Int32}, Wd V A H0 M (eS E) H locs → lv_has ls 8 [(0, .ref (vA V 11 0)), (1, .int l1), (2, .int l2), (3, .int l3)] → k41 l1 l2 l3 M = some (r, M') → Wq E H locs 41 ls []) {k49 : Int32 → Int32 → Int32 → Int32 → Mem → Option (Int32 × Mem)} (hk49 : ∀ {H : Heap} {locs : List Loc} {ls : Array Slot} {M : Mem} {l1 : Int32} {l2 : Int32} {l3 : Int32} {l4 : Int32}, Wd V A H0 M (eS E) H locs → lv_has ls 8 [(0, .ref (vA V 11 0)), (1, .int l1), (2, .int l2), (3, .int l3), (4, .int l4)] → k49 l1 l2 l3 l4 M = some (r, M') → Wq E H locs 49 ls []) {H : Heap} {locs : List Loc} {ls : Array Slot} {l1 : Int32} {l2 : Int32} {l3 : Int32} {l4 : Int32} {M : Mem} (hW : Wd V A H0 M (eS E) H locs) (hl : lv_has ls 8 [(0, .ref (vA V 11 0)), (1, .int l1), (2, .int l2), (3, .int l3), (4, .int l4)]) (hF : FL_chain_49s k41 k49 l1 l2 l3 l4 M = some (r, M')) : Wq E H locs 49 ls [] := by
  unfold FL_chain_49s at hF
  refine q_iload Cx dL_chain_49 (lv_at hl 4 rfl) ?_
  refine q_iload_n Cx dL_chain_51 rfl (lv_at hl 1 rfl) ?_
  refine q_icmp_ge (tgt := 171) Cx dL_chain_52 (by decide) (fun c6 => ?_) (fun c6 => ?_)
  · have hF := (if_pos c6).symm.trans hF
    obtain ⟨x7, e8, hF⟩ := lt1_some hF
    refine q_iinc (k := 3) (v := x7) (lv' := [(3, .int x7), (0, .ref (vA V 11 0)), (1, .int l1), (2, .int l2), (4, .int l4)]) Cx dL_chain_171 hl rfl e8.symm (by decide) rfl (fun ls hl => ?_)
    refine q_goto (tgt := 41) Cx dL_chain_174 (by decide) ?_
    exact hk41 hW (lv_sub hl [1, 2, 3, 0] rfl) hF
  · have hF := (if_neg c6).symm.trans hF
    refine q_aload_n Cx dL_chain_55 rfl (lv_at hl 0 rfl) ?_
    refine q_iload Cx dL_chain_56 (lv_at hl 4 rfl) ?_
    obtain ⟨r9, M11, e10, hF⟩ := c2_some hF
    refine q_callSI (as := [.ref (vA V 11 0), .int l4]) (rest := []) Cx (kL_before e10) okL_before osL_before rfl wd_404 ⟨rfl, rfl, by decide, by decide⟩ hW rfl hl.1 (Nat.le_of_ble_eq_true rfl) rfl dL_chain_58 (fun H locs hW => ?_)
    refine q_istore (lv' := [(5, .int r9), (0, .ref (vA V 11 0)), (1, .int l1), (2, .int l2), (3, .int l3), (4, .int l4)]) Cx dL_chain_61 hl (by decide) rfl (fun ls hl => ?_)
    refine q_aload_n Cx dL_chain_63 rfl (lv_at hl 1 rfl) ?_
    refine q_iload Cx dL_chain_64 (lv_at hl 5 rfl) ?_
    refine q_iconst (v := (2 : Int32)) Cx dL_chain_66 (by decide) ?_
    obtain ⟨r12, M14, e13, hF⟩ := c2_some hF
    refine q_callI (as := [.int l4, .int (2 : Int32)]) (rest := []) Cx (kX5_ofTask e13) okX5_ofTask ovX5_ofTask wd_273 ⟨rfl, rfl, by decide, by decide⟩ hW oX ic5 rfl hl.1 (Nat.le_of_ble_eq_true rfl) rfl dL_chain_67 (fun H locs hW => ?_)
    refine q_istore (lv' := [(6, .int r12), (5, .int r9), (0, .ref (vA V 11 0)), (1, .int l1), (2, .int l2), (3, .int l3), (4, .int l4)]) Cx dL_chain_70 hl (by decide) rfl (fun ls hl => ?_)
    refine q_iload_n Cx dL_chain_72 rfl (lv_at hl 4 rfl) ?_
    refine q_iload Cx dL_chain_73 (lv_at hl 6 rfl) ?_
    refine q_ishr Cx dL_chain_75 ?_
    refine q_iconst (v := (1 : Int32)) Cx dL_chain_76 (by decide) ?_
    refine q_iand Cx dL_chain_77 ?_
    refine q_iconst (v := (1 : Int32)) Cx dL_chain_78 (by decide) ?_
    refine q_icmp_ne (tgt := 86) Cx dL_chain_79 (by decide) (fun c15 => ?_) (fun c15 => ?_)
    · have hF := (if_neg c15).symm.trans hF
      refine q_iconst (v := (0 : Int32)) Cx dL_chain_86 (by decide) ?_
      exact wL_chain_87 Cx hret hk41 hk49 hW (lv_sub hl [2, 3, 4, 5, 6, 1, 0] rfl) hF
    · have hF := (if_pos c15).symm.trans hF
      refine q_iconst (v := (1 : Int32)) Cx dL_chain_82 (by decide) ?_
      refine q_goto (tgt := 87) Cx dL_chain_83 (by decide) ?_
      exact wL_chain_87 Cx hret hk41 hk49 hW (lv_sub hl [2, 3, 4, 5, 6, 1, 0] rfl) hF
def FL_chain_49 (k41 : Int32 → Int32 → Int32 → Mem → Option (Int32 × Mem)) : Nat → Int32 → Int32 → Int32 → Int32 → Mem → Option (Int32 × Mem)
  | 0 => fun _ _ _ _ _ => none
  | n + 1 => FL_chain_49s k41 (FL_chain_49 k41 n)
set_option maxRecDepth 100000 in
theorem wL_chain_49 {E : WE} {V : VT} {A : Nat → Prop} {H0 : Heap} (Cx : CX E RL cL_chain 8 7 173) {r : Int32} {M' : Mem} (hret : RetI E V A H0 cL_chain .boolean r M') {k41 : Int32 → Int32 → Int32 → Mem → Option (Int32 × Mem)} (hk41 : ∀ {H : Heap} {locs : List Loc} {ls : Array Slot} {M : Mem} {l1 : Int32} {l2 : Int32} {l3 : Int32}, Wd V A H0 M (eS E) H locs → lv_has ls 8 [(0, .ref (vA V 11 0)), (1, .int l1), (2, .int l2), (3, .int l3)] → k41 l1 l2 l3 M = some (r, M') → Wq E H locs 41 ls []) : ∀ (n : Nat) {H : Heap} {locs : List Loc} {ls : Array Slot} {l1 : Int32} {l2 : Int32} {l3 : Int32} {l4 : Int32} {M : Mem}, Wd V A H0 M (eS E) H locs → lv_has ls 8 [(0, .ref (vA V 11 0)), (1, .int l1), (2, .int l2), (3, .int l3), (4, .int l4)] → FL_chain_49 k41 n l1 l2 l3 l4 M = some (r, M') → Wq E H locs 49 ls [] := by
  intro n
  induction n with
  | zero => intro _ _ _ _ _ _ _ _ hW hl hF; cases hF
  | succ n ih => intro _ _ _ _ _ _ _ _ hW hl hF; exact wL_chain_49s Cx hret hk41 ih hW hl hF
def FL_chain_41s (k41 : Int32 → Int32 → Int32 → Mem → Option (Int32 × Mem)) (l1 : Int32) (l2 : Int32) (l3 : Int32) (M : Mem) : Option (Int32 × Mem) :=
  if l1 ≤ l3 then
    c1 (FX5_critical M) fun r3 =>
    if r3 = l2 then
      some ((1 : Int32), M)
    else
      some ((0 : Int32), M)
  else
    FL_chain_49 k41 fu l1 l2 l3 (0 : Int32) M
set_option maxRecDepth 100000 in
set_option maxHeartbeats 4000000 in
theorem wL_chain_41s {E : WE} {V : VT} {A : Nat → Prop} {H0 : Heap} (Cx : CX E RL cL_chain 8 7 173) {r : Int32} {M' : Mem} (hret : RetI E V A H0 cL_chain .boolean r M') {k41 : Int32 → Int32 → Int32 → Mem → Option (Int32 × Mem)} (hk41 : ∀ {H : Heap} {locs : List Loc} {ls : Array Slot} {M : Mem} {l1 : Int32} {l2 : Int32} {l3 : Int32}, Wd V A H0 M (eS E) H locs → lv_has ls 8 [(0, .ref (vA V 11 0)), (1, .int l1), (2, .int l2), (3, .int l3)] → k41 l1 l2 l3 M = some (r, M') → Wq E H locs 41 ls []) {H : Heap} {locs : List Loc} {ls : Array Slot} {l1 : Int32} {l2 : Int32} {l3 : Int32} {M : Mem} (hW : Wd V A H0 M (eS E) H locs) (hl : lv_has ls 8 [(0, .ref (vA V 11 0)), (1, .int l1), (2, .int l2), (3, .int l3)]) (hF : FL_chain_41s k41 l1 l2 l3 M = some (r, M')) : Wq E H locs 41 ls [] := by
  unfold FL_chain_41s at hF
  refine q_iload_n Cx dL_chain_41 rfl (lv_at hl 3 rfl) ?_
  refine q_iload_n Cx dL_chain_42 rfl (lv_at hl 1 rfl) ?_
  refine q_icmp_ge (tgt := 177) Cx dL_chain_43 (by decide) (fun c2 => ?_) (fun c2 => ?_)
  · have hF := (if_pos c2).symm.trans hF
    refine q_aload_n Cx dL_chain_177 rfl (lv_at hl 0 rfl) ?_
    obtain ⟨r3, e4, hF⟩ := c1_some hF
    refine q_callI (as := []) (rest := []) Cx (kX5_critical e4) okX5_critical ovX5_critical wd_338 ⟨rfl, rfl, by decide, by decide⟩ hW oX ic5 rfl hl.1 (Nat.le_of_ble_eq_true rfl) rfl dL_chain_178 (fun H locs hW => ?_)
    refine q_iload_n Cx dL_chain_181 rfl (lv_at hl 2 rfl) ?_
    refine q_icmp_ne (tgt := 189) Cx dL_chain_182 (by decide) (fun c5 => ?_) (fun c5 => ?_)
    · have hF := (if_neg c5).symm.trans hF
      refine q_iconst (v := (0 : Int32)) Cx dL_chain_189 (by decide) ?_
      obtain ⟨rfl, rfl⟩ := Prod.mk.inj (Option.some.inj hF)
      exact hret _ _ _ _ dL_chain_190 (by rfl) hW
    · have hF := (if_pos c5).symm.trans hF
      refine q_iconst (v := (1 : Int32)) Cx dL_chain_185 (by decide) ?_
      refine q_goto (tgt := 190) Cx dL_chain_186 (by decide) ?_
      obtain ⟨rfl, rfl⟩ := Prod.mk.inj (Option.some.inj hF)
      exact hret _ _ _ _ dL_chain_190 (by rfl) hW
  · have hF := (if_neg c2).symm.trans hF
    refine q_iconst (v := (0 : Int32)) Cx dL_chain_46 (by decide) ?_
    refine q_istore (lv' := [(4, .int (0 : Int32)), (0, .ref (vA V 11 0)), (1, .int l1), (2, .int l2), (3, .int l3)]) Cx dL_chain_47 hl (by decide) rfl (fun ls hl => ?_)
    exact wL_chain_49 Cx hret hk41 fu hW (lv_sub hl [1, 2, 3, 4, 0] rfl) hF
def FL_chain_41 : Nat → Int32 → Int32 → Int32 → Mem → Option (Int32 × Mem)
  | 0 => fun _ _ _ _ => none
  | n + 1 => FL_chain_41s (FL_chain_41 n)
set_option maxRecDepth 100000 in
theorem wL_chain_41 {E : WE} {V : VT} {A : Nat → Prop} {H0 : Heap} (Cx : CX E RL cL_chain 8 7 173) {r : Int32} {M' : Mem} (hret : RetI E V A H0 cL_chain .boolean r M') : ∀ (n : Nat) {H : Heap} {locs : List Loc} {ls : Array Slot} {l1 : Int32} {l2 : Int32} {l3 : Int32} {M : Mem}, Wd V A H0 M (eS E) H locs → lv_has ls 8 [(0, .ref (vA V 11 0)), (1, .int l1), (2, .int l2), (3, .int l3)] → FL_chain_41 n l1 l2 l3 M = some (r, M') → Wq E H locs 41 ls [] := by
  intro n
  induction n with
  | zero => intro _ _ _ _ _ _ _ hW hl hF; cases hF
  | succ n ih => intro _ _ _ _ _ _ _ hW hl hF; exact wL_chain_41s Cx hret ih hW hl hF
def FL_chain_31 (k4 : Int32 → Int32 → Int32 → Mem → Option (Int32 × Mem)) (l1 : Int32) (l3 : Int32) (s0 : Int32) (s1 : Int32) (M : Mem) : Option (Int32 × Mem) :=
  lt1 (s1 ||| s0) fun x46 =>
  lt1 (l3 + (1 : Int32)) fun x48 =>
  k4 l1 x46 x48 M
set_option maxRecDepth 100000 in
set_option maxHeartbeats 4000000 in
theorem wL_chain_31 {E : WE} {V : VT} {A : Nat → Prop} {H0 : Heap} (Cx : CX E RL cL_chain 8 7 173) {r : Int32} {M' : Mem} (hret : RetI E V A H0 cL_chain .boolean r M') {k4 : Int32 → Int32 → Int32 → Mem → Option (Int32 × Mem)} (hk4 : ∀ {H : Heap} {locs : List Loc} {ls : Array Slot} {M : Mem} {l1 : Int32} {l2 : Int32} {l3 : Int32}, Wd V A H0 M (eS E) H locs → lv_has ls 8 [(0, .ref (vA V 11 0)), (1, .int l1), (2, .int l2), (3, .int l3)] → k4 l1 l2 l3 M = some (r, M') → Wq E H locs 4 ls []) {H : Heap} {locs : List Loc} {ls : Array Slot} {l1 : Int32} {l3 : Int32} {s0 : Int32} {s1 : Int32} {M : Mem} (hW : Wd V A H0 M (eS E) H locs) (hl : lv_has ls 8 [(0, .ref (vA V 11 0)), (1, .int l1), (3, .int l3)]) (hF : FL_chain_31 k4 l1 l3 s0 s1 M = some (r, M')) : Wq E H locs 31 ls [.int s0, .int s1] := by
  unfold FL_chain_31 at hF
  refine q_ior Cx dL_chain_31 ?_
  obtain ⟨x46, e47, hF⟩ := lt1_some hF
  refine q_topi e47 ?_
  refine q_istore_n (lv' := [(2, .int x46), (0, .ref (vA V 11 0)), (1, .int l1), (3, .int l3)]) Cx dL_chain_32 rfl hl (by decide) rfl (fun ls hl => ?_)
  obtain ⟨x48, e49, hF⟩ := lt1_some hF
  refine q_iinc (k := 3) (v := x48) (lv' := [(3, .int x48), (2, .int x46), (0, .ref (vA V 11 0)), (1, .int l1)]) Cx dL_chain_33 hl rfl e49.symm (by decide) rfl (fun ls hl => ?_)
  refine q_goto (tgt := 4) Cx dL_chain_36 (by decide) ?_
  exact hk4 hW (lv_sub hl [2, 3, 1, 0] rfl) hF
def FL_chain_4s (k4 : Int32 → Int32 → Int32 → Mem → Option (Int32 × Mem)) (l1 : Int32) (l2 : Int32) (l3 : Int32) (M : Mem) : Option (Int32 × Mem) :=
  if l1 ≤ l3 then
    FL_chain_41 fu l1 l2 (0 : Int32) M
  else
    c2 (FX5_ofTask M l3 (5 : Int32)) fun r40 M42 =>
    c1 (FX5_count M42 (5 : Int32)) fun r43 =>
    if r40 = r43 then
      FL_chain_31 k4 l1 l3 ((1 : Int32) <<< (l3 &&& 31)) l2 M42
    else
      FL_chain_31 k4 l1 l3 (0 : Int32) l2 M42
set_option maxRecDepth 100000 in
set_option maxHeartbeats 4000000 in
theorem wL_chain_4s {E : WE} {V : VT} {A : Nat → Prop} {H0 : Heap} (Cx : CX E RL cL_chain 8 7 173) {r : Int32} {M' : Mem} (hret : RetI E V A H0 cL_chain .boolean r M') {k4 : Int32 → Int32 → Int32 → Mem → Option (Int32 × Mem)} (hk4 : ∀ {H : Heap} {locs : List Loc} {ls : Array Slot} {M : Mem} {l1 : Int32} {l2 : Int32} {l3 : Int32}, Wd V A H0 M (eS E) H locs → lv_has ls 8 [(0, .ref (vA V 11 0)), (1, .int l1), (2, .int l2), (3, .int l3)] → k4 l1 l2 l3 M = some (r, M') → Wq E H locs 4 ls []) {H : Heap} {locs : List Loc} {ls : Array Slot} {l1 : Int32} {l2 : Int32} {l3 : Int32} {M : Mem} (hW : Wd V A H0 M (eS E) H locs) (hl : lv_has ls 8 [(0, .ref (vA V 11 0)), (1, .int l1), (2, .int l2), (3, .int l3)]) (hF : FL_chain_4s k4 l1 l2 l3 M = some (r, M')) : Wq E H locs 4 ls [] := by
  unfold FL_chain_4s at hF
  refine q_iload_n Cx dL_chain_4 rfl (lv_at hl 3 rfl) ?_
  refine q_iload_n Cx dL_chain_5 rfl (lv_at hl 1 rfl) ?_
  refine q_icmp_ge (tgt := 39) Cx dL_chain_6 (by decide) (fun c1 => ?_) (fun c1 => ?_)
  · have hF := (if_pos c1).symm.trans hF
    refine q_iconst (v := (0 : Int32)) Cx dL_chain_39 (by decide) ?_
    refine q_istore_n (lv' := [(3, .int (0 : Int32)), (0, .ref (vA V 11 0)), (1, .int l1), (2, .int l2)]) Cx dL_chain_40 rfl hl (by decide) rfl (fun ls hl => ?_)
    exact wL_chain_41 Cx hret fu hW (lv_sub hl [1, 2, 3, 0] rfl) hF
  · have hF := (if_neg c1).symm.trans hF
    refine q_iload_n Cx dL_chain_9 rfl (lv_at hl 2 rfl) ?_
    refine q_aload_n Cx dL_chain_10 rfl (lv_at hl 0 rfl) ?_
    refine q_iload_n Cx dL_chain_11 rfl (lv_at hl 3 rfl) ?_
    refine q_iconst (v := (5 : Int32)) Cx dL_chain_12 (by decide) ?_
    obtain ⟨r40, M42, e41, hF⟩ := c2_some hF
    refine q_callI (as := [.int l3, .int (5 : Int32)]) (rest := [.int l2]) Cx (kX5_ofTask e41) okX5_ofTask ovX5_ofTask wd_273 ⟨rfl, rfl, by decide, by decide⟩ hW oX ic5 rfl hl.1 (Nat.le_of_ble_eq_true rfl) rfl dL_chain_13 (fun H locs hW => ?_)
    refine q_aload_n Cx dL_chain_16 rfl (lv_at hl 0 rfl) ?_
    refine q_iconst (v := (5 : Int32)) Cx dL_chain_17 (by decide) ?_
    obtain ⟨r43, e44, hF⟩ := c1_some hF
    refine q_callI (as := [.int (5 : Int32)]) (rest := [.int r40, .int l2]) Cx (kX5_count e44) okX5_count ovX5_count wd_417 ⟨rfl, rfl, by decide, by decide⟩ hW oX ic5 rfl hl.1 (Nat.le_of_ble_eq_true rfl) rfl dL_chain_18 (fun H locs hW => ?_)
    refine q_icmp_ne (tgt := 30) Cx dL_chain_21 (by decide) (fun c45 => ?_) (fun c45 => ?_)
    · have hF := (if_neg c45).symm.trans hF
      refine q_iconst (v := (0 : Int32)) Cx dL_chain_30 (by decide) ?_
      exact wL_chain_31 Cx hret hk4 hW (lv_sub hl [0, 1, 3] rfl) hF
    · have hF := (if_pos c45).symm.trans hF
      refine q_iconst (v := (1 : Int32)) Cx dL_chain_24 (by decide) ?_
      refine q_iload_n Cx dL_chain_25 rfl (lv_at hl 3 rfl) ?_
      refine q_ishl Cx dL_chain_26 ?_
      refine q_goto (tgt := 31) Cx dL_chain_27 (by decide) ?_
      exact wL_chain_31 Cx hret hk4 hW (lv_sub hl [0, 1, 3] rfl) hF
def FL_chain_4 : Nat → Int32 → Int32 → Int32 → Mem → Option (Int32 × Mem)
  | 0 => fun _ _ _ _ => none
  | n + 1 => FL_chain_4s (FL_chain_4 n)
set_option maxRecDepth 100000 in
theorem wL_chain_4 {E : WE} {V : VT} {A : Nat → Prop} {H0 : Heap} (Cx : CX E RL cL_chain 8 7 173) {r : Int32} {M' : Mem} (hret : RetI E V A H0 cL_chain .boolean r M') : ∀ (n : Nat) {H : Heap} {locs : List Loc} {ls : Array Slot} {l1 : Int32} {l2 : Int32} {l3 : Int32} {M : Mem}, Wd V A H0 M (eS E) H locs → lv_has ls 8 [(0, .ref (vA V 11 0)), (1, .int l1), (2, .int l2), (3, .int l3)] → FL_chain_4 n l1 l2 l3 M = some (r, M') → Wq E H locs 4 ls [] := by
  intro n
  induction n with
  | zero => intro _ _ _ _ _ _ _ hW hl hF; cases hF
  | succ n ih => intro _ _ _ _ _ _ _ hW hl hF; exact wL_chain_4s Cx hret ih hW hl hF
def FL_chain (M : Mem) (l1 : Int32) : Option (Int32 × Mem) :=
  FL_chain_4 fu l1 (0 : Int32) (0 : Int32) M
set_option maxRecDepth 100000 in
set_option maxHeartbeats 4000000 in
theorem wL_chain {E : WE} {V : VT} {A : Nat → Prop} {H0 : Heap} (Cx : CX E RL cL_chain 8 7 173) {r : Int32} {M' : Mem} (hret : RetI E V A H0 cL_chain .boolean r M') {H : Heap} {locs : List Loc} {ls : Array Slot} {l1 : Int32} {M : Mem} (hW : Wd V A H0 M (eS E) H locs) (hl : lv_has ls 8 [(0, .ref (vA V 11 0)), (1, .int l1)]) (hF : FL_chain M l1 = some (r, M')) : Wq E H locs 0 ls [] := by
  unfold FL_chain at hF
  refine q_iconst (v := (0 : Int32)) Cx dL_chain_0 (by decide) ?_
  refine q_istore_n (lv' := [(2, .int (0 : Int32)), (0, .ref (vA V 11 0)), (1, .int l1)]) Cx dL_chain_1 rfl hl (by decide) rfl (fun ls hl => ?_)
  refine q_iconst (v := (0 : Int32)) Cx dL_chain_2 (by decide) ?_
  refine q_istore_n (lv' := [(3, .int (0 : Int32)), (2, .int (0 : Int32)), (0, .ref (vA V 11 0)), (1, .int l1)]) Cx dL_chain_3 rfl hl (by decide) rfl (fun ls hl => ?_)
  exact wL_chain_4 Cx hret fu hW (lv_sub hl [2, 3, 1, 0] rfl) hF
set_option maxRecDepth 100000 in
theorem kL_chain {l : Launch} {V : VT} {M : Mem} {l1 : Int32} {r : Int32} {M' : Mem} (hF : FL_chain M l1 = some (r, M')) : MetI l V yL_chain cL_chain 8 .boolean ({ frames := 7, cells := 0, slots := 0, locals := 173 } : Room) [.ref (vA V 11 0), .int l1] r M M' := metI_of (by decide) (Nat.le_of_ble_eq_true rfl) (fun E H0 _ Cx hret H locs ls hW hl => wL_chain Cx hret hW hl hF)
theorem dL_places_0 : decode cL_places 0 = .ok (.aload_n 0, 1) := by decide +kernel
theorem dL_places_1 : decode cL_places 1 = .ok (.bipush 12, 2) := by decide +kernel
theorem dL_places_3 : decode cL_places 3 = .ok (.aload_n 0, 1) := by decide +kernel
theorem dL_places_4 : decode cL_places 4 = .ok (.iload_n 1, 1) := by decide +kernel
theorem dL_places_5 : decode cL_places 5 = .ok (.iconst 0, 1) := by decide +kernel
theorem dL_places_6 : decode cL_places 6 = .ok (.invokevirtual 26, 3) := by decide +kernel
theorem dL_places_9 : decode cL_places 9 = .ok (.iadd, 1) := by decide +kernel
theorem dL_places_10 : decode cL_places 10 = .ok (.invokevirtual 44, 3) := by decide +kernel
theorem dL_places_13 : decode cL_places 13 = .ok (.istore_n 2, 1) := by decide +kernel
theorem dL_places_14 : decode cL_places 14 = .ok (.aload_n 0, 1) := by decide +kernel
theorem dL_places_15 : decode cL_places 15 = .ok (.iload_n 1, 1) := by decide +kernel
theorem dL_places_16 : decode cL_places 16 = .ok (.iconst 3, 1) := by decide +kernel
theorem dL_places_17 : decode cL_places 17 = .ok (.invokevirtual 26, 3) := by decide +kernel
theorem dL_places_20 : decode cL_places 20 = .ok (.istore_n 3, 1) := by decide +kernel
theorem dL_places_21 : decode cL_places 21 = .ok (.iconst (-1), 1) := by decide +kernel
theorem dL_places_22 : decode cL_places 22 = .ok (.istore 4, 2) := by decide +kernel
theorem dL_places_24 : decode cL_places 24 = .ok (.iconst 0, 1) := by decide +kernel
theorem dL_places_25 : decode cL_places 25 = .ok (.istore 5, 2) := by decide +kernel
theorem dL_places_27 : decode cL_places 27 = .ok (.iconst 0, 1) := by decide +kernel
theorem dL_places_28 : decode cL_places 28 = .ok (.istore 6, 2) := by decide +kernel
theorem dL_places_30 : decode cL_places 30 = .ok (.iload 6, 2) := by decide +kernel
theorem dL_places_32 : decode cL_places 32 = .ok (.iload_n 2, 1) := by decide +kernel
theorem dL_places_33 : decode cL_places 33 = .ok (.if_icmp .ge 91, 3) := by decide +kernel
theorem dL_places_36 : decode cL_places 36 = .ok (.aload_n 0, 1) := by decide +kernel
theorem dL_places_37 : decode cL_places 37 = .ok (.iload_n 1, 1) := by decide +kernel
theorem dL_places_38 : decode cL_places 38 = .ok (.iload 6, 2) := by decide +kernel
theorem dL_places_40 : decode cL_places 40 = .ok (.invokevirtual 56, 3) := by decide +kernel
theorem dL_places_43 : decode cL_places 43 = .ok (.istore 7, 2) := by decide +kernel
theorem dL_places_45 : decode cL_places 45 = .ok (.iload 7, 2) := by decide +kernel
theorem dL_places_47 : decode cL_places 47 = .ok (.ifCond .ge 18, 3) := by decide +kernel
theorem dL_places_50 : decode cL_places 50 = .ok (.iload 7, 2) := by decide +kernel
theorem dL_places_52 : decode cL_places 52 = .ok (.bipush (-5), 2) := by decide +kernel
theorem dL_places_54 : decode cL_places 54 = .ok (.if_icmp .ne 9, 3) := by decide +kernel
theorem dL_places_57 : decode cL_places 57 = .ok (.iload 6, 2) := by decide +kernel
theorem dL_places_59 : decode cL_places 59 = .ok (.iload_n 3, 1) := by decide +kernel
theorem dL_places_60 : decode cL_places 60 = .ok (.if_icmp .ne 58, 3) := by decide +kernel
theorem dL_places_63 : decode cL_places 63 = .ok (.iconst 0, 1) := by decide +kernel
theorem dL_places_64 : decode cL_places 64 = .ok (.ireturn, 1) := by decide +kernel
theorem dL_places_65 : decode cL_places 65 = .ok (.aload_n 0, 1) := by decide +kernel
theorem dL_places_66 : decode cL_places 66 = .ok (.iconst 4, 1) := by decide +kernel
theorem dL_places_67 : decode cL_places 67 = .ok (.invokevirtual 44, 3) := by decide +kernel
theorem dL_places_70 : decode cL_places 70 = .ok (.istore 8, 2) := by decide +kernel
theorem dL_places_72 : decode cL_places 72 = .ok (.iload 7, 2) := by decide +kernel
theorem dL_places_74 : decode cL_places 74 = .ok (.iload_n 3, 1) := by decide +kernel
theorem dL_places_75 : decode cL_places 75 = .ok (.if_icmp .ne 21, 3) := by decide +kernel
theorem dL_places_78 : decode cL_places 78 = .ok (.aload_n 0, 1) := by decide +kernel
theorem dL_places_79 : decode cL_places 79 = .ok (.iload_n 1, 1) := by decide +kernel
theorem dL_places_80 : decode cL_places 80 = .ok (.iconst 3, 1) := by decide +kernel
theorem dL_places_81 : decode cL_places 81 = .ok (.invokevirtual 26, 3) := by decide +kernel
theorem dL_places_84 : decode cL_places 84 = .ok (.iload 6, 2) := by decide +kernel
theorem dL_places_86 : decode cL_places 86 = .ok (.if_icmp .ne 10, 3) := by decide +kernel
theorem dL_places_89 : decode cL_places 89 = .ok (.aload_n 0, 1) := by decide +kernel
theorem dL_places_90 : decode cL_places 90 = .ok (.invokevirtual 59, 3) := by decide +kernel
theorem dL_places_93 : decode cL_places 93 = .ok (.ifCond .ge 5, 3) := by decide +kernel
theorem dL_places_96 : decode cL_places 96 = .ok (.iconst 0, 1) := by decide +kernel
theorem dL_places_97 : decode cL_places 97 = .ok (.ireturn, 1) := by decide +kernel
theorem dL_places_98 : decode cL_places 98 = .ok (.iload 4, 2) := by decide +kernel
theorem dL_places_100 : decode cL_places 100 = .ok (.ifCond .lt 10, 3) := by decide +kernel
theorem dL_places_103 : decode cL_places 103 = .ok (.iload 8, 2) := by decide +kernel
theorem dL_places_105 : decode cL_places 105 = .ok (.iload 5, 2) := by decide +kernel
theorem dL_places_107 : decode cL_places 107 = .ok (.if_icmp .ge 11, 3) := by decide +kernel
theorem dL_places_110 : decode cL_places 110 = .ok (.iload 6, 2) := by decide +kernel
theorem dL_places_112 : decode cL_places 112 = .ok (.istore 4, 2) := by decide +kernel
theorem dL_places_114 : decode cL_places 114 = .ok (.iload 8, 2) := by decide +kernel
theorem dL_places_116 : decode cL_places 116 = .ok (.istore 5, 2) := by decide +kernel
theorem dL_places_118 : decode cL_places 118 = .ok (.iinc 6 1, 3) := by decide +kernel
theorem dL_places_121 : decode cL_places 121 = .ok (.goto (-91), 3) := by decide +kernel
theorem dL_places_124 : decode cL_places 124 = .ok (.aload_n 0, 1) := by decide +kernel
theorem dL_places_125 : decode cL_places 125 = .ok (.iload_n 1, 1) := by decide +kernel
theorem dL_places_126 : decode cL_places 126 = .ok (.invokevirtual 62, 3) := by decide +kernel
theorem dL_places_129 : decode cL_places 129 = .ok (.iload 4, 2) := by decide +kernel
theorem dL_places_131 : decode cL_places 131 = .ok (.if_icmp .ne 27, 3) := by decide +kernel
theorem dL_places_134 : decode cL_places 134 = .ok (.aload_n 0, 1) := by decide +kernel
theorem dL_places_135 : decode cL_places 135 = .ok (.iload_n 1, 1) := by decide +kernel
theorem dL_places_136 : decode cL_places 136 = .ok (.iload_n 2, 1) := by decide +kernel
theorem dL_places_137 : decode cL_places 137 = .ok (.invokevirtual 56, 3) := by decide +kernel
theorem dL_places_140 : decode cL_places 140 = .ok (.iconst (-1), 1) := by decide +kernel
theorem dL_places_141 : decode cL_places 141 = .ok (.if_icmp .ne 17, 3) := by decide +kernel
theorem dL_places_144 : decode cL_places 144 = .ok (.aload_n 0, 1) := by decide +kernel
theorem dL_places_145 : decode cL_places 145 = .ok (.iload_n 1, 1) := by decide +kernel
theorem dL_places_146 : decode cL_places 146 = .ok (.iconst 3, 1) := by decide +kernel
theorem dL_places_147 : decode cL_places 147 = .ok (.invokevirtual 26, 3) := by decide +kernel
theorem dL_places_150 : decode cL_places 150 = .ok (.iload_n 3, 1) := by decide +kernel
theorem dL_places_151 : decode cL_places 151 = .ok (.if_icmp .ne 7, 3) := by decide +kernel
theorem dL_places_154 : decode cL_places 154 = .ok (.iconst 1, 1) := by decide +kernel
theorem dL_places_155 : decode cL_places 155 = .ok (.goto 4, 3) := by decide +kernel
theorem dL_places_158 : decode cL_places 158 = .ok (.iconst 0, 1) := by decide +kernel
theorem dL_places_159 : decode cL_places 159 = .ok (.ireturn, 1) := by decide +kernel
theorem okL_places : CalOK yL_places cL_places 9 (some .boolean) 2 := ⟨wd_15, wd_453, by decide +kernel⟩
theorem osL_places : Cond.static yL_places ∈ lw_gd := wd_452
def FL_places_110 (k30 : Int32 → Int32 → Int32 → Int32 → Int32 → Int32 → Mem → Option (Int32 × Mem)) (l1 : Int32) (l2 : Int32) (l3 : Int32) (l6 : Int32) (l8 : Int32) (M : Mem) : Option (Int32 × Mem) :=
  lt1 (l6 + (1 : Int32)) fun x38 =>
  k30 l1 l2 l3 l6 l8 x38 M
set_option maxRecDepth 100000 in
set_option maxHeartbeats 4000000 in
theorem wL_places_110 {E : WE} {V : VT} {A : Nat → Prop} {H0 : Heap} (Cx : CX E RL cL_places 9 6 151) {r : Int32} {M' : Mem} (hret : RetI E V A H0 cL_places .boolean r M') {k30 : Int32 → Int32 → Int32 → Int32 → Int32 → Int32 → Mem → Option (Int32 × Mem)} (hk30 : ∀ {H : Heap} {locs : List Loc} {ls : Array Slot} {M : Mem} {l1 : Int32} {l2 : Int32} {l3 : Int32} {l4 : Int32} {l5 : Int32} {l6 : Int32}, Wd V A H0 M (eS E) H locs → lv_has ls 9 [(0, .ref (vA V 11 0)), (1, .int l1), (2, .int l2), (3, .int l3), (4, .int l4), (5, .int l5), (6, .int l6)] → k30 l1 l2 l3 l4 l5 l6 M = some (r, M') → Wq E H locs 30 ls []) {H : Heap} {locs : List Loc} {ls : Array Slot} {l1 : Int32} {l2 : Int32} {l3 : Int32} {l6 : Int32} {l8 : Int32} {M : Mem} (hW : Wd V A H0 M (eS E) H locs) (hl : lv_has ls 9 [(0, .ref (vA V 11 0)), (1, .int l1), (2, .int l2), (3, .int l3), (6, .int l6), (8, .int l8)]) (hF : FL_places_110 k30 l1 l2 l3 l6 l8 M = some (r, M')) : Wq E H locs 110 ls [] := by
  unfold FL_places_110 at hF
  refine q_iload Cx dL_places_110 (lv_at hl 4 rfl) ?_
  refine q_istore (lv' := [(4, .int l6), (0, .ref (vA V 11 0)), (1, .int l1), (2, .int l2), (3, .int l3), (6, .int l6), (8, .int l8)]) Cx dL_places_112 hl (by decide) rfl (fun ls hl => ?_)
  refine q_iload Cx dL_places_114 (lv_at hl 6 rfl) ?_
  refine q_istore (lv' := [(5, .int l8), (4, .int l6), (0, .ref (vA V 11 0)), (1, .int l1), (2, .int l2), (3, .int l3), (6, .int l6), (8, .int l8)]) Cx dL_places_116 hl (by decide) rfl (fun ls hl => ?_)
  obtain ⟨x38, e39, hF⟩ := lt1_some hF
  refine q_iinc (k := 6) (v := x38) (lv' := [(6, .int x38), (5, .int l8), (4, .int l6), (0, .ref (vA V 11 0)), (1, .int l1), (2, .int l2), (3, .int l3), (8, .int l8)]) Cx dL_places_118 hl rfl e39.symm (by decide) rfl (fun ls hl => ?_)
  refine q_goto (tgt := 30) Cx dL_places_121 (by decide) ?_
  exact hk30 hW (lv_sub hl [3, 4, 5, 6, 2, 1, 0] rfl) hF
def FL_places_30s (k30 : Int32 → Int32 → Int32 → Int32 → Int32 → Int32 → Mem → Option (Int32 × Mem)) (l1 : Int32) (l2 : Int32) (l3 : Int32) (l4 : Int32) (l5 : Int32) (l6 : Int32) (M : Mem) : Option (Int32 × Mem) :=
  if l2 ≤ l6 then
    c2 (FX5_bestPlace M l1) fun r10 M12 =>
    if r10 = l4 then
      c2 (FX5_move M12 l1 l2) fun r14 M16 =>
      if r14 = (-1 : Int32) then
        c2 (FX5_ofTask M16 l1 (3 : Int32)) fun r18 M20 =>
        if r18 = l3 then
          some ((1 : Int32), M20)
        else
          some ((0 : Int32), M20)
      else
        some ((0 : Int32), M16)
    else
      some ((0 : Int32), M12)
  else
    c2 (FX5_move M l1 l6) fun r22 M24 =>
    if 0 ≤ r22 then
      c1 (FX5_count M24 (4 : Int32)) fun r26 =>
      if r22 = l3 then
        c2 (FX5_ofTask M24 l1 (3 : Int32)) fun r29 M31 =>
        if r29 = l6 then
          c2 (FX5_undo M31) fun r33 M35 =>
          if 0 ≤ r33 then
            if l4 < 0 then
              FL_places_110 k30 l1 l2 l3 l6 r26 M35
            else
              if l5 ≤ r26 then
                lt1 (l6 + (1 : Int32)) fun x41 =>
                k30 l1 l2 l3 l4 l5 x41 M35
              else
                FL_places_110 k30 l1 l2 l3 l6 r26 M35
          else
            some ((0 : Int32), M35)
        else
          some ((0 : Int32), M31)
      else
        some ((0 : Int32), M24)
    else
      if r22 = (-5 : Int32) then
        if l6 = l3 then
          some ((0 : Int32), M24)
        else
          lt1 (l6 + (1 : Int32)) fun x45 =>
          k30 l1 l2 l3 l4 l5 x45 M24
      else
        some ((0 : Int32), M24)
set_option maxRecDepth 100000 in
set_option maxHeartbeats 4000000 in
theorem wL_places_30s {E : WE} {V : VT} {A : Nat → Prop} {H0 : Heap} (Cx : CX E RL cL_places 9 6 151) {r : Int32} {M' : Mem} (hret : RetI E V A H0 cL_places .boolean r M') {k30 : Int32 → Int32 → Int32 → Int32 → Int32 → Int32 → Mem → Option (Int32 × Mem)} (hk30 : ∀ {H : Heap} {locs : List Loc} {ls : Array Slot} {M : Mem} {l1 : Int32} {l2 : Int32} {l3 : Int32} {l4 : Int32} {l5 : Int32} {l6 : Int32}, Wd V A H0 M (eS E) H locs → lv_has ls 9 [(0, .ref (vA V 11 0)), (1, .int l1), (2, .int l2), (3, .int l3), (4, .int l4), (5, .int l5), (6, .int l6)] → k30 l1 l2 l3 l4 l5 l6 M = some (r, M') → Wq E H locs 30 ls []) {H : Heap} {locs : List Loc} {ls : Array Slot} {l1 : Int32} {l2 : Int32} {l3 : Int32} {l4 : Int32} {l5 : Int32} {l6 : Int32} {M : Mem} (hW : Wd V A H0 M (eS E) H locs) (hl : lv_has ls 9 [(0, .ref (vA V 11 0)), (1, .int l1), (2, .int l2), (3, .int l3), (4, .int l4), (5, .int l5), (6, .int l6)]) (hF : FL_places_30s k30 l1 l2 l3 l4 l5 l6 M = some (r, M')) : Wq E H locs 30 ls [] := by
  unfold FL_places_30s at hF
  refine q_iload Cx dL_places_30 (lv_at hl 6 rfl) ?_
  refine q_iload_n Cx dL_places_32 rfl (lv_at hl 2 rfl) ?_
  refine q_icmp_ge (tgt := 124) Cx dL_places_33 (by decide) (fun c9 => ?_) (fun c9 => ?_)
  · have hF := (if_pos c9).symm.trans hF
    refine q_aload_n Cx dL_places_124 rfl (lv_at hl 0 rfl) ?_
    refine q_iload_n Cx dL_places_125 rfl (lv_at hl 1 rfl) ?_
    obtain ⟨r10, M12, e11, hF⟩ := c2_some hF
    refine q_callI (as := [.int l1]) (rest := []) Cx (kX5_bestPlace e11) okX5_bestPlace ovX5_bestPlace wd_466 ⟨rfl, rfl, by decide, by decide⟩ hW oX ic5 rfl hl.1 (Nat.le_of_ble_eq_true rfl) rfl dL_places_126 (fun H locs hW => ?_)
    refine q_iload Cx dL_places_129 (lv_at hl 4 rfl) ?_
    refine q_icmp_ne (tgt := 158) Cx dL_places_131 (by decide) (fun c13 => ?_) (fun c13 => ?_)
    · have hF := (if_neg c13).symm.trans hF
      refine q_iconst (v := (0 : Int32)) Cx dL_places_158 (by decide) ?_
      obtain ⟨rfl, rfl⟩ := Prod.mk.inj (Option.some.inj hF)
      exact hret _ _ _ _ dL_places_159 (by rfl) hW
    · have hF := (if_pos c13).symm.trans hF
      refine q_aload_n Cx dL_places_134 rfl (lv_at hl 0 rfl) ?_
      refine q_iload_n Cx dL_places_135 rfl (lv_at hl 1 rfl) ?_
      refine q_iload_n Cx dL_places_136 rfl (lv_at hl 2 rfl) ?_
      obtain ⟨r14, M16, e15, hF⟩ := c2_some hF
      refine q_callI (as := [.int l1, .int l2]) (rest := []) Cx (kX5_move e15) okX5_move ovX5_move wd_454 ⟨rfl, rfl, by decide, by decide⟩ hW oX ic5 rfl hl.1 (Nat.le_of_ble_eq_true rfl) rfl dL_places_137 (fun H locs hW => ?_)
      refine q_iconst (v := (-1 : Int32)) Cx dL_places_140 (by decide) ?_
      refine q_icmp_ne (tgt := 158) Cx dL_places_141 (by decide) (fun c17 => ?_) (fun c17 => ?_)
      · have hF := (if_neg c17).symm.trans hF
        refine q_iconst (v := (0 : Int32)) Cx dL_places_158 (by decide) ?_
        obtain ⟨rfl, rfl⟩ := Prod.mk.inj (Option.some.inj hF)
        exact hret _ _ _ _ dL_places_159 (by rfl) hW
      · have hF := (if_pos c17).symm.trans hF
        refine q_aload_n Cx dL_places_144 rfl (lv_at hl 0 rfl) ?_
        refine q_iload_n Cx dL_places_145 rfl (lv_at hl 1 rfl) ?_
        refine q_iconst (v := (3 : Int32)) Cx dL_places_146 (by decide) ?_
        obtain ⟨r18, M20, e19, hF⟩ := c2_some hF
        refine q_callI (as := [.int l1, .int (3 : Int32)]) (rest := []) Cx (kX5_ofTask e19) okX5_ofTask ovX5_ofTask wd_273 ⟨rfl, rfl, by decide, by decide⟩ hW oX ic5 rfl hl.1 (Nat.le_of_ble_eq_true rfl) rfl dL_places_147 (fun H locs hW => ?_)
        refine q_iload_n Cx dL_places_150 rfl (lv_at hl 3 rfl) ?_
        refine q_icmp_ne (tgt := 158) Cx dL_places_151 (by decide) (fun c21 => ?_) (fun c21 => ?_)
        · have hF := (if_neg c21).symm.trans hF
          refine q_iconst (v := (0 : Int32)) Cx dL_places_158 (by decide) ?_
          obtain ⟨rfl, rfl⟩ := Prod.mk.inj (Option.some.inj hF)
          exact hret _ _ _ _ dL_places_159 (by rfl) hW
        · have hF := (if_pos c21).symm.trans hF
          refine q_iconst (v := (1 : Int32)) Cx dL_places_154 (by decide) ?_
          refine q_goto (tgt := 159) Cx dL_places_155 (by decide) ?_
          obtain ⟨rfl, rfl⟩ := Prod.mk.inj (Option.some.inj hF)
          exact hret _ _ _ _ dL_places_159 (by rfl) hW
  · have hF := (if_neg c9).symm.trans hF
    refine q_aload_n Cx dL_places_36 rfl (lv_at hl 0 rfl) ?_
    refine q_iload_n Cx dL_places_37 rfl (lv_at hl 1 rfl) ?_
    refine q_iload Cx dL_places_38 (lv_at hl 6 rfl) ?_
    obtain ⟨r22, M24, e23, hF⟩ := c2_some hF
    refine q_callI (as := [.int l1, .int l6]) (rest := []) Cx (kX5_move e23) okX5_move ovX5_move wd_454 ⟨rfl, rfl, by decide, by decide⟩ hW oX ic5 rfl hl.1 (Nat.le_of_ble_eq_true rfl) rfl dL_places_40 (fun H locs hW => ?_)
    refine q_istore (lv' := [(7, .int r22), (0, .ref (vA V 11 0)), (1, .int l1), (2, .int l2), (3, .int l3), (4, .int l4), (5, .int l5), (6, .int l6)]) Cx dL_places_43 hl (by decide) rfl (fun ls hl => ?_)
    refine q_iload Cx dL_places_45 (lv_at hl 0 rfl) ?_
    refine q_if_ge (tgt := 65) Cx dL_places_47 (by decide) (fun c25 => ?_) (fun c25 => ?_)
    · have hF := (if_pos c25).symm.trans hF
      refine q_aload_n Cx dL_places_65 rfl (lv_at hl 1 rfl) ?_
      refine q_iconst (v := (4 : Int32)) Cx dL_places_66 (by decide) ?_
      obtain ⟨r26, e27, hF⟩ := c1_some hF
      refine q_callI (as := [.int (4 : Int32)]) (rest := []) Cx (kX5_count e27) okX5_count ovX5_count wd_417 ⟨rfl, rfl, by decide, by decide⟩ hW oX ic5 rfl hl.1 (Nat.le_of_ble_eq_true rfl) rfl dL_places_67 (fun H locs hW => ?_)
      refine q_istore (lv' := [(8, .int r26), (7, .int r22), (0, .ref (vA V 11 0)), (1, .int l1), (2, .int l2), (3, .int l3), (4, .int l4), (5, .int l5), (6, .int l6)]) Cx dL_places_70 hl (by decide) rfl (fun ls hl => ?_)
      refine q_iload Cx dL_places_72 (lv_at hl 1 rfl) ?_
      refine q_iload_n Cx dL_places_74 rfl (lv_at hl 5 rfl) ?_
      refine q_icmp_ne (tgt := 96) Cx dL_places_75 (by decide) (fun c28 => ?_) (fun c28 => ?_)
      · have hF := (if_neg c28).symm.trans hF
        refine q_iconst (v := (0 : Int32)) Cx dL_places_96 (by decide) ?_
        obtain ⟨rfl, rfl⟩ := Prod.mk.inj (Option.some.inj hF)
        exact hret _ _ _ _ dL_places_97 (by rfl) hW
      · have hF := (if_pos c28).symm.trans hF
        refine q_aload_n Cx dL_places_78 rfl (lv_at hl 2 rfl) ?_
        refine q_iload_n Cx dL_places_79 rfl (lv_at hl 3 rfl) ?_
        refine q_iconst (v := (3 : Int32)) Cx dL_places_80 (by decide) ?_
        obtain ⟨r29, M31, e30, hF⟩ := c2_some hF
        refine q_callI (as := [.int l1, .int (3 : Int32)]) (rest := []) Cx (kX5_ofTask e30) okX5_ofTask ovX5_ofTask wd_273 ⟨rfl, rfl, by decide, by decide⟩ hW oX ic5 rfl hl.1 (Nat.le_of_ble_eq_true rfl) rfl dL_places_81 (fun H locs hW => ?_)
        refine q_iload Cx dL_places_84 (lv_at hl 8 rfl) ?_
        refine q_icmp_ne (tgt := 96) Cx dL_places_86 (by decide) (fun c32 => ?_) (fun c32 => ?_)
        · have hF := (if_neg c32).symm.trans hF
          refine q_iconst (v := (0 : Int32)) Cx dL_places_96 (by decide) ?_
          obtain ⟨rfl, rfl⟩ := Prod.mk.inj (Option.some.inj hF)
          exact hret _ _ _ _ dL_places_97 (by rfl) hW
        · have hF := (if_pos c32).symm.trans hF
          refine q_aload_n Cx dL_places_89 rfl (lv_at hl 2 rfl) ?_
          obtain ⟨r33, M35, e34, hF⟩ := c2_some hF
          refine q_callI (as := []) (rest := []) Cx (kX5_undo e34) okX5_undo ovX5_undo wd_356 ⟨rfl, rfl, by decide, by decide⟩ hW oX ic5 rfl hl.1 (Nat.le_of_ble_eq_true rfl) rfl dL_places_90 (fun H locs hW => ?_)
          refine q_if_ge (tgt := 98) Cx dL_places_93 (by decide) (fun c36 => ?_) (fun c36 => ?_)
          · have hF := (if_pos c36).symm.trans hF
            refine q_iload Cx dL_places_98 (lv_at hl 6 rfl) ?_
            refine q_if_lt (tgt := 110) Cx dL_places_100 (by decide) (fun c37 => ?_) (fun c37 => ?_)
            · have hF := (if_pos c37).symm.trans hF
              exact wL_places_110 Cx hret hk30 hW (lv_sub hl [2, 3, 4, 5, 8, 0] rfl) hF
            · have hF := (if_neg c37).symm.trans hF
              refine q_iload Cx dL_places_103 (lv_at hl 0 rfl) ?_
              refine q_iload Cx dL_places_105 (lv_at hl 7 rfl) ?_
              refine q_icmp_ge (tgt := 118) Cx dL_places_107 (by decide) (fun c40 => ?_) (fun c40 => ?_)
              · have hF := (if_pos c40).symm.trans hF
                obtain ⟨x41, e42, hF⟩ := lt1_some hF
                refine q_iinc (k := 8) (v := x41) (lv' := [(6, .int x41), (8, .int r26), (7, .int r22), (0, .ref (vA V 11 0)), (1, .int l1), (2, .int l2), (3, .int l3), (4, .int l4), (5, .int l5)]) Cx dL_places_118 hl rfl e42.symm (by decide) rfl (fun ls hl => ?_)
                refine q_goto (tgt := 30) Cx dL_places_121 (by decide) ?_
                exact hk30 hW (lv_sub hl [3, 4, 5, 6, 7, 8, 0] rfl) hF
              · have hF := (if_neg c40).symm.trans hF
                exact wL_places_110 Cx hret hk30 hW (lv_sub hl [2, 3, 4, 5, 8, 0] rfl) hF
          · have hF := (if_neg c36).symm.trans hF
            refine q_iconst (v := (0 : Int32)) Cx dL_places_96 (by decide) ?_
            obtain ⟨rfl, rfl⟩ := Prod.mk.inj (Option.some.inj hF)
            exact hret _ _ _ _ dL_places_97 (by rfl) hW
    · have hF := (if_neg c25).symm.trans hF
      refine q_iload Cx dL_places_50 (lv_at hl 0 rfl) ?_
      refine q_bipush (v := (-5 : Int32)) Cx dL_places_52 (by decide) ?_
      refine q_icmp_ne (tgt := 63) Cx dL_places_54 (by decide) (fun c43 => ?_) (fun c43 => ?_)
      · have hF := (if_neg c43).symm.trans hF
        refine q_iconst (v := (0 : Int32)) Cx dL_places_63 (by decide) ?_
        obtain ⟨rfl, rfl⟩ := Prod.mk.inj (Option.some.inj hF)
        exact hret _ _ _ _ dL_places_64 (by rfl) hW
      · have hF := (if_pos c43).symm.trans hF
        refine q_iload Cx dL_places_57 (lv_at hl 7 rfl) ?_
        refine q_iload_n Cx dL_places_59 rfl (lv_at hl 4 rfl) ?_
        refine q_icmp_ne (tgt := 118) Cx dL_places_60 (by decide) (fun c44 => ?_) (fun c44 => ?_)
        · have hF := (if_neg c44).symm.trans hF
          obtain ⟨x45, e46, hF⟩ := lt1_some hF
          refine q_iinc (k := 7) (v := x45) (lv' := [(6, .int x45), (7, .int r22), (0, .ref (vA V 11 0)), (1, .int l1), (2, .int l2), (3, .int l3), (4, .int l4), (5, .int l5)]) Cx dL_places_118 hl rfl e46.symm (by decide) rfl (fun ls hl => ?_)
          refine q_goto (tgt := 30) Cx dL_places_121 (by decide) ?_
          exact hk30 hW (lv_sub hl [2, 3, 4, 5, 6, 7, 0] rfl) hF
        · have hF := (if_pos c44).symm.trans hF
          refine q_iconst (v := (0 : Int32)) Cx dL_places_63 (by decide) ?_
          obtain ⟨rfl, rfl⟩ := Prod.mk.inj (Option.some.inj hF)
          exact hret _ _ _ _ dL_places_64 (by rfl) hW
def FL_places_30 : Nat → Int32 → Int32 → Int32 → Int32 → Int32 → Int32 → Mem → Option (Int32 × Mem)
  | 0 => fun _ _ _ _ _ _ _ => none
  | n + 1 => FL_places_30s (FL_places_30 n)
set_option maxRecDepth 100000 in
theorem wL_places_30 {E : WE} {V : VT} {A : Nat → Prop} {H0 : Heap} (Cx : CX E RL cL_places 9 6 151) {r : Int32} {M' : Mem} (hret : RetI E V A H0 cL_places .boolean r M') : ∀ (n : Nat) {H : Heap} {locs : List Loc} {ls : Array Slot} {l1 : Int32} {l2 : Int32} {l3 : Int32} {l4 : Int32} {l5 : Int32} {l6 : Int32} {M : Mem}, Wd V A H0 M (eS E) H locs → lv_has ls 9 [(0, .ref (vA V 11 0)), (1, .int l1), (2, .int l2), (3, .int l3), (4, .int l4), (5, .int l5), (6, .int l6)] → FL_places_30 n l1 l2 l3 l4 l5 l6 M = some (r, M') → Wq E H locs 30 ls [] := by
  intro n
  induction n with
  | zero => intro _ _ _ _ _ _ _ _ _ _ hW hl hF; cases hF
  | succ n ih => intro _ _ _ _ _ _ _ _ _ _ hW hl hF; exact wL_places_30s Cx hret ih hW hl hF
def FL_places (M : Mem) (l1 : Int32) : Option (Int32 × Mem) :=
  c2 (FX5_ofTask M l1 (0 : Int32)) fun r1 M3 =>
  c1 (FX5_count M3 ((12 : Int32) + r1)) fun r4 =>
  c2 (FX5_ofTask M3 l1 (3 : Int32)) fun r6 M8 =>
  FL_places_30 fu l1 r4 r6 (-1 : Int32) (0 : Int32) (0 : Int32) M8
set_option maxRecDepth 100000 in
set_option maxHeartbeats 4000000 in
theorem wL_places {E : WE} {V : VT} {A : Nat → Prop} {H0 : Heap} (Cx : CX E RL cL_places 9 6 151) {r : Int32} {M' : Mem} (hret : RetI E V A H0 cL_places .boolean r M') {H : Heap} {locs : List Loc} {ls : Array Slot} {l1 : Int32} {M : Mem} (hW : Wd V A H0 M (eS E) H locs) (hl : lv_has ls 9 [(0, .ref (vA V 11 0)), (1, .int l1)]) (hF : FL_places M l1 = some (r, M')) : Wq E H locs 0 ls [] := by
  unfold FL_places at hF
  refine q_aload_n Cx dL_places_0 rfl (lv_at hl 0 rfl) ?_
  refine q_bipush (v := (12 : Int32)) Cx dL_places_1 (by decide) ?_
  refine q_aload_n Cx dL_places_3 rfl (lv_at hl 0 rfl) ?_
  refine q_iload_n Cx dL_places_4 rfl (lv_at hl 1 rfl) ?_
  refine q_iconst (v := (0 : Int32)) Cx dL_places_5 (by decide) ?_
  obtain ⟨r1, M3, e2, hF⟩ := c2_some hF
  refine q_callI (as := [.int l1, .int (0 : Int32)]) (rest := [.int (12 : Int32), .ref (vA V 11 0)]) Cx (kX5_ofTask e2) okX5_ofTask ovX5_ofTask wd_273 ⟨rfl, rfl, by decide, by decide⟩ hW oX ic5 rfl hl.1 (Nat.le_of_ble_eq_true rfl) rfl dL_places_6 (fun H locs hW => ?_)
  refine q_iadd Cx dL_places_9 ?_
  obtain ⟨r4, e5, hF⟩ := c1_some hF
  refine q_callI (as := [.int ((12 : Int32) + r1)]) (rest := []) Cx (kX5_count e5) okX5_count ovX5_count wd_417 ⟨rfl, rfl, by decide, by decide⟩ hW oX ic5 rfl hl.1 (Nat.le_of_ble_eq_true rfl) rfl dL_places_10 (fun H locs hW => ?_)
  refine q_istore_n (lv' := [(2, .int r4), (0, .ref (vA V 11 0)), (1, .int l1)]) Cx dL_places_13 rfl hl (by decide) rfl (fun ls hl => ?_)
  refine q_aload_n Cx dL_places_14 rfl (lv_at hl 1 rfl) ?_
  refine q_iload_n Cx dL_places_15 rfl (lv_at hl 2 rfl) ?_
  refine q_iconst (v := (3 : Int32)) Cx dL_places_16 (by decide) ?_
  obtain ⟨r6, M8, e7, hF⟩ := c2_some hF
  refine q_callI (as := [.int l1, .int (3 : Int32)]) (rest := []) Cx (kX5_ofTask e7) okX5_ofTask ovX5_ofTask wd_273 ⟨rfl, rfl, by decide, by decide⟩ hW oX ic5 rfl hl.1 (Nat.le_of_ble_eq_true rfl) rfl dL_places_17 (fun H locs hW => ?_)
  refine q_istore_n (lv' := [(3, .int r6), (2, .int r4), (0, .ref (vA V 11 0)), (1, .int l1)]) Cx dL_places_20 rfl hl (by decide) rfl (fun ls hl => ?_)
  refine q_iconst (v := (-1 : Int32)) Cx dL_places_21 (by decide) ?_
  refine q_istore (lv' := [(4, .int (-1 : Int32)), (3, .int r6), (2, .int r4), (0, .ref (vA V 11 0)), (1, .int l1)]) Cx dL_places_22 hl (by decide) rfl (fun ls hl => ?_)
  refine q_iconst (v := (0 : Int32)) Cx dL_places_24 (by decide) ?_
  refine q_istore (lv' := [(5, .int (0 : Int32)), (4, .int (-1 : Int32)), (3, .int r6), (2, .int r4), (0, .ref (vA V 11 0)), (1, .int l1)]) Cx dL_places_25 hl (by decide) rfl (fun ls hl => ?_)
  refine q_iconst (v := (0 : Int32)) Cx dL_places_27 (by decide) ?_
  refine q_istore (lv' := [(6, .int (0 : Int32)), (5, .int (0 : Int32)), (4, .int (-1 : Int32)), (3, .int r6), (2, .int r4), (0, .ref (vA V 11 0)), (1, .int l1)]) Cx dL_places_28 hl (by decide) rfl (fun ls hl => ?_)
  exact wL_places_30 Cx hret fu hW (lv_sub hl [5, 6, 4, 3, 2, 1, 0] rfl) hF
set_option maxRecDepth 100000 in
theorem kL_places {l : Launch} {V : VT} {M : Mem} {l1 : Int32} {r : Int32} {M' : Mem} (hF : FL_places M l1 = some (r, M')) : MetI l V yL_places cL_places 9 .boolean ({ frames := 6, cells := 0, slots := 0, locals := 151 } : Room) [.ref (vA V 11 0), .int l1] r M M' := metI_of (by decide) (Nat.le_of_ble_eq_true rfl) (fun E H0 _ Cx hret H locs ls hW hl => wL_places Cx hret hW hl hF)
theorem dL_dues_0 : decode cL_dues 0 = .ok (.lconst 0, 1) := by decide +kernel
theorem dL_dues_1 : decode cL_dues 1 = .ok (.lstore_n 2, 1) := by decide +kernel
theorem dL_dues_2 : decode cL_dues 2 = .ok (.iconst 0, 1) := by decide +kernel
theorem dL_dues_3 : decode cL_dues 3 = .ok (.istore 4, 2) := by decide +kernel
theorem dL_dues_5 : decode cL_dues 5 = .ok (.iload 4, 2) := by decide +kernel
theorem dL_dues_7 : decode cL_dues 7 = .ok (.iload_n 1, 1) := by decide +kernel
theorem dL_dues_8 : decode cL_dues 8 = .ok (.if_icmp .ge 18, 3) := by decide +kernel
theorem dL_dues_11 : decode cL_dues 11 = .ok (.lload_n 2, 1) := by decide +kernel
theorem dL_dues_12 : decode cL_dues 12 = .ok (.aload_n 0, 1) := by decide +kernel
theorem dL_dues_13 : decode cL_dues 13 = .ok (.iload 4, 2) := by decide +kernel
theorem dL_dues_15 : decode cL_dues 15 = .ok (.invokevirtual 40, 3) := by decide +kernel
theorem dL_dues_18 : decode cL_dues 18 = .ok (.ladd, 1) := by decide +kernel
theorem dL_dues_19 : decode cL_dues 19 = .ok (.lstore_n 2, 1) := by decide +kernel
theorem dL_dues_20 : decode cL_dues 20 = .ok (.iinc 4 1, 3) := by decide +kernel
theorem dL_dues_23 : decode cL_dues 23 = .ok (.goto (-18), 3) := by decide +kernel
theorem dL_dues_26 : decode cL_dues 26 = .ok (.lload_n 2, 1) := by decide +kernel
theorem dL_dues_27 : decode cL_dues 27 = .ok (.lreturn, 1) := by decide +kernel
theorem okL_dues : CalOK yL_dues cL_dues 5 (some .long) 2 := ⟨wd_15, wd_479, by decide +kernel⟩
theorem osL_dues : Cond.static yL_dues ∈ lw_gd := wd_478
def FL_dues_5s (M : Mem) (k5 : Int32 → Int64 → Int32 → Option Int64) (l1 : Int32) (l2 : Int64) (l4 : Int32) : Option Int64 :=
  if l1 ≤ l4 then
    some l2
  else
    c1 (FX5_due M l4) fun r2 =>
    lt1 (l2 + r2) fun x4 =>
    lt1 (l4 + (1 : Int32)) fun x6 =>
    k5 l1 x4 x6
set_option maxRecDepth 100000 in
set_option maxHeartbeats 4000000 in
theorem wL_dues_5s {E : WE} {V : VT} {A : Nat → Prop} {H0 : Heap} {M : Mem} (Cx : CX E RL cL_dues 5 2 42) {r : Int64} (hret : RetL E V A H0 cL_dues r M) {k5 : Int32 → Int64 → Int32 → Option Int64} (hk5 : ∀ {H : Heap} {locs : List Loc} {ls : Array Slot} {l1 : Int32} {l2 : Int64} {l4 : Int32}, Wd V A H0 M (eS E) H locs → lv_has ls 5 [(0, .ref (vA V 11 0)), (1, .int l1), (2, .long l2), (4, .int l4)] → k5 l1 l2 l4 = some r → Wq E H locs 5 ls []) {H : Heap} {locs : List Loc} {ls : Array Slot} {l1 : Int32} {l2 : Int64} {l4 : Int32} (hW : Wd V A H0 M (eS E) H locs) (hl : lv_has ls 5 [(0, .ref (vA V 11 0)), (1, .int l1), (2, .long l2), (4, .int l4)]) (hF : FL_dues_5s M k5 l1 l2 l4 = some r) : Wq E H locs 5 ls [] := by
  unfold FL_dues_5s at hF
  refine q_iload Cx dL_dues_5 (lv_at hl 3 rfl) ?_
  refine q_iload_n Cx dL_dues_7 rfl (lv_at hl 1 rfl) ?_
  refine q_icmp_ge (tgt := 26) Cx dL_dues_8 (by decide) (fun c1 => ?_) (fun c1 => ?_)
  · have hF := (if_pos c1).symm.trans hF
    refine q_lload_n Cx dL_dues_26 rfl (lv_at hl 2 rfl) ?_
    obtain rfl := Option.some.inj hF
    exact hret _ _ _ _ dL_dues_27 hW
  · have hF := (if_neg c1).symm.trans hF
    refine q_lload_n Cx dL_dues_11 rfl (lv_at hl 2 rfl) ?_
    refine q_aload_n Cx dL_dues_12 rfl (lv_at hl 0 rfl) ?_
    refine q_iload Cx dL_dues_13 (lv_at hl 3 rfl) ?_
    obtain ⟨r2, e3, hF⟩ := c1_some hF
    refine q_callL (as := [.int l4]) (rest := [.long l2]) Cx (kX5_due e3) okX5_due ovX5_due wd_412 ⟨rfl, rfl, by decide, by decide⟩ hW oX ic5 rfl hl.1 (Nat.le_of_ble_eq_true rfl) rfl dL_dues_15 (fun H locs hW => ?_)
    refine q_ladd Cx dL_dues_18 ?_
    obtain ⟨x4, e5, hF⟩ := lt1_some hF
    refine q_topl e5 ?_
    refine q_lstore_n (lv' := [(2, .long x4), (0, .ref (vA V 11 0)), (1, .int l1), (4, .int l4)]) Cx dL_dues_19 rfl hl (by decide) rfl (fun ls hl => ?_)
    obtain ⟨x6, e7, hF⟩ := lt1_some hF
    refine q_iinc (k := 3) (v := x6) (lv' := [(4, .int x6), (2, .long x4), (0, .ref (vA V 11 0)), (1, .int l1)]) Cx dL_dues_20 hl rfl e7.symm (by decide) rfl (fun ls hl => ?_)
    refine q_goto (tgt := 5) Cx dL_dues_23 (by decide) ?_
    exact hk5 hW (lv_sub hl [2, 3, 1, 0] rfl) hF
def FL_dues_5 (M : Mem) : Nat → Int32 → Int64 → Int32 → Option Int64
  | 0 => fun _ _ _ => none
  | n + 1 => FL_dues_5s M (FL_dues_5 M n)
set_option maxRecDepth 100000 in
theorem wL_dues_5 {E : WE} {V : VT} {A : Nat → Prop} {H0 : Heap} {M : Mem} (Cx : CX E RL cL_dues 5 2 42) {r : Int64} (hret : RetL E V A H0 cL_dues r M) : ∀ (n : Nat) {H : Heap} {locs : List Loc} {ls : Array Slot} {l1 : Int32} {l2 : Int64} {l4 : Int32}, Wd V A H0 M (eS E) H locs → lv_has ls 5 [(0, .ref (vA V 11 0)), (1, .int l1), (2, .long l2), (4, .int l4)] → FL_dues_5 M n l1 l2 l4 = some r → Wq E H locs 5 ls [] := by
  intro n
  induction n with
  | zero => intro _ _ _ _ _ _ hW hl hF; cases hF
  | succ n ih => intro _ _ _ _ _ _ hW hl hF; exact wL_dues_5s Cx hret ih hW hl hF
def FL_dues (M : Mem) (l1 : Int32) : Option Int64 :=
  FL_dues_5 M fu l1 (0 : Int64) (0 : Int32)
set_option maxRecDepth 100000 in
set_option maxHeartbeats 4000000 in
theorem wL_dues {E : WE} {V : VT} {A : Nat → Prop} {H0 : Heap} {M : Mem} (Cx : CX E RL cL_dues 5 2 42) {r : Int64} (hret : RetL E V A H0 cL_dues r M) {H : Heap} {locs : List Loc} {ls : Array Slot} {l1 : Int32} (hW : Wd V A H0 M (eS E) H locs) (hl : lv_has ls 5 [(0, .ref (vA V 11 0)), (1, .int l1)]) (hF : FL_dues M l1 = some r) : Wq E H locs 0 ls [] := by
  unfold FL_dues at hF
  refine q_lconst (v := (0 : Int64)) Cx dL_dues_0 (by decide) ?_
  refine q_lstore_n (lv' := [(2, .long (0 : Int64)), (0, .ref (vA V 11 0)), (1, .int l1)]) Cx dL_dues_1 rfl hl (by decide) rfl (fun ls hl => ?_)
  refine q_iconst (v := (0 : Int32)) Cx dL_dues_2 (by decide) ?_
  refine q_istore (lv' := [(4, .int (0 : Int32)), (2, .long (0 : Int64)), (0, .ref (vA V 11 0)), (1, .int l1)]) Cx dL_dues_3 hl (by decide) rfl (fun ls hl => ?_)
  exact wL_dues_5 Cx hret fu hW (lv_sub hl [2, 3, 1, 0] rfl) hF
set_option maxRecDepth 100000 in
theorem kL_dues {l : Launch} {V : VT} {M : Mem} {l1 : Int32} {r : Int64} (hF : FL_dues M l1 = some r) : MetL l V yL_dues cL_dues 5 ({ frames := 2, cells := 0, slots := 0, locals := 42 } : Room) [.ref (vA V 11 0), .int l1] r M M := metL_of (by decide) (Nat.le_of_ble_eq_true rfl) (fun E H0 _ Cx hret H locs ls hW hl => wL_dues Cx hret hW hl hF)
theorem dL_latest_0 : decode cL_latest 0 = .ok (.bipush (-6), 2) := by decide +kernel
theorem dL_latest_2 : decode cL_latest 2 = .ok (.istore_n 2, 1) := by decide +kernel
theorem dL_latest_3 : decode cL_latest 3 = .ok (.iconst 0, 1) := by decide +kernel
theorem dL_latest_4 : decode cL_latest 4 = .ok (.istore_n 3, 1) := by decide +kernel
theorem dL_latest_5 : decode cL_latest 5 = .ok (.iload_n 3, 1) := by decide +kernel
theorem dL_latest_6 : decode cL_latest 6 = .ok (.iload_n 1, 1) := by decide +kernel
theorem dL_latest_7 : decode cL_latest 7 = .ok (.if_icmp .ge 58, 3) := by decide +kernel
theorem dL_latest_10 : decode cL_latest 10 = .ok (.aload_n 0, 1) := by decide +kernel
theorem dL_latest_11 : decode cL_latest 11 = .ok (.iload_n 3, 1) := by decide +kernel
theorem dL_latest_12 : decode cL_latest 12 = .ok (.bipush 6, 2) := by decide +kernel
theorem dL_latest_14 : decode cL_latest 14 = .ok (.invokevirtual 26, 3) := by decide +kernel
theorem dL_latest_17 : decode cL_latest 17 = .ok (.ifCond .le 28, 3) := by decide +kernel
theorem dL_latest_20 : decode cL_latest 20 = .ok (.iload_n 2, 1) := by decide +kernel
theorem dL_latest_21 : decode cL_latest 21 = .ok (.ifCond .lt 20, 3) := by decide +kernel
theorem dL_latest_24 : decode cL_latest 24 = .ok (.aload_n 0, 1) := by decide +kernel
theorem dL_latest_25 : decode cL_latest 25 = .ok (.iload_n 3, 1) := by decide +kernel
theorem dL_latest_26 : decode cL_latest 26 = .ok (.bipush 6, 2) := by decide +kernel
theorem dL_latest_28 : decode cL_latest 28 = .ok (.invokevirtual 26, 3) := by decide +kernel
theorem dL_latest_31 : decode cL_latest 31 = .ok (.aload_n 0, 1) := by decide +kernel
theorem dL_latest_32 : decode cL_latest 32 = .ok (.iload_n 2, 1) := by decide +kernel
theorem dL_latest_33 : decode cL_latest 33 = .ok (.bipush 6, 2) := by decide +kernel
theorem dL_latest_35 : decode cL_latest 35 = .ok (.invokevirtual 26, 3) := by decide +kernel
theorem dL_latest_38 : decode cL_latest 38 = .ok (.if_icmp .le 7, 3) := by decide +kernel
theorem dL_latest_41 : decode cL_latest 41 = .ok (.iconst 1, 1) := by decide +kernel
theorem dL_latest_42 : decode cL_latest 42 = .ok (.goto 4, 3) := by decide +kernel
theorem dL_latest_45 : decode cL_latest 45 = .ok (.iconst 0, 1) := by decide +kernel
theorem dL_latest_46 : decode cL_latest 46 = .ok (.istore 4, 2) := by decide +kernel
theorem dL_latest_48 : decode cL_latest 48 = .ok (.iload 4, 2) := by decide +kernel
theorem dL_latest_50 : decode cL_latest 50 = .ok (.ifCond .eq 7, 3) := by decide +kernel
theorem dL_latest_53 : decode cL_latest 53 = .ok (.iload_n 3, 1) := by decide +kernel
theorem dL_latest_54 : decode cL_latest 54 = .ok (.goto 4, 3) := by decide +kernel
theorem dL_latest_57 : decode cL_latest 57 = .ok (.iload_n 2, 1) := by decide +kernel
theorem dL_latest_58 : decode cL_latest 58 = .ok (.istore_n 2, 1) := by decide +kernel
theorem dL_latest_59 : decode cL_latest 59 = .ok (.iinc 3 1, 3) := by decide +kernel
theorem dL_latest_62 : decode cL_latest 62 = .ok (.goto (-57), 3) := by decide +kernel
theorem dL_latest_65 : decode cL_latest 65 = .ok (.iload_n 2, 1) := by decide +kernel
theorem dL_latest_66 : decode cL_latest 66 = .ok (.ireturn, 1) := by decide +kernel
theorem okL_latest : CalOK yL_latest cL_latest 5 (some .int) 2 := ⟨wd_15, wd_527, by decide +kernel⟩
theorem osL_latest : Cond.static yL_latest ∈ lw_gd := wd_526
def FL_latest_46 (k5 : Int32 → Int32 → Int32 → Mem → Option (Int32 × Mem)) (l1 : Int32) (l2 : Int32) (l3 : Int32) (s0 : Int32) (M : Mem) : Option (Int32 × Mem) :=
  if s0 = 0 then
    lt1 (l3 + (1 : Int32)) fun x7 =>
    k5 l1 l2 x7 M
  else
    lt1 (l3 + (1 : Int32)) fun x9 =>
    k5 l1 l3 x9 M
set_option maxRecDepth 100000 in
set_option maxHeartbeats 4000000 in
theorem wL_latest_46 {E : WE} {V : VT} {A : Nat → Prop} {H0 : Heap} (Cx : CX E RL cL_latest 5 6 151) {r : Int32} {M' : Mem} (hret : RetI E V A H0 cL_latest .int r M') {k5 : Int32 → Int32 → Int32 → Mem → Option (Int32 × Mem)} (hk5 : ∀ {H : Heap} {locs : List Loc} {ls : Array Slot} {M : Mem} {l1 : Int32} {l2 : Int32} {l3 : Int32}, Wd V A H0 M (eS E) H locs → lv_has ls 5 [(0, .ref (vA V 11 0)), (1, .int l1), (2, .int l2), (3, .int l3)] → k5 l1 l2 l3 M = some (r, M') → Wq E H locs 5 ls []) {H : Heap} {locs : List Loc} {ls : Array Slot} {l1 : Int32} {l2 : Int32} {l3 : Int32} {s0 : Int32} {M : Mem} (hW : Wd V A H0 M (eS E) H locs) (hl : lv_has ls 5 [(0, .ref (vA V 11 0)), (1, .int l1), (2, .int l2), (3, .int l3)]) (hF : FL_latest_46 k5 l1 l2 l3 s0 M = some (r, M')) : Wq E H locs 46 ls [.int s0] := by
  unfold FL_latest_46 at hF
  refine q_istore (lv' := [(4, .int s0), (0, .ref (vA V 11 0)), (1, .int l1), (2, .int l2), (3, .int l3)]) Cx dL_latest_46 hl (by decide) rfl (fun ls hl => ?_)
  refine q_iload Cx dL_latest_48 (lv_at hl 0 rfl) ?_
  refine q_if_eq (tgt := 57) Cx dL_latest_50 (by decide) (fun c6 => ?_) (fun c6 => ?_)
  · have hF := (if_pos c6).symm.trans hF
    refine q_iload_n Cx dL_latest_57 rfl (lv_at hl 3 rfl) ?_
    refine q_istore_n (lv' := [(2, .int l2), (4, .int s0), (0, .ref (vA V 11 0)), (1, .int l1), (3, .int l3)]) Cx dL_latest_58 rfl hl (by decide) rfl (fun ls hl => ?_)
    obtain ⟨x7, e8, hF⟩ := lt1_some hF
    refine q_iinc (k := 4) (v := x7) (lv' := [(3, .int x7), (2, .int l2), (4, .int s0), (0, .ref (vA V 11 0)), (1, .int l1)]) Cx dL_latest_59 hl rfl e8.symm (by decide) rfl (fun ls hl => ?_)
    refine q_goto (tgt := 5) Cx dL_latest_62 (by decide) ?_
    exact hk5 hW (lv_sub hl [3, 4, 1, 0] rfl) hF
  · have hF := (if_neg c6).symm.trans hF
    refine q_iload_n Cx dL_latest_53 rfl (lv_at hl 4 rfl) ?_
    refine q_goto (tgt := 58) Cx dL_latest_54 (by decide) ?_
    refine q_istore_n (lv' := [(2, .int l3), (4, .int s0), (0, .ref (vA V 11 0)), (1, .int l1), (3, .int l3)]) Cx dL_latest_58 rfl hl (by decide) rfl (fun ls hl => ?_)
    obtain ⟨x9, e10, hF⟩ := lt1_some hF
    refine q_iinc (k := 4) (v := x9) (lv' := [(3, .int x9), (2, .int l3), (4, .int s0), (0, .ref (vA V 11 0)), (1, .int l1)]) Cx dL_latest_59 hl rfl e10.symm (by decide) rfl (fun ls hl => ?_)
    refine q_goto (tgt := 5) Cx dL_latest_62 (by decide) ?_
    exact hk5 hW (lv_sub hl [3, 4, 1, 0] rfl) hF
def FL_latest_45 (k5 : Int32 → Int32 → Int32 → Mem → Option (Int32 × Mem)) (l1 : Int32) (l2 : Int32) (l3 : Int32) (M : Mem) : Option (Int32 × Mem) :=
  FL_latest_46 k5 l1 l2 l3 (0 : Int32) M
set_option maxRecDepth 100000 in
set_option maxHeartbeats 4000000 in
theorem wL_latest_45 {E : WE} {V : VT} {A : Nat → Prop} {H0 : Heap} (Cx : CX E RL cL_latest 5 6 151) {r : Int32} {M' : Mem} (hret : RetI E V A H0 cL_latest .int r M') {k5 : Int32 → Int32 → Int32 → Mem → Option (Int32 × Mem)} (hk5 : ∀ {H : Heap} {locs : List Loc} {ls : Array Slot} {M : Mem} {l1 : Int32} {l2 : Int32} {l3 : Int32}, Wd V A H0 M (eS E) H locs → lv_has ls 5 [(0, .ref (vA V 11 0)), (1, .int l1), (2, .int l2), (3, .int l3)] → k5 l1 l2 l3 M = some (r, M') → Wq E H locs 5 ls []) {H : Heap} {locs : List Loc} {ls : Array Slot} {l1 : Int32} {l2 : Int32} {l3 : Int32} {M : Mem} (hW : Wd V A H0 M (eS E) H locs) (hl : lv_has ls 5 [(0, .ref (vA V 11 0)), (1, .int l1), (2, .int l2), (3, .int l3)]) (hF : FL_latest_45 k5 l1 l2 l3 M = some (r, M')) : Wq E H locs 45 ls [] := by
  unfold FL_latest_45 at hF
  refine q_iconst (v := (0 : Int32)) Cx dL_latest_45 (by decide) ?_
  exact wL_latest_46 Cx hret hk5 hW (lv_sub hl [0, 1, 2, 3] rfl) hF
def FL_latest_41 (k5 : Int32 → Int32 → Int32 → Mem → Option (Int32 × Mem)) (l1 : Int32) (l2 : Int32) (l3 : Int32) (M : Mem) : Option (Int32 × Mem) :=
  FL_latest_46 k5 l1 l2 l3 (1 : Int32) M
set_option maxRecDepth 100000 in
set_option maxHeartbeats 4000000 in
theorem wL_latest_41 {E : WE} {V : VT} {A : Nat → Prop} {H0 : Heap} (Cx : CX E RL cL_latest 5 6 151) {r : Int32} {M' : Mem} (hret : RetI E V A H0 cL_latest .int r M') {k5 : Int32 → Int32 → Int32 → Mem → Option (Int32 × Mem)} (hk5 : ∀ {H : Heap} {locs : List Loc} {ls : Array Slot} {M : Mem} {l1 : Int32} {l2 : Int32} {l3 : Int32}, Wd V A H0 M (eS E) H locs → lv_has ls 5 [(0, .ref (vA V 11 0)), (1, .int l1), (2, .int l2), (3, .int l3)] → k5 l1 l2 l3 M = some (r, M') → Wq E H locs 5 ls []) {H : Heap} {locs : List Loc} {ls : Array Slot} {l1 : Int32} {l2 : Int32} {l3 : Int32} {M : Mem} (hW : Wd V A H0 M (eS E) H locs) (hl : lv_has ls 5 [(0, .ref (vA V 11 0)), (1, .int l1), (2, .int l2), (3, .int l3)]) (hF : FL_latest_41 k5 l1 l2 l3 M = some (r, M')) : Wq E H locs 41 ls [] := by
  unfold FL_latest_41 at hF
  refine q_iconst (v := (1 : Int32)) Cx dL_latest_41 (by decide) ?_
  refine q_goto (tgt := 46) Cx dL_latest_42 (by decide) ?_
  exact wL_latest_46 Cx hret hk5 hW (lv_sub hl [0, 1, 2, 3] rfl) hF
def FL_latest_5s (k5 : Int32 → Int32 → Int32 → Mem → Option (Int32 × Mem)) (l1 : Int32) (l2 : Int32) (l3 : Int32) (M : Mem) : Option (Int32 × Mem) :=
  if l1 ≤ l3 then
    some (l2, M)
  else
    c2 (FX5_ofTask M l3 (6 : Int32)) fun r2 M4 =>
    if r2 ≤ 0 then
      FL_latest_45 k5 l1 l2 l3 M4
    else
      if l2 < 0 then
        FL_latest_41 k5 l1 l2 l3 M4
      else
        c2 (FX5_ofTask M4 l3 (6 : Int32)) fun r12 M14 =>
        c2 (FX5_ofTask M14 l2 (6 : Int32)) fun r15 M17 =>
        if r12 ≤ r15 then
          FL_latest_45 k5 l1 l2 l3 M17
        else
          FL_latest_41 k5 l1 l2 l3 M17
set_option maxRecDepth 100000 in
set_option maxHeartbeats 4000000 in
theorem wL_latest_5s {E : WE} {V : VT} {A : Nat → Prop} {H0 : Heap} (Cx : CX E RL cL_latest 5 6 151) {r : Int32} {M' : Mem} (hret : RetI E V A H0 cL_latest .int r M') {k5 : Int32 → Int32 → Int32 → Mem → Option (Int32 × Mem)} (hk5 : ∀ {H : Heap} {locs : List Loc} {ls : Array Slot} {M : Mem} {l1 : Int32} {l2 : Int32} {l3 : Int32}, Wd V A H0 M (eS E) H locs → lv_has ls 5 [(0, .ref (vA V 11 0)), (1, .int l1), (2, .int l2), (3, .int l3)] → k5 l1 l2 l3 M = some (r, M') → Wq E H locs 5 ls []) {H : Heap} {locs : List Loc} {ls : Array Slot} {l1 : Int32} {l2 : Int32} {l3 : Int32} {M : Mem} (hW : Wd V A H0 M (eS E) H locs) (hl : lv_has ls 5 [(0, .ref (vA V 11 0)), (1, .int l1), (2, .int l2), (3, .int l3)]) (hF : FL_latest_5s k5 l1 l2 l3 M = some (r, M')) : Wq E H locs 5 ls [] := by
  unfold FL_latest_5s at hF
  refine q_iload_n Cx dL_latest_5 rfl (lv_at hl 3 rfl) ?_
  refine q_iload_n Cx dL_latest_6 rfl (lv_at hl 1 rfl) ?_
  refine q_icmp_ge (tgt := 65) Cx dL_latest_7 (by decide) (fun c1 => ?_) (fun c1 => ?_)
  · have hF := (if_pos c1).symm.trans hF
    refine q_iload_n Cx dL_latest_65 rfl (lv_at hl 2 rfl) ?_
    obtain ⟨rfl, rfl⟩ := Prod.mk.inj (Option.some.inj hF)
    exact hret _ _ _ _ dL_latest_66 (nI32 _) hW
  · have hF := (if_neg c1).symm.trans hF
    refine q_aload_n Cx dL_latest_10 rfl (lv_at hl 0 rfl) ?_
    refine q_iload_n Cx dL_latest_11 rfl (lv_at hl 3 rfl) ?_
    refine q_bipush (v := (6 : Int32)) Cx dL_latest_12 (by decide) ?_
    obtain ⟨r2, M4, e3, hF⟩ := c2_some hF
    refine q_callI (as := [.int l3, .int (6 : Int32)]) (rest := []) Cx (kX5_ofTask e3) okX5_ofTask ovX5_ofTask wd_273 ⟨rfl, rfl, by decide, by decide⟩ hW oX ic5 rfl hl.1 (Nat.le_of_ble_eq_true rfl) rfl dL_latest_14 (fun H locs hW => ?_)
    refine q_if_le (tgt := 45) Cx dL_latest_17 (by decide) (fun c5 => ?_) (fun c5 => ?_)
    · have hF := (if_pos c5).symm.trans hF
      exact wL_latest_45 Cx hret hk5 hW (lv_sub hl [0, 1, 2, 3] rfl) hF
    · have hF := (if_neg c5).symm.trans hF
      refine q_iload_n Cx dL_latest_20 rfl (lv_at hl 2 rfl) ?_
      refine q_if_lt (tgt := 41) Cx dL_latest_21 (by decide) (fun c11 => ?_) (fun c11 => ?_)
      · have hF := (if_pos c11).symm.trans hF
        exact wL_latest_41 Cx hret hk5 hW (lv_sub hl [0, 1, 2, 3] rfl) hF
      · have hF := (if_neg c11).symm.trans hF
        refine q_aload_n Cx dL_latest_24 rfl (lv_at hl 0 rfl) ?_
        refine q_iload_n Cx dL_latest_25 rfl (lv_at hl 3 rfl) ?_
        refine q_bipush (v := (6 : Int32)) Cx dL_latest_26 (by decide) ?_
        obtain ⟨r12, M14, e13, hF⟩ := c2_some hF
        refine q_callI (as := [.int l3, .int (6 : Int32)]) (rest := []) Cx (kX5_ofTask e13) okX5_ofTask ovX5_ofTask wd_273 ⟨rfl, rfl, by decide, by decide⟩ hW oX ic5 rfl hl.1 (Nat.le_of_ble_eq_true rfl) rfl dL_latest_28 (fun H locs hW => ?_)
        refine q_aload_n Cx dL_latest_31 rfl (lv_at hl 0 rfl) ?_
        refine q_iload_n Cx dL_latest_32 rfl (lv_at hl 2 rfl) ?_
        refine q_bipush (v := (6 : Int32)) Cx dL_latest_33 (by decide) ?_
        obtain ⟨r15, M17, e16, hF⟩ := c2_some hF
        refine q_callI (as := [.int l2, .int (6 : Int32)]) (rest := [.int r12]) Cx (kX5_ofTask e16) okX5_ofTask ovX5_ofTask wd_273 ⟨rfl, rfl, by decide, by decide⟩ hW oX ic5 rfl hl.1 (Nat.le_of_ble_eq_true rfl) rfl dL_latest_35 (fun H locs hW => ?_)
        refine q_icmp_le (tgt := 45) Cx dL_latest_38 (by decide) (fun c18 => ?_) (fun c18 => ?_)
        · have hF := (if_pos c18).symm.trans hF
          exact wL_latest_45 Cx hret hk5 hW (lv_sub hl [0, 1, 2, 3] rfl) hF
        · have hF := (if_neg c18).symm.trans hF
          exact wL_latest_41 Cx hret hk5 hW (lv_sub hl [0, 1, 2, 3] rfl) hF
def FL_latest_5 : Nat → Int32 → Int32 → Int32 → Mem → Option (Int32 × Mem)
  | 0 => fun _ _ _ _ => none
  | n + 1 => FL_latest_5s (FL_latest_5 n)
set_option maxRecDepth 100000 in
theorem wL_latest_5 {E : WE} {V : VT} {A : Nat → Prop} {H0 : Heap} (Cx : CX E RL cL_latest 5 6 151) {r : Int32} {M' : Mem} (hret : RetI E V A H0 cL_latest .int r M') : ∀ (n : Nat) {H : Heap} {locs : List Loc} {ls : Array Slot} {l1 : Int32} {l2 : Int32} {l3 : Int32} {M : Mem}, Wd V A H0 M (eS E) H locs → lv_has ls 5 [(0, .ref (vA V 11 0)), (1, .int l1), (2, .int l2), (3, .int l3)] → FL_latest_5 n l1 l2 l3 M = some (r, M') → Wq E H locs 5 ls [] := by
  intro n
  induction n with
  | zero => intro _ _ _ _ _ _ _ hW hl hF; cases hF
  | succ n ih => intro _ _ _ _ _ _ _ hW hl hF; exact wL_latest_5s Cx hret ih hW hl hF
def FL_latest (M : Mem) (l1 : Int32) : Option (Int32 × Mem) :=
  FL_latest_5 fu l1 (-6 : Int32) (0 : Int32) M
set_option maxRecDepth 100000 in
set_option maxHeartbeats 4000000 in
theorem wL_latest {E : WE} {V : VT} {A : Nat → Prop} {H0 : Heap} (Cx : CX E RL cL_latest 5 6 151) {r : Int32} {M' : Mem} (hret : RetI E V A H0 cL_latest .int r M') {H : Heap} {locs : List Loc} {ls : Array Slot} {l1 : Int32} {M : Mem} (hW : Wd V A H0 M (eS E) H locs) (hl : lv_has ls 5 [(0, .ref (vA V 11 0)), (1, .int l1)]) (hF : FL_latest M l1 = some (r, M')) : Wq E H locs 0 ls [] := by
  unfold FL_latest at hF
  refine q_bipush (v := (-6 : Int32)) Cx dL_latest_0 (by decide) ?_
  refine q_istore_n (lv' := [(2, .int (-6 : Int32)), (0, .ref (vA V 11 0)), (1, .int l1)]) Cx dL_latest_2 rfl hl (by decide) rfl (fun ls hl => ?_)
  refine q_iconst (v := (0 : Int32)) Cx dL_latest_3 (by decide) ?_
  refine q_istore_n (lv' := [(3, .int (0 : Int32)), (2, .int (-6 : Int32)), (0, .ref (vA V 11 0)), (1, .int l1)]) Cx dL_latest_4 rfl hl (by decide) rfl (fun ls hl => ?_)
  exact wL_latest_5 Cx hret fu hW (lv_sub hl [2, 3, 1, 0] rfl) hF
set_option maxRecDepth 100000 in
theorem kL_latest {l : Launch} {V : VT} {M : Mem} {l1 : Int32} {r : Int32} {M' : Mem} (hF : FL_latest M l1 = some (r, M')) : MetI l V yL_latest cL_latest 5 .int ({ frames := 6, cells := 0, slots := 0, locals := 151 } : Room) [.ref (vA V 11 0), .int l1] r M M' := metI_of (by decide) (Nat.le_of_ble_eq_true rfl) (fun E H0 _ Cx hret H locs ls hW hl => wL_latest Cx hret hW hl hF)
theorem dL_trades_0 : decode cL_trades 0 = .ok (.aload_n 0, 1) := by decide +kernel
theorem dL_trades_1 : decode cL_trades 1 = .ok (.iload_n 1, 1) := by decide +kernel
theorem dL_trades_2 : decode cL_trades 2 = .ok (.invokestatic 65, 3) := by decide +kernel
theorem dL_trades_5 : decode cL_trades 5 = .ok (.lstore_n 2, 1) := by decide +kernel
theorem dL_trades_6 : decode cL_trades 6 = .ok (.aload_n 0, 1) := by decide +kernel
theorem dL_trades_7 : decode cL_trades 7 = .ok (.bipush 6, 2) := by decide +kernel
theorem dL_trades_9 : decode cL_trades 9 = .ok (.invokevirtual 44, 3) := by decide +kernel
theorem dL_trades_12 : decode cL_trades 12 = .ok (.istore 4, 2) := by decide +kernel
theorem dL_trades_14 : decode cL_trades 14 = .ok (.aload_n 0, 1) := by decide +kernel
theorem dL_trades_15 : decode cL_trades 15 = .ok (.invokevirtual 69, 3) := by decide +kernel
theorem dL_trades_18 : decode cL_trades 18 = .ok (.istore 5, 2) := by decide +kernel
theorem dL_trades_20 : decode cL_trades 20 = .ok (.aload_n 0, 1) := by decide +kernel
theorem dL_trades_21 : decode cL_trades 21 = .ok (.iload_n 1, 1) := by decide +kernel
theorem dL_trades_22 : decode cL_trades 22 = .ok (.invokestatic 72, 3) := by decide +kernel
theorem dL_trades_25 : decode cL_trades 25 = .ok (.istore 6, 2) := by decide +kernel
theorem dL_trades_27 : decode cL_trades 27 = .ok (.iload 6, 2) := by decide +kernel
theorem dL_trades_29 : decode cL_trades 29 = .ok (.ifCond .ge 7, 3) := by decide +kernel
theorem dL_trades_32 : decode cL_trades 32 = .ok (.iconst 0, 1) := by decide +kernel
theorem dL_trades_33 : decode cL_trades 33 = .ok (.goto 10, 3) := by decide +kernel
theorem dL_trades_36 : decode cL_trades 36 = .ok (.aload_n 0, 1) := by decide +kernel
theorem dL_trades_37 : decode cL_trades 37 = .ok (.iload 6, 2) := by decide +kernel
theorem dL_trades_39 : decode cL_trades 39 = .ok (.iconst 0, 1) := by decide +kernel
theorem dL_trades_40 : decode cL_trades 40 = .ok (.invokevirtual 75, 3) := by decide +kernel
theorem dL_trades_43 : decode cL_trades 43 = .ok (.istore 7, 2) := by decide +kernel
theorem dL_trades_45 : decode cL_trades 45 = .ok (.iload 6, 2) := by decide +kernel
theorem dL_trades_47 : decode cL_trades 47 = .ok (.ifCond .ge 7, 3) := by decide +kernel
theorem dL_trades_50 : decode cL_trades 50 = .ok (.iconst 0, 1) := by decide +kernel
theorem dL_trades_51 : decode cL_trades 51 = .ok (.goto 10, 3) := by decide +kernel
theorem dL_trades_54 : decode cL_trades 54 = .ok (.aload_n 0, 1) := by decide +kernel
theorem dL_trades_55 : decode cL_trades 55 = .ok (.iload 6, 2) := by decide +kernel
theorem dL_trades_57 : decode cL_trades 57 = .ok (.iconst 1, 1) := by decide +kernel
theorem dL_trades_58 : decode cL_trades 58 = .ok (.invokevirtual 75, 3) := by decide +kernel
theorem dL_trades_61 : decode cL_trades 61 = .ok (.istore 8, 2) := by decide +kernel
theorem dL_trades_63 : decode cL_trades 63 = .ok (.iload 6, 2) := by decide +kernel
theorem dL_trades_65 : decode cL_trades 65 = .ok (.ifCond .ge 7, 3) := by decide +kernel
theorem dL_trades_68 : decode cL_trades 68 = .ok (.iconst 0, 1) := by decide +kernel
theorem dL_trades_69 : decode cL_trades 69 = .ok (.goto 9, 3) := by decide +kernel
theorem dL_trades_72 : decode cL_trades 72 = .ok (.aload_n 0, 1) := by decide +kernel
theorem dL_trades_73 : decode cL_trades 73 = .ok (.iload 6, 2) := by decide +kernel
theorem dL_trades_75 : decode cL_trades 75 = .ok (.invokevirtual 78, 3) := by decide +kernel
theorem dL_trades_78 : decode cL_trades 78 = .ok (.istore 9, 2) := by decide +kernel
theorem dL_trades_80 : decode cL_trades 80 = .ok (.iload 6, 2) := by decide +kernel
theorem dL_trades_82 : decode cL_trades 82 = .ok (.ifCond .ge 7, 3) := by decide +kernel
theorem dL_trades_85 : decode cL_trades 85 = .ok (.iconst 0, 1) := by decide +kernel
theorem dL_trades_86 : decode cL_trades 86 = .ok (.goto 11, 3) := by decide +kernel
theorem dL_trades_89 : decode cL_trades 89 = .ok (.aload_n 0, 1) := by decide +kernel
theorem dL_trades_90 : decode cL_trades 90 = .ok (.iload 6, 2) := by decide +kernel
theorem dL_trades_92 : decode cL_trades 92 = .ok (.bipush 6, 2) := by decide +kernel
theorem dL_trades_94 : decode cL_trades 94 = .ok (.invokevirtual 26, 3) := by decide +kernel
theorem dL_trades_97 : decode cL_trades 97 = .ok (.istore 10, 2) := by decide +kernel
theorem dL_trades_99 : decode cL_trades 99 = .ok (.iload 6, 2) := by decide +kernel
theorem dL_trades_101 : decode cL_trades 101 = .ok (.ifCond .ge 7, 3) := by decide +kernel
theorem dL_trades_104 : decode cL_trades 104 = .ok (.iconst 0, 1) := by decide +kernel
theorem dL_trades_105 : decode cL_trades 105 = .ok (.goto 9, 3) := by decide +kernel
theorem dL_trades_108 : decode cL_trades 108 = .ok (.aload_n 0, 1) := by decide +kernel
theorem dL_trades_109 : decode cL_trades 109 = .ok (.iload 6, 2) := by decide +kernel
theorem dL_trades_111 : decode cL_trades 111 = .ok (.invokevirtual 81, 3) := by decide +kernel
theorem dL_trades_114 : decode cL_trades 114 = .ok (.istore 11, 2) := by decide +kernel
theorem dL_trades_116 : decode cL_trades 116 = .ok (.iload 9, 2) := by decide +kernel
theorem dL_trades_118 : decode cL_trades 118 = .ok (.bipush (-6), 2) := by decide +kernel
theorem dL_trades_120 : decode cL_trades 120 = .ok (.if_icmp .ne 18, 3) := by decide +kernel
theorem dL_trades_123 : decode cL_trades 123 = .ok (.iload 7, 2) := by decide +kernel
theorem dL_trades_125 : decode cL_trades 125 = .ok (.iload 10, 2) := by decide +kernel
theorem dL_trades_127 : decode cL_trades 127 = .ok (.if_icmp .ge 7, 3) := by decide +kernel
theorem dL_trades_130 : decode cL_trades 130 = .ok (.iconst 1, 1) := by decide +kernel
theorem dL_trades_131 : decode cL_trades 131 = .ok (.goto 48, 3) := by decide +kernel
theorem dL_trades_134 : decode cL_trades 134 = .ok (.iconst 0, 1) := by decide +kernel
theorem dL_trades_135 : decode cL_trades 135 = .ok (.goto 44, 3) := by decide +kernel
theorem dL_trades_138 : decode cL_trades 138 = .ok (.iload 11, 2) := by decide +kernel
theorem dL_trades_140 : decode cL_trades 140 = .ok (.iload 9, 2) := by decide +kernel
theorem dL_trades_142 : decode cL_trades 142 = .ok (.if_icmp .lt 25, 3) := by decide +kernel
theorem dL_trades_145 : decode cL_trades 145 = .ok (.iload 7, 2) := by decide +kernel
theorem dL_trades_147 : decode cL_trades 147 = .ok (.iload 10, 2) := by decide +kernel
theorem dL_trades_149 : decode cL_trades 149 = .ok (.if_icmp .ne 14, 3) := by decide +kernel
theorem dL_trades_152 : decode cL_trades 152 = .ok (.iload 8, 2) := by decide +kernel
theorem dL_trades_154 : decode cL_trades 154 = .ok (.iload 9, 2) := by decide +kernel
theorem dL_trades_156 : decode cL_trades 156 = .ok (.if_icmp .ne 7, 3) := by decide +kernel
theorem dL_trades_159 : decode cL_trades 159 = .ok (.iconst 1, 1) := by decide +kernel
theorem dL_trades_160 : decode cL_trades 160 = .ok (.goto 19, 3) := by decide +kernel
theorem dL_trades_163 : decode cL_trades 163 = .ok (.iconst 0, 1) := by decide +kernel
theorem dL_trades_164 : decode cL_trades 164 = .ok (.goto 15, 3) := by decide +kernel
theorem dL_trades_167 : decode cL_trades 167 = .ok (.iload 7, 2) := by decide +kernel
theorem dL_trades_169 : decode cL_trades 169 = .ok (.iload 10, 2) := by decide +kernel
theorem dL_trades_171 : decode cL_trades 171 = .ok (.if_icmp .ge 7, 3) := by decide +kernel
theorem dL_trades_174 : decode cL_trades 174 = .ok (.iconst 1, 1) := by decide +kernel
theorem dL_trades_175 : decode cL_trades 175 = .ok (.goto 4, 3) := by decide +kernel
theorem dL_trades_178 : decode cL_trades 178 = .ok (.iconst 0, 1) := by decide +kernel
theorem dL_trades_179 : decode cL_trades 179 = .ok (.istore 12, 2) := by decide +kernel
theorem dL_trades_181 : decode cL_trades 181 = .ok (.iload 12, 2) := by decide +kernel
theorem dL_trades_183 : decode cL_trades 183 = .ok (.ifCond .ne 8, 3) := by decide +kernel
theorem dL_trades_186 : decode cL_trades 186 = .ok (.iload 6, 2) := by decide +kernel
theorem dL_trades_188 : decode cL_trades 188 = .ok (.ifCond .ge 7, 3) := by decide +kernel
theorem dL_trades_191 : decode cL_trades 191 = .ok (.iconst 1, 1) := by decide +kernel
theorem dL_trades_192 : decode cL_trades 192 = .ok (.goto 4, 3) := by decide +kernel
theorem dL_trades_195 : decode cL_trades 195 = .ok (.iconst 0, 1) := by decide +kernel
theorem dL_trades_196 : decode cL_trades 196 = .ok (.istore 12, 2) := by decide +kernel
theorem dL_trades_198 : decode cL_trades 198 = .ok (.aload_n 0, 1) := by decide +kernel
theorem dL_trades_199 : decode cL_trades 199 = .ok (.invokevirtual 84, 3) := by decide +kernel
theorem dL_trades_202 : decode cL_trades 202 = .ok (.istore 13, 2) := by decide +kernel
theorem dL_trades_204 : decode cL_trades 204 = .ok (.iload 12, 2) := by decide +kernel
theorem dL_trades_206 : decode cL_trades 206 = .ok (.ifCond .eq 48, 3) := by decide +kernel
theorem dL_trades_209 : decode cL_trades 209 = .ok (.iload 13, 2) := by decide +kernel
theorem dL_trades_211 : decode cL_trades 211 = .ok (.aload_n 0, 1) := by decide +kernel
theorem dL_trades_212 : decode cL_trades 212 = .ok (.iconst 1, 1) := by decide +kernel
theorem dL_trades_213 : decode cL_trades 213 = .ok (.invokevirtual 44, 3) := by decide +kernel
theorem dL_trades_216 : decode cL_trades 216 = .ok (.if_icmp .ne 38, 3) := by decide +kernel
theorem dL_trades_219 : decode cL_trades 219 = .ok (.aload_n 0, 1) := by decide +kernel
theorem dL_trades_220 : decode cL_trades 220 = .ok (.iload_n 1, 1) := by decide +kernel
theorem dL_trades_221 : decode cL_trades 221 = .ok (.invokestatic 65, 3) := by decide +kernel
theorem dL_trades_224 : decode cL_trades 224 = .ok (.lload_n 2, 1) := by decide +kernel
theorem dL_trades_225 : decode cL_trades 225 = .ok (.lcmp, 1) := by decide +kernel
theorem dL_trades_226 : decode cL_trades 226 = .ok (.ifCond .ne 28, 3) := by decide +kernel
theorem dL_trades_229 : decode cL_trades 229 = .ok (.aload_n 0, 1) := by decide +kernel
theorem dL_trades_230 : decode cL_trades 230 = .ok (.bipush 6, 2) := by decide +kernel
theorem dL_trades_232 : decode cL_trades 232 = .ok (.invokevirtual 44, 3) := by decide +kernel
theorem dL_trades_235 : decode cL_trades 235 = .ok (.iload 4, 2) := by decide +kernel
theorem dL_trades_237 : decode cL_trades 237 = .ok (.if_icmp .ne 17, 3) := by decide +kernel
theorem dL_trades_240 : decode cL_trades 240 = .ok (.aload_n 0, 1) := by decide +kernel
theorem dL_trades_241 : decode cL_trades 241 = .ok (.iconst 4, 1) := by decide +kernel
theorem dL_trades_242 : decode cL_trades 242 = .ok (.invokevirtual 44, 3) := by decide +kernel
theorem dL_trades_245 : decode cL_trades 245 = .ok (.iload 5, 2) := by decide +kernel
theorem dL_trades_247 : decode cL_trades 247 = .ok (.if_icmp .ne 7, 3) := by decide +kernel
theorem dL_trades_250 : decode cL_trades 250 = .ok (.iconst 1, 1) := by decide +kernel
theorem dL_trades_251 : decode cL_trades 251 = .ok (.goto 4, 3) := by decide +kernel
theorem dL_trades_254 : decode cL_trades 254 = .ok (.iconst 0, 1) := by decide +kernel
theorem dL_trades_255 : decode cL_trades 255 = .ok (.istore 12, 2) := by decide +kernel
theorem dL_trades_257 : decode cL_trades 257 = .ok (.iload 12, 2) := by decide +kernel
theorem dL_trades_259 : decode cL_trades 259 = .ok (.ifCond .eq 49, 3) := by decide +kernel
theorem dL_trades_262 : decode cL_trades 262 = .ok (.iload 6, 2) := by decide +kernel
theorem dL_trades_264 : decode cL_trades 264 = .ok (.ifCond .ge 11, 3) := by decide +kernel
theorem dL_trades_267 : decode cL_trades 267 = .ok (.iload 13, 2) := by decide +kernel
theorem dL_trades_269 : decode cL_trades 269 = .ok (.ifCond .ne 39, 3) := by decide +kernel
theorem dL_trades_272 : decode cL_trades 272 = .ok (.goto 32, 3) := by decide +kernel
theorem dL_trades_275 : decode cL_trades 275 = .ok (.aload_n 0, 1) := by decide +kernel
theorem dL_trades_276 : decode cL_trades 276 = .ok (.iload 6, 2) := by decide +kernel
theorem dL_trades_278 : decode cL_trades 278 = .ok (.bipush 12, 2) := by decide +kernel
theorem dL_trades_280 : decode cL_trades 280 = .ok (.invokevirtual 26, 3) := by decide +kernel
theorem dL_trades_283 : decode cL_trades 283 = .ok (.iload 7, 2) := by decide +kernel
theorem dL_trades_285 : decode cL_trades 285 = .ok (.if_icmp .ne 23, 3) := by decide +kernel
theorem dL_trades_288 : decode cL_trades 288 = .ok (.aload_n 0, 1) := by decide +kernel
theorem dL_trades_289 : decode cL_trades 289 = .ok (.iload 6, 2) := by decide +kernel
theorem dL_trades_291 : decode cL_trades 291 = .ok (.bipush 6, 2) := by decide +kernel
theorem dL_trades_293 : decode cL_trades 293 = .ok (.invokevirtual 26, 3) := by decide +kernel
theorem dL_trades_296 : decode cL_trades 296 = .ok (.iload 10, 2) := by decide +kernel
theorem dL_trades_298 : decode cL_trades 298 = .ok (.iload 7, 2) := by decide +kernel
theorem dL_trades_300 : decode cL_trades 300 = .ok (.isub, 1) := by decide +kernel
theorem dL_trades_301 : decode cL_trades 301 = .ok (.if_icmp .ne 7, 3) := by decide +kernel
theorem dL_trades_304 : decode cL_trades 304 = .ok (.iconst 1, 1) := by decide +kernel
theorem dL_trades_305 : decode cL_trades 305 = .ok (.goto 4, 3) := by decide +kernel
theorem dL_trades_308 : decode cL_trades 308 = .ok (.iconst 0, 1) := by decide +kernel
theorem dL_trades_309 : decode cL_trades 309 = .ok (.istore 12, 2) := by decide +kernel
theorem dL_trades_311 : decode cL_trades 311 = .ok (.iconst 0, 1) := by decide +kernel
theorem dL_trades_312 : decode cL_trades 312 = .ok (.istore 14, 2) := by decide +kernel
theorem dL_trades_314 : decode cL_trades 314 = .ok (.iconst 0, 1) := by decide +kernel
theorem dL_trades_315 : decode cL_trades 315 = .ok (.istore 15, 2) := by decide +kernel
theorem dL_trades_317 : decode cL_trades 317 = .ok (.iload 15, 2) := by decide +kernel
theorem dL_trades_319 : decode cL_trades 319 = .ok (.iload 13, 2) := by decide +kernel
theorem dL_trades_321 : decode cL_trades 321 = .ok (.if_icmp .ge 107, 3) := by decide +kernel
theorem dL_trades_324 : decode cL_trades 324 = .ok (.iload 12, 2) := by decide +kernel
theorem dL_trades_326 : decode cL_trades 326 = .ok (.ifCond .eq 102, 3) := by decide +kernel
theorem dL_trades_329 : decode cL_trades 329 = .ok (.aload_n 0, 1) := by decide +kernel
theorem dL_trades_330 : decode cL_trades 330 = .ok (.iload 15, 2) := by decide +kernel
theorem dL_trades_332 : decode cL_trades 332 = .ok (.iconst 0, 1) := by decide +kernel
theorem dL_trades_333 : decode cL_trades 333 = .ok (.invokevirtual 87, 3) := by decide +kernel
theorem dL_trades_336 : decode cL_trades 336 = .ok (.istore 16, 2) := by decide +kernel
theorem dL_trades_338 : decode cL_trades 338 = .ok (.aload_n 0, 1) := by decide +kernel
theorem dL_trades_339 : decode cL_trades 339 = .ok (.iload 15, 2) := by decide +kernel
theorem dL_trades_341 : decode cL_trades 341 = .ok (.iconst 1, 1) := by decide +kernel
theorem dL_trades_342 : decode cL_trades 342 = .ok (.invokevirtual 87, 3) := by decide +kernel
theorem dL_trades_345 : decode cL_trades 345 = .ok (.istore 17, 2) := by decide +kernel
theorem dL_trades_347 : decode cL_trades 347 = .ok (.iload 14, 2) := by decide +kernel
theorem dL_trades_349 : decode cL_trades 349 = .ok (.aload_n 0, 1) := by decide +kernel
theorem dL_trades_350 : decode cL_trades 350 = .ok (.iload 15, 2) := by decide +kernel
theorem dL_trades_352 : decode cL_trades 352 = .ok (.iconst 2, 1) := by decide +kernel
theorem dL_trades_353 : decode cL_trades 353 = .ok (.invokevirtual 87, 3) := by decide +kernel
theorem dL_trades_356 : decode cL_trades 356 = .ok (.iadd, 1) := by decide +kernel
theorem dL_trades_357 : decode cL_trades 357 = .ok (.istore 14, 2) := by decide +kernel
theorem dL_trades_359 : decode cL_trades 359 = .ok (.iload 16, 2) := by decide +kernel
theorem dL_trades_361 : decode cL_trades 361 = .ok (.iload 17, 2) := by decide +kernel
theorem dL_trades_363 : decode cL_trades 363 = .ok (.if_icmp .eq 56, 3) := by decide +kernel
theorem dL_trades_366 : decode cL_trades 366 = .ok (.aload_n 0, 1) := by decide +kernel
theorem dL_trades_367 : decode cL_trades 367 = .ok (.iload 15, 2) := by decide +kernel
theorem dL_trades_369 : decode cL_trades 369 = .ok (.iconst 2, 1) := by decide +kernel
theorem dL_trades_370 : decode cL_trades 370 = .ok (.invokevirtual 87, 3) := by decide +kernel
theorem dL_trades_373 : decode cL_trades 373 = .ok (.ifCond .le 46, 3) := by decide +kernel
theorem dL_trades_376 : decode cL_trades 376 = .ok (.aload_n 0, 1) := by decide +kernel
theorem dL_trades_377 : decode cL_trades 377 = .ok (.iload 16, 2) := by decide +kernel
theorem dL_trades_379 : decode cL_trades 379 = .ok (.bipush 6, 2) := by decide +kernel
theorem dL_trades_381 : decode cL_trades 381 = .ok (.invokevirtual 26, 3) := by decide +kernel
theorem dL_trades_384 : decode cL_trades 384 = .ok (.ifCond .ne 35, 3) := by decide +kernel
theorem dL_trades_387 : decode cL_trades 387 = .ok (.aload_n 0, 1) := by decide +kernel
theorem dL_trades_388 : decode cL_trades 388 = .ok (.iload 16, 2) := by decide +kernel
theorem dL_trades_390 : decode cL_trades 390 = .ok (.iload 17, 2) := by decide +kernel
theorem dL_trades_392 : decode cL_trades 392 = .ok (.invokevirtual 90, 3) := by decide +kernel
theorem dL_trades_395 : decode cL_trades 395 = .ok (.aload_n 0, 1) := by decide +kernel
theorem dL_trades_396 : decode cL_trades 396 = .ok (.bipush 11, 2) := by decide +kernel
theorem dL_trades_398 : decode cL_trades 398 = .ok (.invokevirtual 44, 3) := by decide +kernel
theorem dL_trades_401 : decode cL_trades 401 = .ok (.if_icmp .gt 18, 3) := by decide +kernel
theorem dL_trades_404 : decode cL_trades 404 = .ok (.aload_n 0, 1) := by decide +kernel
theorem dL_trades_405 : decode cL_trades 405 = .ok (.iload 17, 2) := by decide +kernel
theorem dL_trades_407 : decode cL_trades 407 = .ok (.iload 16, 2) := by decide +kernel
theorem dL_trades_409 : decode cL_trades 409 = .ok (.invokevirtual 90, 3) := by decide +kernel
theorem dL_trades_412 : decode cL_trades 412 = .ok (.ifCond .le 7, 3) := by decide +kernel
theorem dL_trades_415 : decode cL_trades 415 = .ok (.iconst 1, 1) := by decide +kernel
theorem dL_trades_416 : decode cL_trades 416 = .ok (.goto 4, 3) := by decide +kernel
theorem dL_trades_419 : decode cL_trades 419 = .ok (.iconst 0, 1) := by decide +kernel
theorem dL_trades_420 : decode cL_trades 420 = .ok (.istore 12, 2) := by decide +kernel
theorem dL_trades_422 : decode cL_trades 422 = .ok (.iinc 15 1, 3) := by decide +kernel
theorem dL_trades_425 : decode cL_trades 425 = .ok (.goto (-108), 3) := by decide +kernel
theorem dL_trades_428 : decode cL_trades 428 = .ok (.iload 12, 2) := by decide +kernel
theorem dL_trades_430 : decode cL_trades 430 = .ok (.ifCond .eq 26, 3) := by decide +kernel
theorem dL_trades_433 : decode cL_trades 433 = .ok (.aload_n 0, 1) := by decide +kernel
theorem dL_trades_434 : decode cL_trades 434 = .ok (.bipush 7, 2) := by decide +kernel
theorem dL_trades_436 : decode cL_trades 436 = .ok (.invokevirtual 44, 3) := by decide +kernel
theorem dL_trades_439 : decode cL_trades 439 = .ok (.iload 14, 2) := by decide +kernel
theorem dL_trades_441 : decode cL_trades 441 = .ok (.if_icmp .ne 15, 3) := by decide +kernel
theorem dL_trades_444 : decode cL_trades 444 = .ok (.aload_n 0, 1) := by decide +kernel
theorem dL_trades_445 : decode cL_trades 445 = .ok (.iload_n 1, 1) := by decide +kernel
theorem dL_trades_446 : decode cL_trades 446 = .ok (.invokestatic 93, 3) := by decide +kernel
theorem dL_trades_449 : decode cL_trades 449 = .ok (.ifCond .eq 7, 3) := by decide +kernel
theorem dL_trades_452 : decode cL_trades 452 = .ok (.iconst 1, 1) := by decide +kernel
theorem dL_trades_453 : decode cL_trades 453 = .ok (.goto 4, 3) := by decide +kernel
theorem dL_trades_456 : decode cL_trades 456 = .ok (.iconst 0, 1) := by decide +kernel
theorem dL_trades_457 : decode cL_trades 457 = .ok (.ireturn, 1) := by decide +kernel
theorem okL_trades : CalOK yL_trades cL_trades 18 (some .boolean) 2 := ⟨wd_15, wd_476, by decide +kernel⟩
theorem osL_trades : Cond.static yL_trades ∈ lw_gd := wd_475
def FL_trades_428 (l1 : Int32) (l12 : Int32) (l14 : Int32) (M : Mem) : Option (Int32 × Mem) :=
  if l12 = 0 then
    some ((0 : Int32), M)
  else
    c1 (FX5_count M (7 : Int32)) fun r41 =>
    if r41 = l14 then
      c2 (FL_times M l1) fun r44 M46 =>
      if r44 = 0 then
        some ((0 : Int32), M46)
      else
        some ((1 : Int32), M46)
    else
      some ((0 : Int32), M)
set_option maxRecDepth 100000 in
set_option maxHeartbeats 4000000 in
theorem wL_trades_428 {E : WE} {V : VT} {A : Nat → Prop} {H0 : Heap} (Cx : CX E RL cL_trades 18 8 205) {r : Int32} {M' : Mem} (hret : RetI E V A H0 cL_trades .boolean r M') {H : Heap} {locs : List Loc} {ls : Array Slot} {l1 : Int32} {l12 : Int32} {l14 : Int32} {M : Mem} (hW : Wd V A H0 M (eS E) H locs) (hl : lv_has ls 18 [(0, .ref (vA V 11 0)), (1, .int l1), (12, .int l12), (14, .int l14)]) (hF : FL_trades_428 l1 l12 l14 M = some (r, M')) : Wq E H locs 428 ls [] := by
  unfold FL_trades_428 at hF
  refine q_iload Cx dL_trades_428 (lv_at hl 2 rfl) ?_
  refine q_if_eq (tgt := 456) Cx dL_trades_430 (by decide) (fun c40 => ?_) (fun c40 => ?_)
  · have hF := (if_pos c40).symm.trans hF
    refine q_iconst (v := (0 : Int32)) Cx dL_trades_456 (by decide) ?_
    obtain ⟨rfl, rfl⟩ := Prod.mk.inj (Option.some.inj hF)
    exact hret _ _ _ _ dL_trades_457 (by rfl) hW
  · have hF := (if_neg c40).symm.trans hF
    refine q_aload_n Cx dL_trades_433 rfl (lv_at hl 0 rfl) ?_
    refine q_bipush (v := (7 : Int32)) Cx dL_trades_434 (by decide) ?_
    obtain ⟨r41, e42, hF⟩ := c1_some hF
    refine q_callI (as := [.int (7 : Int32)]) (rest := []) Cx (kX5_count e42) okX5_count ovX5_count wd_417 ⟨rfl, rfl, by decide, by decide⟩ hW oX ic5 rfl hl.1 (Nat.le_of_ble_eq_true rfl) rfl dL_trades_436 (fun H locs hW => ?_)
    refine q_iload Cx dL_trades_439 (lv_at hl 3 rfl) ?_
    refine q_icmp_ne (tgt := 456) Cx dL_trades_441 (by decide) (fun c43 => ?_) (fun c43 => ?_)
    · have hF := (if_neg c43).symm.trans hF
      refine q_iconst (v := (0 : Int32)) Cx dL_trades_456 (by decide) ?_
      obtain ⟨rfl, rfl⟩ := Prod.mk.inj (Option.some.inj hF)
      exact hret _ _ _ _ dL_trades_457 (by rfl) hW
    · have hF := (if_pos c43).symm.trans hF
      refine q_aload_n Cx dL_trades_444 rfl (lv_at hl 0 rfl) ?_
      refine q_iload_n Cx dL_trades_445 rfl (lv_at hl 1 rfl) ?_
      obtain ⟨r44, M46, e45, hF⟩ := c2_some hF
      refine q_callSI (as := [.ref (vA V 11 0), .int l1]) (rest := []) Cx (kL_times e45) okL_times osL_times rfl wd_401 ⟨rfl, rfl, by decide, by decide⟩ hW rfl hl.1 (Nat.le_of_ble_eq_true rfl) rfl dL_trades_446 (fun H locs hW => ?_)
      refine q_if_eq (tgt := 456) Cx dL_trades_449 (by decide) (fun c47 => ?_) (fun c47 => ?_)
      · have hF := (if_pos c47).symm.trans hF
        refine q_iconst (v := (0 : Int32)) Cx dL_trades_456 (by decide) ?_
        obtain ⟨rfl, rfl⟩ := Prod.mk.inj (Option.some.inj hF)
        exact hret _ _ _ _ dL_trades_457 (by rfl) hW
      · have hF := (if_neg c47).symm.trans hF
        refine q_iconst (v := (1 : Int32)) Cx dL_trades_452 (by decide) ?_
        refine q_goto (tgt := 457) Cx dL_trades_453 (by decide) ?_
        obtain ⟨rfl, rfl⟩ := Prod.mk.inj (Option.some.inj hF)
        exact hret _ _ _ _ dL_trades_457 (by rfl) hW
def FL_trades_419 (k317 : Int32 → Int32 → Int32 → Int32 → Int32 → Mem → Option (Int32 × Mem)) (l1 : Int32) (l13 : Int32) (l14 : Int32) (l15 : Int32) (M : Mem) : Option (Int32 × Mem) :=
  lt1 (l15 + (1 : Int32)) fun x58 =>
  k317 l1 (0 : Int32) l13 l14 x58 M
set_option maxRecDepth 100000 in
set_option maxHeartbeats 4000000 in
theorem wL_trades_419 {E : WE} {V : VT} {A : Nat → Prop} {H0 : Heap} (Cx : CX E RL cL_trades 18 8 205) {r : Int32} {M' : Mem} (hret : RetI E V A H0 cL_trades .boolean r M') {k317 : Int32 → Int32 → Int32 → Int32 → Int32 → Mem → Option (Int32 × Mem)} (hk317 : ∀ {H : Heap} {locs : List Loc} {ls : Array Slot} {M : Mem} {l1 : Int32} {l12 : Int32} {l13 : Int32} {l14 : Int32} {l15 : Int32}, Wd V A H0 M (eS E) H locs → lv_has ls 18 [(0, .ref (vA V 11 0)), (1, .int l1), (12, .int l12), (13, .int l13), (14, .int l14), (15, .int l15)] → k317 l1 l12 l13 l14 l15 M = some (r, M') → Wq E H locs 317 ls []) {H : Heap} {locs : List Loc} {ls : Array Slot} {l1 : Int32} {l13 : Int32} {l14 : Int32} {l15 : Int32} {M : Mem} (hW : Wd V A H0 M (eS E) H locs) (hl : lv_has ls 18 [(0, .ref (vA V 11 0)), (1, .int l1), (13, .int l13), (14, .int l14), (15, .int l15)]) (hF : FL_trades_419 k317 l1 l13 l14 l15 M = some (r, M')) : Wq E H locs 419 ls [] := by
  unfold FL_trades_419 at hF
  refine q_iconst (v := (0 : Int32)) Cx dL_trades_419 (by decide) ?_
  refine q_istore (lv' := [(12, .int (0 : Int32)), (0, .ref (vA V 11 0)), (1, .int l1), (13, .int l13), (14, .int l14), (15, .int l15)]) Cx dL_trades_420 hl (by decide) rfl (fun ls hl => ?_)
  obtain ⟨x58, e59, hF⟩ := lt1_some hF
  refine q_iinc (k := 5) (v := x58) (lv' := [(15, .int x58), (12, .int (0 : Int32)), (0, .ref (vA V 11 0)), (1, .int l1), (13, .int l13), (14, .int l14)]) Cx dL_trades_422 hl rfl e59.symm (by decide) rfl (fun ls hl => ?_)
  refine q_goto (tgt := 317) Cx dL_trades_425 (by decide) ?_
  exact hk317 hW (lv_sub hl [2, 3, 1, 4, 5, 0] rfl) hF
def FL_trades_317s (k317 : Int32 → Int32 → Int32 → Int32 → Int32 → Mem → Option (Int32 × Mem)) (l1 : Int32) (l12 : Int32) (l13 : Int32) (l14 : Int32) (l15 : Int32) (M : Mem) : Option (Int32 × Mem) :=
  if l13 ≤ l15 then
    FL_trades_428 l1 l12 l14 M
  else
    if l12 = 0 then
      FL_trades_428 l1 l12 l14 M
    else
      c1 (FX5_ofContract M l15 (0 : Int32)) fun r49 =>
      c1 (FX5_ofContract M l15 (1 : Int32)) fun r51 =>
      c1 (FX5_ofContract M l15 (2 : Int32)) fun r53 =>
      lt1 (l14 + r53) fun x55 =>
      if r49 = r51 then
        FL_trades_419 k317 l1 l13 x55 l15 M
      else
        c1 (FX5_ofContract M l15 (2 : Int32)) fun r60 =>
        if r60 ≤ 0 then
          FL_trades_419 k317 l1 l13 x55 l15 M
        else
          c2 (FX5_ofTask M r49 (6 : Int32)) fun r63 M65 =>
          if r63 = 0 then
            c2 (FX5_distance M65 r49 r51) fun r67 M69 =>
            c1 (FX5_count M69 (11 : Int32)) fun r70 =>
            if r70 < r67 then
              FL_trades_419 k317 l1 l13 x55 l15 M69
            else
              c2 (FX5_distance M69 r51 r49) fun r73 M75 =>
              if r73 ≤ 0 then
                FL_trades_419 k317 l1 l13 x55 l15 M75
              else
                lt1 (l15 + (1 : Int32)) fun x77 =>
                k317 l1 (1 : Int32) l13 x55 x77 M75
          else
            FL_trades_419 k317 l1 l13 x55 l15 M65
set_option maxRecDepth 100000 in
set_option maxHeartbeats 4000000 in
theorem wL_trades_317s {E : WE} {V : VT} {A : Nat → Prop} {H0 : Heap} (Cx : CX E RL cL_trades 18 8 205) {r : Int32} {M' : Mem} (hret : RetI E V A H0 cL_trades .boolean r M') {k317 : Int32 → Int32 → Int32 → Int32 → Int32 → Mem → Option (Int32 × Mem)} (hk317 : ∀ {H : Heap} {locs : List Loc} {ls : Array Slot} {M : Mem} {l1 : Int32} {l12 : Int32} {l13 : Int32} {l14 : Int32} {l15 : Int32}, Wd V A H0 M (eS E) H locs → lv_has ls 18 [(0, .ref (vA V 11 0)), (1, .int l1), (12, .int l12), (13, .int l13), (14, .int l14), (15, .int l15)] → k317 l1 l12 l13 l14 l15 M = some (r, M') → Wq E H locs 317 ls []) {H : Heap} {locs : List Loc} {ls : Array Slot} {l1 : Int32} {l12 : Int32} {l13 : Int32} {l14 : Int32} {l15 : Int32} {M : Mem} (hW : Wd V A H0 M (eS E) H locs) (hl : lv_has ls 18 [(0, .ref (vA V 11 0)), (1, .int l1), (12, .int l12), (13, .int l13), (14, .int l14), (15, .int l15)]) (hF : FL_trades_317s k317 l1 l12 l13 l14 l15 M = some (r, M')) : Wq E H locs 317 ls [] := by
  unfold FL_trades_317s at hF
  refine q_iload Cx dL_trades_317 (lv_at hl 5 rfl) ?_
  refine q_iload Cx dL_trades_319 (lv_at hl 3 rfl) ?_
  refine q_icmp_ge (tgt := 428) Cx dL_trades_321 (by decide) (fun c39 => ?_) (fun c39 => ?_)
  · have hF := (if_pos c39).symm.trans hF
    exact wL_trades_428 Cx hret hW (lv_sub hl [0, 1, 2, 4] rfl) hF
  · have hF := (if_neg c39).symm.trans hF
    refine q_iload Cx dL_trades_324 (lv_at hl 2 rfl) ?_
    refine q_if_eq (tgt := 428) Cx dL_trades_326 (by decide) (fun c48 => ?_) (fun c48 => ?_)
    · have hF := (if_pos c48).symm.trans hF
      exact wL_trades_428 Cx hret hW (lv_sub hl [0, 1, 2, 4] rfl) hF
    · have hF := (if_neg c48).symm.trans hF
      refine q_aload_n Cx dL_trades_329 rfl (lv_at hl 0 rfl) ?_
      refine q_iload Cx dL_trades_330 (lv_at hl 5 rfl) ?_
      refine q_iconst (v := (0 : Int32)) Cx dL_trades_332 (by decide) ?_
      obtain ⟨r49, e50, hF⟩ := c1_some hF
      refine q_callI (as := [.int l15, .int (0 : Int32)]) (rest := []) Cx (kX5_ofContract e50) okX5_ofContract ovX5_ofContract wd_552 ⟨rfl, rfl, by decide, by decide⟩ hW oX ic5 rfl hl.1 (Nat.le_of_ble_eq_true rfl) rfl dL_trades_333 (fun H locs hW => ?_)
      refine q_istore (lv' := [(16, .int r49), (0, .ref (vA V 11 0)), (1, .int l1), (12, .int l12), (13, .int l13), (14, .int l14), (15, .int l15)]) Cx dL_trades_336 hl (by decide) rfl (fun ls hl => ?_)
      refine q_aload_n Cx dL_trades_338 rfl (lv_at hl 1 rfl) ?_
      refine q_iload Cx dL_trades_339 (lv_at hl 6 rfl) ?_
      refine q_iconst (v := (1 : Int32)) Cx dL_trades_341 (by decide) ?_
      obtain ⟨r51, e52, hF⟩ := c1_some hF
      refine q_callI (as := [.int l15, .int (1 : Int32)]) (rest := []) Cx (kX5_ofContract e52) okX5_ofContract ovX5_ofContract wd_552 ⟨rfl, rfl, by decide, by decide⟩ hW oX ic5 rfl hl.1 (Nat.le_of_ble_eq_true rfl) rfl dL_trades_342 (fun H locs hW => ?_)
      refine q_istore (lv' := [(17, .int r51), (16, .int r49), (0, .ref (vA V 11 0)), (1, .int l1), (12, .int l12), (13, .int l13), (14, .int l14), (15, .int l15)]) Cx dL_trades_345 hl (by decide) rfl (fun ls hl => ?_)
      refine q_iload Cx dL_trades_347 (lv_at hl 6 rfl) ?_
      refine q_aload_n Cx dL_trades_349 rfl (lv_at hl 2 rfl) ?_
      refine q_iload Cx dL_trades_350 (lv_at hl 7 rfl) ?_
      refine q_iconst (v := (2 : Int32)) Cx dL_trades_352 (by decide) ?_
      obtain ⟨r53, e54, hF⟩ := c1_some hF
      refine q_callI (as := [.int l15, .int (2 : Int32)]) (rest := [.int l14]) Cx (kX5_ofContract e54) okX5_ofContract ovX5_ofContract wd_552 ⟨rfl, rfl, by decide, by decide⟩ hW oX ic5 rfl hl.1 (Nat.le_of_ble_eq_true rfl) rfl dL_trades_353 (fun H locs hW => ?_)
      refine q_iadd Cx dL_trades_356 ?_
      obtain ⟨x55, e56, hF⟩ := lt1_some hF
      refine q_topi e56 ?_
      refine q_istore (lv' := [(14, .int x55), (17, .int r51), (16, .int r49), (0, .ref (vA V 11 0)), (1, .int l1), (12, .int l12), (13, .int l13), (15, .int l15)]) Cx dL_trades_357 hl (by decide) rfl (fun ls hl => ?_)
      refine q_iload Cx dL_trades_359 (lv_at hl 2 rfl) ?_
      refine q_iload Cx dL_trades_361 (lv_at hl 1 rfl) ?_
      refine q_icmp_eq (tgt := 419) Cx dL_trades_363 (by decide) (fun c57 => ?_) (fun c57 => ?_)
      · have hF := (if_pos c57).symm.trans hF
        exact wL_trades_419 Cx hret hk317 hW (lv_sub hl [3, 4, 6, 0, 7] rfl) hF
      · have hF := (if_neg c57).symm.trans hF
        refine q_aload_n Cx dL_trades_366 rfl (lv_at hl 3 rfl) ?_
        refine q_iload Cx dL_trades_367 (lv_at hl 7 rfl) ?_
        refine q_iconst (v := (2 : Int32)) Cx dL_trades_369 (by decide) ?_
        obtain ⟨r60, e61, hF⟩ := c1_some hF
        refine q_callI (as := [.int l15, .int (2 : Int32)]) (rest := []) Cx (kX5_ofContract e61) okX5_ofContract ovX5_ofContract wd_552 ⟨rfl, rfl, by decide, by decide⟩ hW oX ic5 rfl hl.1 (Nat.le_of_ble_eq_true rfl) rfl dL_trades_370 (fun H locs hW => ?_)
        refine q_if_le (tgt := 419) Cx dL_trades_373 (by decide) (fun c62 => ?_) (fun c62 => ?_)
        · have hF := (if_pos c62).symm.trans hF
          exact wL_trades_419 Cx hret hk317 hW (lv_sub hl [3, 4, 6, 0, 7] rfl) hF
        · have hF := (if_neg c62).symm.trans hF
          refine q_aload_n Cx dL_trades_376 rfl (lv_at hl 3 rfl) ?_
          refine q_iload Cx dL_trades_377 (lv_at hl 2 rfl) ?_
          refine q_bipush (v := (6 : Int32)) Cx dL_trades_379 (by decide) ?_
          obtain ⟨r63, M65, e64, hF⟩ := c2_some hF
          refine q_callI (as := [.int r49, .int (6 : Int32)]) (rest := []) Cx (kX5_ofTask e64) okX5_ofTask ovX5_ofTask wd_273 ⟨rfl, rfl, by decide, by decide⟩ hW oX ic5 rfl hl.1 (Nat.le_of_ble_eq_true rfl) rfl dL_trades_381 (fun H locs hW => ?_)
          refine q_if_ne (tgt := 419) Cx dL_trades_384 (by decide) (fun c66 => ?_) (fun c66 => ?_)
          · have hF := (if_neg c66).symm.trans hF
            exact wL_trades_419 Cx hret hk317 hW (lv_sub hl [3, 4, 6, 0, 7] rfl) hF
          · have hF := (if_pos c66).symm.trans hF
            refine q_aload_n Cx dL_trades_387 rfl (lv_at hl 3 rfl) ?_
            refine q_iload Cx dL_trades_388 (lv_at hl 2 rfl) ?_
            refine q_iload Cx dL_trades_390 (lv_at hl 1 rfl) ?_
            obtain ⟨r67, M69, e68, hF⟩ := c2_some hF
            refine q_callI (as := [.int r49, .int r51]) (rest := []) Cx (kX5_distance e68) okX5_distance ovX5_distance wd_564 ⟨rfl, rfl, by decide, by decide⟩ hW oX ic5 rfl hl.1 (Nat.le_of_ble_eq_true rfl) rfl dL_trades_392 (fun H locs hW => ?_)
            refine q_aload_n Cx dL_trades_395 rfl (lv_at hl 3 rfl) ?_
            refine q_bipush (v := (11 : Int32)) Cx dL_trades_396 (by decide) ?_
            obtain ⟨r70, e71, hF⟩ := c1_some hF
            refine q_callI (as := [.int (11 : Int32)]) (rest := [.int r67]) Cx (kX5_count e71) okX5_count ovX5_count wd_417 ⟨rfl, rfl, by decide, by decide⟩ hW oX ic5 rfl hl.1 (Nat.le_of_ble_eq_true rfl) rfl dL_trades_398 (fun H locs hW => ?_)
            refine q_icmp_gt (tgt := 419) Cx dL_trades_401 (by decide) (fun c72 => ?_) (fun c72 => ?_)
            · have hF := (if_pos c72).symm.trans hF
              exact wL_trades_419 Cx hret hk317 hW (lv_sub hl [3, 4, 6, 0, 7] rfl) hF
            · have hF := (if_neg c72).symm.trans hF
              refine q_aload_n Cx dL_trades_404 rfl (lv_at hl 3 rfl) ?_
              refine q_iload Cx dL_trades_405 (lv_at hl 1 rfl) ?_
              refine q_iload Cx dL_trades_407 (lv_at hl 2 rfl) ?_
              obtain ⟨r73, M75, e74, hF⟩ := c2_some hF
              refine q_callI (as := [.int r51, .int r49]) (rest := []) Cx (kX5_distance e74) okX5_distance ovX5_distance wd_564 ⟨rfl, rfl, by decide, by decide⟩ hW oX ic5 rfl hl.1 (Nat.le_of_ble_eq_true rfl) rfl dL_trades_409 (fun H locs hW => ?_)
              refine q_if_le (tgt := 419) Cx dL_trades_412 (by decide) (fun c76 => ?_) (fun c76 => ?_)
              · have hF := (if_pos c76).symm.trans hF
                exact wL_trades_419 Cx hret hk317 hW (lv_sub hl [3, 4, 6, 0, 7] rfl) hF
              · have hF := (if_neg c76).symm.trans hF
                refine q_iconst (v := (1 : Int32)) Cx dL_trades_415 (by decide) ?_
                refine q_goto (tgt := 420) Cx dL_trades_416 (by decide) ?_
                refine q_istore (lv' := [(12, .int (1 : Int32)), (14, .int x55), (17, .int r51), (16, .int r49), (0, .ref (vA V 11 0)), (1, .int l1), (13, .int l13), (15, .int l15)]) Cx dL_trades_420 hl (by decide) rfl (fun ls hl => ?_)
                obtain ⟨x77, e78, hF⟩ := lt1_some hF
                refine q_iinc (k := 7) (v := x77) (lv' := [(15, .int x77), (12, .int (1 : Int32)), (14, .int x55), (17, .int r51), (16, .int r49), (0, .ref (vA V 11 0)), (1, .int l1), (13, .int l13)]) Cx dL_trades_422 hl rfl e78.symm (by decide) rfl (fun ls hl => ?_)
                refine q_goto (tgt := 317) Cx dL_trades_425 (by decide) ?_
                exact hk317 hW (lv_sub hl [5, 6, 1, 7, 2, 0] rfl) hF
def FL_trades_317 : Nat → Int32 → Int32 → Int32 → Int32 → Int32 → Mem → Option (Int32 × Mem)
  | 0 => fun _ _ _ _ _ _ => none
  | n + 1 => FL_trades_317s (FL_trades_317 n)
set_option maxRecDepth 100000 in
theorem wL_trades_317 {E : WE} {V : VT} {A : Nat → Prop} {H0 : Heap} (Cx : CX E RL cL_trades 18 8 205) {r : Int32} {M' : Mem} (hret : RetI E V A H0 cL_trades .boolean r M') : ∀ (n : Nat) {H : Heap} {locs : List Loc} {ls : Array Slot} {l1 : Int32} {l12 : Int32} {l13 : Int32} {l14 : Int32} {l15 : Int32} {M : Mem}, Wd V A H0 M (eS E) H locs → lv_has ls 18 [(0, .ref (vA V 11 0)), (1, .int l1), (12, .int l12), (13, .int l13), (14, .int l14), (15, .int l15)] → FL_trades_317 n l1 l12 l13 l14 l15 M = some (r, M') → Wq E H locs 317 ls [] := by
  intro n
  induction n with
  | zero => intro _ _ _ _ _ _ _ _ _ hW hl hF; cases hF
  | succ n ih => intro _ _ _ _ _ _ _ _ _ hW hl hF; exact wL_trades_317s Cx hret ih hW hl hF
def FL_trades_309 (l1 : Int32) (l13 : Int32) (s0 : Int32) (M : Mem) : Option (Int32 × Mem) :=
  FL_trades_317 fu l1 s0 l13 (0 : Int32) (0 : Int32) M
set_option maxRecDepth 100000 in
set_option maxHeartbeats 4000000 in
theorem wL_trades_309 {E : WE} {V : VT} {A : Nat → Prop} {H0 : Heap} (Cx : CX E RL cL_trades 18 8 205) {r : Int32} {M' : Mem} (hret : RetI E V A H0 cL_trades .boolean r M') {H : Heap} {locs : List Loc} {ls : Array Slot} {l1 : Int32} {l13 : Int32} {s0 : Int32} {M : Mem} (hW : Wd V A H0 M (eS E) H locs) (hl : lv_has ls 18 [(0, .ref (vA V 11 0)), (1, .int l1), (13, .int l13)]) (hF : FL_trades_309 l1 l13 s0 M = some (r, M')) : Wq E H locs 309 ls [.int s0] := by
  unfold FL_trades_309 at hF
  refine q_istore (lv' := [(12, .int s0), (0, .ref (vA V 11 0)), (1, .int l1), (13, .int l13)]) Cx dL_trades_309 hl (by decide) rfl (fun ls hl => ?_)
  refine q_iconst (v := (0 : Int32)) Cx dL_trades_311 (by decide) ?_
  refine q_istore (lv' := [(14, .int (0 : Int32)), (12, .int s0), (0, .ref (vA V 11 0)), (1, .int l1), (13, .int l13)]) Cx dL_trades_312 hl (by decide) rfl (fun ls hl => ?_)
  refine q_iconst (v := (0 : Int32)) Cx dL_trades_314 (by decide) ?_
  refine q_istore (lv' := [(15, .int (0 : Int32)), (14, .int (0 : Int32)), (12, .int s0), (0, .ref (vA V 11 0)), (1, .int l1), (13, .int l13)]) Cx dL_trades_315 hl (by decide) rfl (fun ls hl => ?_)
  exact wL_trades_317 Cx hret fu hW (lv_sub hl [3, 4, 2, 5, 1, 0] rfl) hF
def FL_trades_308 (l1 : Int32) (l13 : Int32) (M : Mem) : Option (Int32 × Mem) :=
  FL_trades_309 l1 l13 (0 : Int32) M
set_option maxRecDepth 100000 in
set_option maxHeartbeats 4000000 in
theorem wL_trades_308 {E : WE} {V : VT} {A : Nat → Prop} {H0 : Heap} (Cx : CX E RL cL_trades 18 8 205) {r : Int32} {M' : Mem} (hret : RetI E V A H0 cL_trades .boolean r M') {H : Heap} {locs : List Loc} {ls : Array Slot} {l1 : Int32} {l13 : Int32} {M : Mem} (hW : Wd V A H0 M (eS E) H locs) (hl : lv_has ls 18 [(0, .ref (vA V 11 0)), (1, .int l1), (13, .int l13)]) (hF : FL_trades_308 l1 l13 M = some (r, M')) : Wq E H locs 308 ls [] := by
  unfold FL_trades_308 at hF
  refine q_iconst (v := (0 : Int32)) Cx dL_trades_308 (by decide) ?_
  exact wL_trades_309 Cx hret hW (lv_sub hl [0, 1, 2] rfl) hF
def FL_trades_304 (l1 : Int32) (l13 : Int32) (M : Mem) : Option (Int32 × Mem) :=
  FL_trades_309 l1 l13 (1 : Int32) M
set_option maxRecDepth 100000 in
set_option maxHeartbeats 4000000 in
theorem wL_trades_304 {E : WE} {V : VT} {A : Nat → Prop} {H0 : Heap} (Cx : CX E RL cL_trades 18 8 205) {r : Int32} {M' : Mem} (hret : RetI E V A H0 cL_trades .boolean r M') {H : Heap} {locs : List Loc} {ls : Array Slot} {l1 : Int32} {l13 : Int32} {M : Mem} (hW : Wd V A H0 M (eS E) H locs) (hl : lv_has ls 18 [(0, .ref (vA V 11 0)), (1, .int l1), (13, .int l13)]) (hF : FL_trades_304 l1 l13 M = some (r, M')) : Wq E H locs 304 ls [] := by
  unfold FL_trades_304 at hF
  refine q_iconst (v := (1 : Int32)) Cx dL_trades_304 (by decide) ?_
  refine q_goto (tgt := 309) Cx dL_trades_305 (by decide) ?_
  exact wL_trades_309 Cx hret hW (lv_sub hl [0, 1, 2] rfl) hF
def FL_trades_255 (l1 : Int32) (l6 : Int32) (l7 : Int32) (l10 : Int32) (l13 : Int32) (s0 : Int32) (M : Mem) : Option (Int32 × Mem) :=
  if s0 = 0 then
    FL_trades_308 l1 l13 M
  else
    if 0 ≤ l6 then
      c2 (FX5_ofTask M l6 (12 : Int32)) fun r80 M82 =>
      if r80 = l7 then
        c2 (FX5_ofTask M82 l6 (6 : Int32)) fun r84 M86 =>
        if r84 = (l10 - l7) then
          FL_trades_304 l1 l13 M86
        else
          FL_trades_308 l1 l13 M86
      else
        FL_trades_308 l1 l13 M82
    else
      if l13 = 0 then
        FL_trades_304 l1 l13 M
      else
        FL_trades_308 l1 l13 M
set_option maxRecDepth 100000 in
set_option maxHeartbeats 4000000 in
theorem wL_trades_255 {E : WE} {V : VT} {A : Nat → Prop} {H0 : Heap} (Cx : CX E RL cL_trades 18 8 205) {r : Int32} {M' : Mem} (hret : RetI E V A H0 cL_trades .boolean r M') {H : Heap} {locs : List Loc} {ls : Array Slot} {l1 : Int32} {l6 : Int32} {l7 : Int32} {l10 : Int32} {l13 : Int32} {s0 : Int32} {M : Mem} (hW : Wd V A H0 M (eS E) H locs) (hl : lv_has ls 18 [(0, .ref (vA V 11 0)), (1, .int l1), (6, .int l6), (7, .int l7), (10, .int l10), (13, .int l13)]) (hF : FL_trades_255 l1 l6 l7 l10 l13 s0 M = some (r, M')) : Wq E H locs 255 ls [.int s0] := by
  unfold FL_trades_255 at hF
  refine q_istore (lv' := [(12, .int s0), (0, .ref (vA V 11 0)), (1, .int l1), (6, .int l6), (7, .int l7), (10, .int l10), (13, .int l13)]) Cx dL_trades_255 hl (by decide) rfl (fun ls hl => ?_)
  refine q_iload Cx dL_trades_257 (lv_at hl 0 rfl) ?_
  refine q_if_eq (tgt := 308) Cx dL_trades_259 (by decide) (fun c38 => ?_) (fun c38 => ?_)
  · have hF := (if_pos c38).symm.trans hF
    exact wL_trades_308 Cx hret hW (lv_sub hl [1, 2, 6] rfl) hF
  · have hF := (if_neg c38).symm.trans hF
    refine q_iload Cx dL_trades_262 (lv_at hl 3 rfl) ?_
    refine q_if_ge (tgt := 275) Cx dL_trades_264 (by decide) (fun c79 => ?_) (fun c79 => ?_)
    · have hF := (if_pos c79).symm.trans hF
      refine q_aload_n Cx dL_trades_275 rfl (lv_at hl 1 rfl) ?_
      refine q_iload Cx dL_trades_276 (lv_at hl 3 rfl) ?_
      refine q_bipush (v := (12 : Int32)) Cx dL_trades_278 (by decide) ?_
      obtain ⟨r80, M82, e81, hF⟩ := c2_some hF
      refine q_callI (as := [.int l6, .int (12 : Int32)]) (rest := []) Cx (kX5_ofTask e81) okX5_ofTask ovX5_ofTask wd_273 ⟨rfl, rfl, by decide, by decide⟩ hW oX ic5 rfl hl.1 (Nat.le_of_ble_eq_true rfl) rfl dL_trades_280 (fun H locs hW => ?_)
      refine q_iload Cx dL_trades_283 (lv_at hl 4 rfl) ?_
      refine q_icmp_ne (tgt := 308) Cx dL_trades_285 (by decide) (fun c83 => ?_) (fun c83 => ?_)
      · have hF := (if_neg c83).symm.trans hF
        exact wL_trades_308 Cx hret hW (lv_sub hl [1, 2, 6] rfl) hF
      · have hF := (if_pos c83).symm.trans hF
        refine q_aload_n Cx dL_trades_288 rfl (lv_at hl 1 rfl) ?_
        refine q_iload Cx dL_trades_289 (lv_at hl 3 rfl) ?_
        refine q_bipush (v := (6 : Int32)) Cx dL_trades_291 (by decide) ?_
        obtain ⟨r84, M86, e85, hF⟩ := c2_some hF
        refine q_callI (as := [.int l6, .int (6 : Int32)]) (rest := []) Cx (kX5_ofTask e85) okX5_ofTask ovX5_ofTask wd_273 ⟨rfl, rfl, by decide, by decide⟩ hW oX ic5 rfl hl.1 (Nat.le_of_ble_eq_true rfl) rfl dL_trades_293 (fun H locs hW => ?_)
        refine q_iload Cx dL_trades_296 (lv_at hl 5 rfl) ?_
        refine q_iload Cx dL_trades_298 (lv_at hl 4 rfl) ?_
        refine q_isub Cx dL_trades_300 ?_
        refine q_icmp_ne (tgt := 308) Cx dL_trades_301 (by decide) (fun c87 => ?_) (fun c87 => ?_)
        · have hF := (if_neg c87).symm.trans hF
          exact wL_trades_308 Cx hret hW (lv_sub hl [1, 2, 6] rfl) hF
        · have hF := (if_pos c87).symm.trans hF
          exact wL_trades_304 Cx hret hW (lv_sub hl [1, 2, 6] rfl) hF
    · have hF := (if_neg c79).symm.trans hF
      refine q_iload Cx dL_trades_267 (lv_at hl 6 rfl) ?_
      refine q_if_ne (tgt := 308) Cx dL_trades_269 (by decide) (fun c88 => ?_) (fun c88 => ?_)
      · have hF := (if_neg c88).symm.trans hF
        exact wL_trades_308 Cx hret hW (lv_sub hl [1, 2, 6] rfl) hF
      · have hF := (if_pos c88).symm.trans hF
        refine q_goto (tgt := 304) Cx dL_trades_272 (by decide) ?_
        exact wL_trades_304 Cx hret hW (lv_sub hl [1, 2, 6] rfl) hF
def FL_trades_254 (l1 : Int32) (l6 : Int32) (l7 : Int32) (l10 : Int32) (l13 : Int32) (M : Mem) : Option (Int32 × Mem) :=
  FL_trades_255 l1 l6 l7 l10 l13 (0 : Int32) M
set_option maxRecDepth 100000 in
set_option maxHeartbeats 4000000 in
theorem wL_trades_254 {E : WE} {V : VT} {A : Nat → Prop} {H0 : Heap} (Cx : CX E RL cL_trades 18 8 205) {r : Int32} {M' : Mem} (hret : RetI E V A H0 cL_trades .boolean r M') {H : Heap} {locs : List Loc} {ls : Array Slot} {l1 : Int32} {l6 : Int32} {l7 : Int32} {l10 : Int32} {l13 : Int32} {M : Mem} (hW : Wd V A H0 M (eS E) H locs) (hl : lv_has ls 18 [(0, .ref (vA V 11 0)), (1, .int l1), (6, .int l6), (7, .int l7), (10, .int l10), (13, .int l13)]) (hF : FL_trades_254 l1 l6 l7 l10 l13 M = some (r, M')) : Wq E H locs 254 ls [] := by
  unfold FL_trades_254 at hF
  refine q_iconst (v := (0 : Int32)) Cx dL_trades_254 (by decide) ?_
  exact wL_trades_255 Cx hret hW (lv_sub hl [0, 1, 2, 3, 4, 5] rfl) hF
def FL_trades_196 (l1 : Int32) (l2 : Int64) (l4 : Int32) (l5 : Int32) (l6 : Int32) (l7 : Int32) (l10 : Int32) (s0 : Int32) (M : Mem) : Option (Int32 × Mem) :=
  c2 (FX5_trade M) fun r34 M36 =>
  if s0 = 0 then
    FL_trades_254 l1 l6 l7 l10 r34 M36
  else
    c1 (FX5_count M36 (1 : Int32)) fun r89 =>
    if r34 = r89 then
      c1 (FL_dues M36 l1) fun r92 =>
      if (lg_cmp r92 l2) = 0 then
        c1 (FX5_count M36 (6 : Int32)) fun r95 =>
        if r95 = l4 then
          c1 (FX5_count M36 (4 : Int32)) fun r98 =>
          if r98 = l5 then
            FL_trades_255 l1 l6 l7 l10 r34 (1 : Int32) M36
          else
            FL_trades_254 l1 l6 l7 l10 r34 M36
        else
          FL_trades_254 l1 l6 l7 l10 r34 M36
      else
        FL_trades_254 l1 l6 l7 l10 r34 M36
    else
      FL_trades_254 l1 l6 l7 l10 r34 M36
set_option maxRecDepth 100000 in
set_option maxHeartbeats 4000000 in
theorem wL_trades_196 {E : WE} {V : VT} {A : Nat → Prop} {H0 : Heap} (Cx : CX E RL cL_trades 18 8 205) {r : Int32} {M' : Mem} (hret : RetI E V A H0 cL_trades .boolean r M') {H : Heap} {locs : List Loc} {ls : Array Slot} {l1 : Int32} {l2 : Int64} {l4 : Int32} {l5 : Int32} {l6 : Int32} {l7 : Int32} {l10 : Int32} {s0 : Int32} {M : Mem} (hW : Wd V A H0 M (eS E) H locs) (hl : lv_has ls 18 [(0, .ref (vA V 11 0)), (1, .int l1), (2, .long l2), (4, .int l4), (5, .int l5), (6, .int l6), (7, .int l7), (10, .int l10)]) (hF : FL_trades_196 l1 l2 l4 l5 l6 l7 l10 s0 M = some (r, M')) : Wq E H locs 196 ls [.int s0] := by
  unfold FL_trades_196 at hF
  refine q_istore (lv' := [(12, .int s0), (0, .ref (vA V 11 0)), (1, .int l1), (2, .long l2), (4, .int l4), (5, .int l5), (6, .int l6), (7, .int l7), (10, .int l10)]) Cx dL_trades_196 hl (by decide) rfl (fun ls hl => ?_)
  refine q_aload_n Cx dL_trades_198 rfl (lv_at hl 1 rfl) ?_
  obtain ⟨r34, M36, e35, hF⟩ := c2_some hF
  refine q_callI (as := []) (rest := []) Cx (kX5_trade e35) okX5_trade ovX5_trade wd_548 ⟨rfl, rfl, by decide, by decide⟩ hW oX ic5 rfl hl.1 (Nat.le_of_ble_eq_true rfl) rfl dL_trades_199 (fun H locs hW => ?_)
  refine q_istore (lv' := [(13, .int r34), (12, .int s0), (0, .ref (vA V 11 0)), (1, .int l1), (2, .long l2), (4, .int l4), (5, .int l5), (6, .int l6), (7, .int l7), (10, .int l10)]) Cx dL_trades_202 hl (by decide) rfl (fun ls hl => ?_)
  refine q_iload Cx dL_trades_204 (lv_at hl 1 rfl) ?_
  refine q_if_eq (tgt := 254) Cx dL_trades_206 (by decide) (fun c37 => ?_) (fun c37 => ?_)
  · have hF := (if_pos c37).symm.trans hF
    exact wL_trades_254 Cx hret hW (lv_sub hl [2, 3, 7, 8, 9, 0] rfl) hF
  · have hF := (if_neg c37).symm.trans hF
    refine q_iload Cx dL_trades_209 (lv_at hl 0 rfl) ?_
    refine q_aload_n Cx dL_trades_211 rfl (lv_at hl 2 rfl) ?_
    refine q_iconst (v := (1 : Int32)) Cx dL_trades_212 (by decide) ?_
    obtain ⟨r89, e90, hF⟩ := c1_some hF
    refine q_callI (as := [.int (1 : Int32)]) (rest := [.int r34]) Cx (kX5_count e90) okX5_count ovX5_count wd_417 ⟨rfl, rfl, by decide, by decide⟩ hW oX ic5 rfl hl.1 (Nat.le_of_ble_eq_true rfl) rfl dL_trades_213 (fun H locs hW => ?_)
    refine q_icmp_ne (tgt := 254) Cx dL_trades_216 (by decide) (fun c91 => ?_) (fun c91 => ?_)
    · have hF := (if_neg c91).symm.trans hF
      exact wL_trades_254 Cx hret hW (lv_sub hl [2, 3, 7, 8, 9, 0] rfl) hF
    · have hF := (if_pos c91).symm.trans hF
      refine q_aload_n Cx dL_trades_219 rfl (lv_at hl 2 rfl) ?_
      refine q_iload_n Cx dL_trades_220 rfl (lv_at hl 3 rfl) ?_
      obtain ⟨r92, e93, hF⟩ := c1_some hF
      refine q_callSL (as := [.ref (vA V 11 0), .int l1]) (rest := []) Cx (kL_dues e93) okL_dues osL_dues rfl wd_477 ⟨rfl, rfl, by decide, by decide⟩ hW rfl hl.1 (Nat.le_of_ble_eq_true rfl) rfl dL_trades_221 (fun H locs hW => ?_)
      refine q_lload_n Cx dL_trades_224 rfl (lv_at hl 4 rfl) ?_
      refine q_lcmp Cx dL_trades_225 ?_
      refine q_if_ne (tgt := 254) Cx dL_trades_226 (by decide) (fun c94 => ?_) (fun c94 => ?_)
      · have hF := (if_neg c94).symm.trans hF
        exact wL_trades_254 Cx hret hW (lv_sub hl [2, 3, 7, 8, 9, 0] rfl) hF
      · have hF := (if_pos c94).symm.trans hF
        refine q_aload_n Cx dL_trades_229 rfl (lv_at hl 2 rfl) ?_
        refine q_bipush (v := (6 : Int32)) Cx dL_trades_230 (by decide) ?_
        obtain ⟨r95, e96, hF⟩ := c1_some hF
        refine q_callI (as := [.int (6 : Int32)]) (rest := []) Cx (kX5_count e96) okX5_count ovX5_count wd_417 ⟨rfl, rfl, by decide, by decide⟩ hW oX ic5 rfl hl.1 (Nat.le_of_ble_eq_true rfl) rfl dL_trades_232 (fun H locs hW => ?_)
        refine q_iload Cx dL_trades_235 (lv_at hl 5 rfl) ?_
        refine q_icmp_ne (tgt := 254) Cx dL_trades_237 (by decide) (fun c97 => ?_) (fun c97 => ?_)
        · have hF := (if_neg c97).symm.trans hF
          exact wL_trades_254 Cx hret hW (lv_sub hl [2, 3, 7, 8, 9, 0] rfl) hF
        · have hF := (if_pos c97).symm.trans hF
          refine q_aload_n Cx dL_trades_240 rfl (lv_at hl 2 rfl) ?_
          refine q_iconst (v := (4 : Int32)) Cx dL_trades_241 (by decide) ?_
          obtain ⟨r98, e99, hF⟩ := c1_some hF
          refine q_callI (as := [.int (4 : Int32)]) (rest := []) Cx (kX5_count e99) okX5_count ovX5_count wd_417 ⟨rfl, rfl, by decide, by decide⟩ hW oX ic5 rfl hl.1 (Nat.le_of_ble_eq_true rfl) rfl dL_trades_242 (fun H locs hW => ?_)
          refine q_iload Cx dL_trades_245 (lv_at hl 6 rfl) ?_
          refine q_icmp_ne (tgt := 254) Cx dL_trades_247 (by decide) (fun c100 => ?_) (fun c100 => ?_)
          · have hF := (if_neg c100).symm.trans hF
            exact wL_trades_254 Cx hret hW (lv_sub hl [2, 3, 7, 8, 9, 0] rfl) hF
          · have hF := (if_pos c100).symm.trans hF
            refine q_iconst (v := (1 : Int32)) Cx dL_trades_250 (by decide) ?_
            refine q_goto (tgt := 255) Cx dL_trades_251 (by decide) ?_
            exact wL_trades_255 Cx hret hW (lv_sub hl [2, 3, 7, 8, 9, 0] rfl) hF
def FL_trades_191 (l1 : Int32) (l2 : Int64) (l4 : Int32) (l5 : Int32) (l6 : Int32) (l7 : Int32) (l10 : Int32) (M : Mem) : Option (Int32 × Mem) :=
  FL_trades_196 l1 l2 l4 l5 l6 l7 l10 (1 : Int32) M
set_option maxRecDepth 100000 in
set_option maxHeartbeats 4000000 in
theorem wL_trades_191 {E : WE} {V : VT} {A : Nat → Prop} {H0 : Heap} (Cx : CX E RL cL_trades 18 8 205) {r : Int32} {M' : Mem} (hret : RetI E V A H0 cL_trades .boolean r M') {H : Heap} {locs : List Loc} {ls : Array Slot} {l1 : Int32} {l2 : Int64} {l4 : Int32} {l5 : Int32} {l6 : Int32} {l7 : Int32} {l10 : Int32} {M : Mem} (hW : Wd V A H0 M (eS E) H locs) (hl : lv_has ls 18 [(0, .ref (vA V 11 0)), (1, .int l1), (2, .long l2), (4, .int l4), (5, .int l5), (6, .int l6), (7, .int l7), (10, .int l10)]) (hF : FL_trades_191 l1 l2 l4 l5 l6 l7 l10 M = some (r, M')) : Wq E H locs 191 ls [] := by
  unfold FL_trades_191 at hF
  refine q_iconst (v := (1 : Int32)) Cx dL_trades_191 (by decide) ?_
  refine q_goto (tgt := 196) Cx dL_trades_192 (by decide) ?_
  exact wL_trades_196 Cx hret hW (lv_sub hl [0, 1, 2, 3, 4, 5, 6, 7] rfl) hF
def FL_trades_179 (l1 : Int32) (l2 : Int64) (l4 : Int32) (l5 : Int32) (l6 : Int32) (l7 : Int32) (l10 : Int32) (s0 : Int32) (M : Mem) : Option (Int32 × Mem) :=
  if s0 = 0 then
    if 0 ≤ l6 then
      FL_trades_196 l1 l2 l4 l5 l6 l7 l10 (0 : Int32) M
    else
      FL_trades_191 l1 l2 l4 l5 l6 l7 l10 M
  else
    FL_trades_191 l1 l2 l4 l5 l6 l7 l10 M
set_option maxRecDepth 100000 in
set_option maxHeartbeats 4000000 in
theorem wL_trades_179 {E : WE} {V : VT} {A : Nat → Prop} {H0 : Heap} (Cx : CX E RL cL_trades 18 8 205) {r : Int32} {M' : Mem} (hret : RetI E V A H0 cL_trades .boolean r M') {H : Heap} {locs : List Loc} {ls : Array Slot} {l1 : Int32} {l2 : Int64} {l4 : Int32} {l5 : Int32} {l6 : Int32} {l7 : Int32} {l10 : Int32} {s0 : Int32} {M : Mem} (hW : Wd V A H0 M (eS E) H locs) (hl : lv_has ls 18 [(0, .ref (vA V 11 0)), (1, .int l1), (2, .long l2), (4, .int l4), (5, .int l5), (6, .int l6), (7, .int l7), (10, .int l10)]) (hF : FL_trades_179 l1 l2 l4 l5 l6 l7 l10 s0 M = some (r, M')) : Wq E H locs 179 ls [.int s0] := by
  unfold FL_trades_179 at hF
  refine q_istore (lv' := [(12, .int s0), (0, .ref (vA V 11 0)), (1, .int l1), (2, .long l2), (4, .int l4), (5, .int l5), (6, .int l6), (7, .int l7), (10, .int l10)]) Cx dL_trades_179 hl (by decide) rfl (fun ls hl => ?_)
  refine q_iload Cx dL_trades_181 (lv_at hl 0 rfl) ?_
  refine q_if_ne (tgt := 191) Cx dL_trades_183 (by decide) (fun c33 => ?_) (fun c33 => ?_)
  · have hF := (if_neg c33).symm.trans hF
    exact wL_trades_191 Cx hret hW (lv_sub hl [1, 2, 3, 4, 5, 6, 7, 8] rfl) hF
  · have hF := (if_pos c33).symm.trans hF
    refine q_iload Cx dL_trades_186 (lv_at hl 6 rfl) ?_
    refine q_if_ge (tgt := 195) Cx dL_trades_188 (by decide) (fun c101 => ?_) (fun c101 => ?_)
    · have hF := (if_pos c101).symm.trans hF
      refine q_iconst (v := (0 : Int32)) Cx dL_trades_195 (by decide) ?_
      exact wL_trades_196 Cx hret hW (lv_sub hl [1, 2, 3, 4, 5, 6, 7, 8] rfl) hF
    · have hF := (if_neg c101).symm.trans hF
      exact wL_trades_191 Cx hret hW (lv_sub hl [1, 2, 3, 4, 5, 6, 7, 8] rfl) hF
def FL_trades_163 (l1 : Int32) (l2 : Int64) (l4 : Int32) (l5 : Int32) (l6 : Int32) (l7 : Int32) (l10 : Int32) (M : Mem) : Option (Int32 × Mem) :=
  FL_trades_179 l1 l2 l4 l5 l6 l7 l10 (0 : Int32) M
set_option maxRecDepth 100000 in
set_option maxHeartbeats 4000000 in
theorem wL_trades_163 {E : WE} {V : VT} {A : Nat → Prop} {H0 : Heap} (Cx : CX E RL cL_trades 18 8 205) {r : Int32} {M' : Mem} (hret : RetI E V A H0 cL_trades .boolean r M') {H : Heap} {locs : List Loc} {ls : Array Slot} {l1 : Int32} {l2 : Int64} {l4 : Int32} {l5 : Int32} {l6 : Int32} {l7 : Int32} {l10 : Int32} {M : Mem} (hW : Wd V A H0 M (eS E) H locs) (hl : lv_has ls 18 [(0, .ref (vA V 11 0)), (1, .int l1), (2, .long l2), (4, .int l4), (5, .int l5), (6, .int l6), (7, .int l7), (10, .int l10)]) (hF : FL_trades_163 l1 l2 l4 l5 l6 l7 l10 M = some (r, M')) : Wq E H locs 163 ls [] := by
  unfold FL_trades_163 at hF
  refine q_iconst (v := (0 : Int32)) Cx dL_trades_163 (by decide) ?_
  refine q_goto (tgt := 179) Cx dL_trades_164 (by decide) ?_
  exact wL_trades_179 Cx hret hW (lv_sub hl [0, 1, 2, 3, 4, 5, 6, 7] rfl) hF
def FL_trades_114 (l1 : Int32) (l2 : Int64) (l4 : Int32) (l5 : Int32) (l6 : Int32) (l7 : Int32) (l8 : Int32) (l9 : Int32) (l10 : Int32) (s0 : Int32) (M : Mem) : Option (Int32 × Mem) :=
  if l9 = (-6 : Int32) then
    if l10 ≤ l7 then
      FL_trades_179 l1 l2 l4 l5 l6 l7 l10 (0 : Int32) M
    else
      FL_trades_179 l1 l2 l4 l5 l6 l7 l10 (1 : Int32) M
  else
    if s0 < l9 then
      if l10 ≤ l7 then
        FL_trades_179 l1 l2 l4 l5 l6 l7 l10 (0 : Int32) M
      else
        FL_trades_179 l1 l2 l4 l5 l6 l7 l10 (1 : Int32) M
    else
      if l7 = l10 then
        if l8 = l9 then
          FL_trades_179 l1 l2 l4 l5 l6 l7 l10 (1 : Int32) M
        else
          FL_trades_163 l1 l2 l4 l5 l6 l7 l10 M
      else
        FL_trades_163 l1 l2 l4 l5 l6 l7 l10 M
set_option maxRecDepth 100000 in
set_option maxHeartbeats 4000000 in
theorem wL_trades_114 {E : WE} {V : VT} {A : Nat → Prop} {H0 : Heap} (Cx : CX E RL cL_trades 18 8 205) {r : Int32} {M' : Mem} (hret : RetI E V A H0 cL_trades .boolean r M') {H : Heap} {locs : List Loc} {ls : Array Slot} {l1 : Int32} {l2 : Int64} {l4 : Int32} {l5 : Int32} {l6 : Int32} {l7 : Int32} {l8 : Int32} {l9 : Int32} {l10 : Int32} {s0 : Int32} {M : Mem} (hW : Wd V A H0 M (eS E) H locs) (hl : lv_has ls 18 [(0, .ref (vA V 11 0)), (1, .int l1), (2, .long l2), (4, .int l4), (5, .int l5), (6, .int l6), (7, .int l7), (8, .int l8), (9, .int l9), (10, .int l10)]) (hF : FL_trades_114 l1 l2 l4 l5 l6 l7 l8 l9 l10 s0 M = some (r, M')) : Wq E H locs 114 ls [.int s0] := by
  unfold FL_trades_114 at hF
  refine q_istore (lv' := [(11, .int s0), (0, .ref (vA V 11 0)), (1, .int l1), (2, .long l2), (4, .int l4), (5, .int l5), (6, .int l6), (7, .int l7), (8, .int l8), (9, .int l9), (10, .int l10)]) Cx dL_trades_114 hl (by decide) rfl (fun ls hl => ?_)
  refine q_iload Cx dL_trades_116 (lv_at hl 9 rfl) ?_
  refine q_bipush (v := (-6 : Int32)) Cx dL_trades_118 (by decide) ?_
  refine q_icmp_ne (tgt := 138) Cx dL_trades_120 (by decide) (fun c30 => ?_) (fun c30 => ?_)
  · have hF := (if_neg c30).symm.trans hF
    refine q_iload Cx dL_trades_138 (lv_at hl 0 rfl) ?_
    refine q_iload Cx dL_trades_140 (lv_at hl 9 rfl) ?_
    refine q_icmp_lt (tgt := 167) Cx dL_trades_142 (by decide) (fun c31 => ?_) (fun c31 => ?_)
    · have hF := (if_pos c31).symm.trans hF
      refine q_iload Cx dL_trades_167 (lv_at hl 7 rfl) ?_
      refine q_iload Cx dL_trades_169 (lv_at hl 10 rfl) ?_
      refine q_icmp_ge (tgt := 178) Cx dL_trades_171 (by decide) (fun c32 => ?_) (fun c32 => ?_)
      · have hF := (if_pos c32).symm.trans hF
        refine q_iconst (v := (0 : Int32)) Cx dL_trades_178 (by decide) ?_
        exact wL_trades_179 Cx hret hW (lv_sub hl [1, 2, 3, 4, 5, 6, 7, 10] rfl) hF
      · have hF := (if_neg c32).symm.trans hF
        refine q_iconst (v := (1 : Int32)) Cx dL_trades_174 (by decide) ?_
        refine q_goto (tgt := 179) Cx dL_trades_175 (by decide) ?_
        exact wL_trades_179 Cx hret hW (lv_sub hl [1, 2, 3, 4, 5, 6, 7, 10] rfl) hF
    · have hF := (if_neg c31).symm.trans hF
      refine q_iload Cx dL_trades_145 (lv_at hl 7 rfl) ?_
      refine q_iload Cx dL_trades_147 (lv_at hl 10 rfl) ?_
      refine q_icmp_ne (tgt := 163) Cx dL_trades_149 (by decide) (fun c102 => ?_) (fun c102 => ?_)
      · have hF := (if_neg c102).symm.trans hF
        exact wL_trades_163 Cx hret hW (lv_sub hl [1, 2, 3, 4, 5, 6, 7, 10] rfl) hF
      · have hF := (if_pos c102).symm.trans hF
        refine q_iload Cx dL_trades_152 (lv_at hl 8 rfl) ?_
        refine q_iload Cx dL_trades_154 (lv_at hl 9 rfl) ?_
        refine q_icmp_ne (tgt := 163) Cx dL_trades_156 (by decide) (fun c103 => ?_) (fun c103 => ?_)
        · have hF := (if_neg c103).symm.trans hF
          exact wL_trades_163 Cx hret hW (lv_sub hl [1, 2, 3, 4, 5, 6, 7, 10] rfl) hF
        · have hF := (if_pos c103).symm.trans hF
          refine q_iconst (v := (1 : Int32)) Cx dL_trades_159 (by decide) ?_
          refine q_goto (tgt := 179) Cx dL_trades_160 (by decide) ?_
          exact wL_trades_179 Cx hret hW (lv_sub hl [1, 2, 3, 4, 5, 6, 7, 10] rfl) hF
  · have hF := (if_pos c30).symm.trans hF
    refine q_iload Cx dL_trades_123 (lv_at hl 7 rfl) ?_
    refine q_iload Cx dL_trades_125 (lv_at hl 10 rfl) ?_
    refine q_icmp_ge (tgt := 134) Cx dL_trades_127 (by decide) (fun c104 => ?_) (fun c104 => ?_)
    · have hF := (if_pos c104).symm.trans hF
      refine q_iconst (v := (0 : Int32)) Cx dL_trades_134 (by decide) ?_
      refine q_goto (tgt := 179) Cx dL_trades_135 (by decide) ?_
      exact wL_trades_179 Cx hret hW (lv_sub hl [1, 2, 3, 4, 5, 6, 7, 10] rfl) hF
    · have hF := (if_neg c104).symm.trans hF
      refine q_iconst (v := (1 : Int32)) Cx dL_trades_130 (by decide) ?_
      refine q_goto (tgt := 179) Cx dL_trades_131 (by decide) ?_
      exact wL_trades_179 Cx hret hW (lv_sub hl [1, 2, 3, 4, 5, 6, 7, 10] rfl) hF
def FL_trades_97 (l1 : Int32) (l2 : Int64) (l4 : Int32) (l5 : Int32) (l6 : Int32) (l7 : Int32) (l8 : Int32) (l9 : Int32) (s0 : Int32) (M : Mem) : Option (Int32 × Mem) :=
  if 0 ≤ l6 then
    c1 (FX5_money M l6) fun r28 =>
    FL_trades_114 l1 l2 l4 l5 l6 l7 l8 l9 s0 r28 M
  else
    FL_trades_114 l1 l2 l4 l5 l6 l7 l8 l9 s0 (0 : Int32) M
set_option maxRecDepth 100000 in
set_option maxHeartbeats 4000000 in
theorem wL_trades_97 {E : WE} {V : VT} {A : Nat → Prop} {H0 : Heap} (Cx : CX E RL cL_trades 18 8 205) {r : Int32} {M' : Mem} (hret : RetI E V A H0 cL_trades .boolean r M') {H : Heap} {locs : List Loc} {ls : Array Slot} {l1 : Int32} {l2 : Int64} {l4 : Int32} {l5 : Int32} {l6 : Int32} {l7 : Int32} {l8 : Int32} {l9 : Int32} {s0 : Int32} {M : Mem} (hW : Wd V A H0 M (eS E) H locs) (hl : lv_has ls 18 [(0, .ref (vA V 11 0)), (1, .int l1), (2, .long l2), (4, .int l4), (5, .int l5), (6, .int l6), (7, .int l7), (8, .int l8), (9, .int l9)]) (hF : FL_trades_97 l1 l2 l4 l5 l6 l7 l8 l9 s0 M = some (r, M')) : Wq E H locs 97 ls [.int s0] := by
  unfold FL_trades_97 at hF
  refine q_istore (lv' := [(10, .int s0), (0, .ref (vA V 11 0)), (1, .int l1), (2, .long l2), (4, .int l4), (5, .int l5), (6, .int l6), (7, .int l7), (8, .int l8), (9, .int l9)]) Cx dL_trades_97 hl (by decide) rfl (fun ls hl => ?_)
  refine q_iload Cx dL_trades_99 (lv_at hl 6 rfl) ?_
  refine q_if_ge (tgt := 108) Cx dL_trades_101 (by decide) (fun c27 => ?_) (fun c27 => ?_)
  · have hF := (if_pos c27).symm.trans hF
    refine q_aload_n Cx dL_trades_108 rfl (lv_at hl 1 rfl) ?_
    refine q_iload Cx dL_trades_109 (lv_at hl 6 rfl) ?_
    obtain ⟨r28, e29, hF⟩ := c1_some hF
    refine q_callI (as := [.int l6]) (rest := []) Cx (kX5_money e29) okX5_money ovX5_money wd_544 ⟨rfl, rfl, by decide, by decide⟩ hW oX ic5 rfl hl.1 (Nat.le_of_ble_eq_true rfl) rfl dL_trades_111 (fun H locs hW => ?_)
    exact wL_trades_114 Cx hret hW (lv_sub hl [1, 2, 3, 4, 5, 6, 7, 8, 9, 0] rfl) hF
  · have hF := (if_neg c27).symm.trans hF
    refine q_iconst (v := (0 : Int32)) Cx dL_trades_104 (by decide) ?_
    refine q_goto (tgt := 114) Cx dL_trades_105 (by decide) ?_
    exact wL_trades_114 Cx hret hW (lv_sub hl [1, 2, 3, 4, 5, 6, 7, 8, 9, 0] rfl) hF
def FL_trades_78 (l1 : Int32) (l2 : Int64) (l4 : Int32) (l5 : Int32) (l6 : Int32) (l7 : Int32) (l8 : Int32) (s0 : Int32) (M : Mem) : Option (Int32 × Mem) :=
  if 0 ≤ l6 then
    c2 (FX5_ofTask M l6 (6 : Int32)) fun r24 M26 =>
    FL_trades_97 l1 l2 l4 l5 l6 l7 l8 s0 r24 M26
  else
    FL_trades_97 l1 l2 l4 l5 l6 l7 l8 s0 (0 : Int32) M
set_option maxRecDepth 100000 in
set_option maxHeartbeats 4000000 in
theorem wL_trades_78 {E : WE} {V : VT} {A : Nat → Prop} {H0 : Heap} (Cx : CX E RL cL_trades 18 8 205) {r : Int32} {M' : Mem} (hret : RetI E V A H0 cL_trades .boolean r M') {H : Heap} {locs : List Loc} {ls : Array Slot} {l1 : Int32} {l2 : Int64} {l4 : Int32} {l5 : Int32} {l6 : Int32} {l7 : Int32} {l8 : Int32} {s0 : Int32} {M : Mem} (hW : Wd V A H0 M (eS E) H locs) (hl : lv_has ls 18 [(0, .ref (vA V 11 0)), (1, .int l1), (2, .long l2), (4, .int l4), (5, .int l5), (6, .int l6), (7, .int l7), (8, .int l8)]) (hF : FL_trades_78 l1 l2 l4 l5 l6 l7 l8 s0 M = some (r, M')) : Wq E H locs 78 ls [.int s0] := by
  unfold FL_trades_78 at hF
  refine q_istore (lv' := [(9, .int s0), (0, .ref (vA V 11 0)), (1, .int l1), (2, .long l2), (4, .int l4), (5, .int l5), (6, .int l6), (7, .int l7), (8, .int l8)]) Cx dL_trades_78 hl (by decide) rfl (fun ls hl => ?_)
  refine q_iload Cx dL_trades_80 (lv_at hl 6 rfl) ?_
  refine q_if_ge (tgt := 89) Cx dL_trades_82 (by decide) (fun c23 => ?_) (fun c23 => ?_)
  · have hF := (if_pos c23).symm.trans hF
    refine q_aload_n Cx dL_trades_89 rfl (lv_at hl 1 rfl) ?_
    refine q_iload Cx dL_trades_90 (lv_at hl 6 rfl) ?_
    refine q_bipush (v := (6 : Int32)) Cx dL_trades_92 (by decide) ?_
    obtain ⟨r24, M26, e25, hF⟩ := c2_some hF
    refine q_callI (as := [.int l6, .int (6 : Int32)]) (rest := []) Cx (kX5_ofTask e25) okX5_ofTask ovX5_ofTask wd_273 ⟨rfl, rfl, by decide, by decide⟩ hW oX ic5 rfl hl.1 (Nat.le_of_ble_eq_true rfl) rfl dL_trades_94 (fun H locs hW => ?_)
    exact wL_trades_97 Cx hret hW (lv_sub hl [1, 2, 3, 4, 5, 6, 7, 8, 0] rfl) hF
  · have hF := (if_neg c23).symm.trans hF
    refine q_iconst (v := (0 : Int32)) Cx dL_trades_85 (by decide) ?_
    refine q_goto (tgt := 97) Cx dL_trades_86 (by decide) ?_
    exact wL_trades_97 Cx hret hW (lv_sub hl [1, 2, 3, 4, 5, 6, 7, 8, 0] rfl) hF
def FL_trades_61 (l1 : Int32) (l2 : Int64) (l4 : Int32) (l5 : Int32) (l6 : Int32) (l7 : Int32) (s0 : Int32) (M : Mem) : Option (Int32 × Mem) :=
  if 0 ≤ l6 then
    c2 (FX5_leastMoney M l6) fun r20 M22 =>
    FL_trades_78 l1 l2 l4 l5 l6 l7 s0 r20 M22
  else
    FL_trades_78 l1 l2 l4 l5 l6 l7 s0 (0 : Int32) M
set_option maxRecDepth 100000 in
set_option maxHeartbeats 4000000 in
theorem wL_trades_61 {E : WE} {V : VT} {A : Nat → Prop} {H0 : Heap} (Cx : CX E RL cL_trades 18 8 205) {r : Int32} {M' : Mem} (hret : RetI E V A H0 cL_trades .boolean r M') {H : Heap} {locs : List Loc} {ls : Array Slot} {l1 : Int32} {l2 : Int64} {l4 : Int32} {l5 : Int32} {l6 : Int32} {l7 : Int32} {s0 : Int32} {M : Mem} (hW : Wd V A H0 M (eS E) H locs) (hl : lv_has ls 18 [(0, .ref (vA V 11 0)), (1, .int l1), (2, .long l2), (4, .int l4), (5, .int l5), (6, .int l6), (7, .int l7)]) (hF : FL_trades_61 l1 l2 l4 l5 l6 l7 s0 M = some (r, M')) : Wq E H locs 61 ls [.int s0] := by
  unfold FL_trades_61 at hF
  refine q_istore (lv' := [(8, .int s0), (0, .ref (vA V 11 0)), (1, .int l1), (2, .long l2), (4, .int l4), (5, .int l5), (6, .int l6), (7, .int l7)]) Cx dL_trades_61 hl (by decide) rfl (fun ls hl => ?_)
  refine q_iload Cx dL_trades_63 (lv_at hl 6 rfl) ?_
  refine q_if_ge (tgt := 72) Cx dL_trades_65 (by decide) (fun c19 => ?_) (fun c19 => ?_)
  · have hF := (if_pos c19).symm.trans hF
    refine q_aload_n Cx dL_trades_72 rfl (lv_at hl 1 rfl) ?_
    refine q_iload Cx dL_trades_73 (lv_at hl 6 rfl) ?_
    obtain ⟨r20, M22, e21, hF⟩ := c2_some hF
    refine q_callI (as := [.int l6]) (rest := []) Cx (kX5_leastMoney e21) okX5_leastMoney ovX5_leastMoney wd_539 ⟨rfl, rfl, by decide, by decide⟩ hW oX ic5 rfl hl.1 (Nat.le_of_ble_eq_true rfl) rfl dL_trades_75 (fun H locs hW => ?_)
    exact wL_trades_78 Cx hret hW (lv_sub hl [1, 2, 3, 4, 5, 6, 7, 0] rfl) hF
  · have hF := (if_neg c19).symm.trans hF
    refine q_iconst (v := (0 : Int32)) Cx dL_trades_68 (by decide) ?_
    refine q_goto (tgt := 78) Cx dL_trades_69 (by decide) ?_
    exact wL_trades_78 Cx hret hW (lv_sub hl [1, 2, 3, 4, 5, 6, 7, 0] rfl) hF
def FL_trades_43 (l1 : Int32) (l2 : Int64) (l4 : Int32) (l5 : Int32) (l6 : Int32) (s0 : Int32) (M : Mem) : Option (Int32 × Mem) :=
  if 0 ≤ l6 then
    c2 (FX5_wouldBuy M l6 (1 : Int32)) fun r16 M18 =>
    FL_trades_61 l1 l2 l4 l5 l6 s0 r16 M18
  else
    FL_trades_61 l1 l2 l4 l5 l6 s0 (0 : Int32) M
set_option maxRecDepth 100000 in
set_option maxHeartbeats 4000000 in
theorem wL_trades_43 {E : WE} {V : VT} {A : Nat → Prop} {H0 : Heap} (Cx : CX E RL cL_trades 18 8 205) {r : Int32} {M' : Mem} (hret : RetI E V A H0 cL_trades .boolean r M') {H : Heap} {locs : List Loc} {ls : Array Slot} {l1 : Int32} {l2 : Int64} {l4 : Int32} {l5 : Int32} {l6 : Int32} {s0 : Int32} {M : Mem} (hW : Wd V A H0 M (eS E) H locs) (hl : lv_has ls 18 [(0, .ref (vA V 11 0)), (1, .int l1), (2, .long l2), (4, .int l4), (5, .int l5), (6, .int l6)]) (hF : FL_trades_43 l1 l2 l4 l5 l6 s0 M = some (r, M')) : Wq E H locs 43 ls [.int s0] := by
  unfold FL_trades_43 at hF
  refine q_istore (lv' := [(7, .int s0), (0, .ref (vA V 11 0)), (1, .int l1), (2, .long l2), (4, .int l4), (5, .int l5), (6, .int l6)]) Cx dL_trades_43 hl (by decide) rfl (fun ls hl => ?_)
  refine q_iload Cx dL_trades_45 (lv_at hl 6 rfl) ?_
  refine q_if_ge (tgt := 54) Cx dL_trades_47 (by decide) (fun c15 => ?_) (fun c15 => ?_)
  · have hF := (if_pos c15).symm.trans hF
    refine q_aload_n Cx dL_trades_54 rfl (lv_at hl 1 rfl) ?_
    refine q_iload Cx dL_trades_55 (lv_at hl 6 rfl) ?_
    refine q_iconst (v := (1 : Int32)) Cx dL_trades_57 (by decide) ?_
    obtain ⟨r16, M18, e17, hF⟩ := c2_some hF
    refine q_callI (as := [.int l6, .int (1 : Int32)]) (rest := []) Cx (kX5_wouldBuy e17) okX5_wouldBuy ovX5_wouldBuy wd_528 ⟨rfl, rfl, by decide, by decide⟩ hW oX ic5 rfl hl.1 (Nat.le_of_ble_eq_true rfl) rfl dL_trades_58 (fun H locs hW => ?_)
    exact wL_trades_61 Cx hret hW (lv_sub hl [1, 2, 3, 4, 5, 6, 0] rfl) hF
  · have hF := (if_neg c15).symm.trans hF
    refine q_iconst (v := (0 : Int32)) Cx dL_trades_50 (by decide) ?_
    refine q_goto (tgt := 61) Cx dL_trades_51 (by decide) ?_
    exact wL_trades_61 Cx hret hW (lv_sub hl [1, 2, 3, 4, 5, 6, 0] rfl) hF
def FL_trades (M : Mem) (l1 : Int32) : Option (Int32 × Mem) :=
  c1 (FL_dues M l1) fun r1 =>
  c1 (FX5_count M (6 : Int32)) fun r3 =>
  c2 (FX5_lateBehind M) fun r5 M7 =>
  c2 (FL_latest M7 l1) fun r8 M10 =>
  if 0 ≤ r8 then
    c2 (FX5_wouldBuy M10 r8 (0 : Int32)) fun r12 M14 =>
    FL_trades_43 l1 r1 r3 r5 r8 r12 M14
  else
    FL_trades_43 l1 r1 r3 r5 r8 (0 : Int32) M10
set_option maxRecDepth 100000 in
set_option maxHeartbeats 4000000 in
theorem wL_trades {E : WE} {V : VT} {A : Nat → Prop} {H0 : Heap} (Cx : CX E RL cL_trades 18 8 205) {r : Int32} {M' : Mem} (hret : RetI E V A H0 cL_trades .boolean r M') {H : Heap} {locs : List Loc} {ls : Array Slot} {l1 : Int32} {M : Mem} (hW : Wd V A H0 M (eS E) H locs) (hl : lv_has ls 18 [(0, .ref (vA V 11 0)), (1, .int l1)]) (hF : FL_trades M l1 = some (r, M')) : Wq E H locs 0 ls [] := by
  unfold FL_trades at hF
  refine q_aload_n Cx dL_trades_0 rfl (lv_at hl 0 rfl) ?_
  refine q_iload_n Cx dL_trades_1 rfl (lv_at hl 1 rfl) ?_
  obtain ⟨r1, e2, hF⟩ := c1_some hF
  refine q_callSL (as := [.ref (vA V 11 0), .int l1]) (rest := []) Cx (kL_dues e2) okL_dues osL_dues rfl wd_477 ⟨rfl, rfl, by decide, by decide⟩ hW rfl hl.1 (Nat.le_of_ble_eq_true rfl) rfl dL_trades_2 (fun H locs hW => ?_)
  refine q_lstore_n (lv' := [(2, .long r1), (0, .ref (vA V 11 0)), (1, .int l1)]) Cx dL_trades_5 rfl hl (by decide) rfl (fun ls hl => ?_)
  refine q_aload_n Cx dL_trades_6 rfl (lv_at hl 1 rfl) ?_
  refine q_bipush (v := (6 : Int32)) Cx dL_trades_7 (by decide) ?_
  obtain ⟨r3, e4, hF⟩ := c1_some hF
  refine q_callI (as := [.int (6 : Int32)]) (rest := []) Cx (kX5_count e4) okX5_count ovX5_count wd_417 ⟨rfl, rfl, by decide, by decide⟩ hW oX ic5 rfl hl.1 (Nat.le_of_ble_eq_true rfl) rfl dL_trades_9 (fun H locs hW => ?_)
  refine q_istore (lv' := [(4, .int r3), (2, .long r1), (0, .ref (vA V 11 0)), (1, .int l1)]) Cx dL_trades_12 hl (by decide) rfl (fun ls hl => ?_)
  refine q_aload_n Cx dL_trades_14 rfl (lv_at hl 2 rfl) ?_
  obtain ⟨r5, M7, e6, hF⟩ := c2_some hF
  refine q_callI (as := []) (rest := []) Cx (kX5_lateBehind e6) okX5_lateBehind ovX5_lateBehind wd_480 ⟨rfl, rfl, by decide, by decide⟩ hW oX ic5 rfl hl.1 (Nat.le_of_ble_eq_true rfl) rfl dL_trades_15 (fun H locs hW => ?_)
  refine q_istore (lv' := [(5, .int r5), (4, .int r3), (2, .long r1), (0, .ref (vA V 11 0)), (1, .int l1)]) Cx dL_trades_18 hl (by decide) rfl (fun ls hl => ?_)
  refine q_aload_n Cx dL_trades_20 rfl (lv_at hl 3 rfl) ?_
  refine q_iload_n Cx dL_trades_21 rfl (lv_at hl 4 rfl) ?_
  obtain ⟨r8, M10, e9, hF⟩ := c2_some hF
  refine q_callSI (as := [.ref (vA V 11 0), .int l1]) (rest := []) Cx (kL_latest e9) okL_latest osL_latest rfl wd_525 ⟨rfl, rfl, by decide, by decide⟩ hW rfl hl.1 (Nat.le_of_ble_eq_true rfl) rfl dL_trades_22 (fun H locs hW => ?_)
  refine q_istore (lv' := [(6, .int r8), (5, .int r5), (4, .int r3), (2, .long r1), (0, .ref (vA V 11 0)), (1, .int l1)]) Cx dL_trades_25 hl (by decide) rfl (fun ls hl => ?_)
  refine q_iload Cx dL_trades_27 (lv_at hl 0 rfl) ?_
  refine q_if_ge (tgt := 36) Cx dL_trades_29 (by decide) (fun c11 => ?_) (fun c11 => ?_)
  · have hF := (if_pos c11).symm.trans hF
    refine q_aload_n Cx dL_trades_36 rfl (lv_at hl 4 rfl) ?_
    refine q_iload Cx dL_trades_37 (lv_at hl 0 rfl) ?_
    refine q_iconst (v := (0 : Int32)) Cx dL_trades_39 (by decide) ?_
    obtain ⟨r12, M14, e13, hF⟩ := c2_some hF
    refine q_callI (as := [.int r8, .int (0 : Int32)]) (rest := []) Cx (kX5_wouldBuy e13) okX5_wouldBuy ovX5_wouldBuy wd_528 ⟨rfl, rfl, by decide, by decide⟩ hW oX ic5 rfl hl.1 (Nat.le_of_ble_eq_true rfl) rfl dL_trades_40 (fun H locs hW => ?_)
    exact wL_trades_43 Cx hret hW (lv_sub hl [4, 5, 3, 2, 1, 0] rfl) hF
  · have hF := (if_neg c11).symm.trans hF
    refine q_iconst (v := (0 : Int32)) Cx dL_trades_32 (by decide) ?_
    refine q_goto (tgt := 43) Cx dL_trades_33 (by decide) ?_
    exact wL_trades_43 Cx hret hW (lv_sub hl [4, 5, 3, 2, 1, 0] rfl) hF
set_option maxRecDepth 100000 in
theorem kL_trades {l : Launch} {V : VT} {M : Mem} {l1 : Int32} {r : Int32} {M' : Mem} (hF : FL_trades M l1 = some (r, M')) : MetI l V yL_trades cL_trades 18 .boolean ({ frames := 8, cells := 0, slots := 0, locals := 205 } : Room) [.ref (vA V 11 0), .int l1] r M M' := metI_of (by decide) (Nat.le_of_ble_eq_true rfl) (fun E H0 _ Cx hret H locs ls hW hl => wL_trades Cx hret hW hl hF)
theorem dL_refunds_0 : decode cL_refunds 0 = .ok (.aload_n 0, 1) := by decide +kernel
theorem dL_refunds_1 : decode cL_refunds 1 = .ok (.iload_n 1, 1) := by decide +kernel
theorem dL_refunds_2 : decode cL_refunds 2 = .ok (.invokestatic 65, 3) := by decide +kernel
theorem dL_refunds_5 : decode cL_refunds 5 = .ok (.lstore_n 3, 1) := by decide +kernel
theorem dL_refunds_6 : decode cL_refunds 6 = .ok (.aload_n 0, 1) := by decide +kernel
theorem dL_refunds_7 : decode cL_refunds 7 = .ok (.bipush 6, 2) := by decide +kernel
theorem dL_refunds_9 : decode cL_refunds 9 = .ok (.invokevirtual 44, 3) := by decide +kernel
theorem dL_refunds_12 : decode cL_refunds 12 = .ok (.istore 5, 2) := by decide +kernel
theorem dL_refunds_14 : decode cL_refunds 14 = .ok (.iconst 0, 1) := by decide +kernel
theorem dL_refunds_15 : decode cL_refunds 15 = .ok (.istore 6, 2) := by decide +kernel
theorem dL_refunds_17 : decode cL_refunds 17 = .ok (.iload 6, 2) := by decide +kernel
theorem dL_refunds_19 : decode cL_refunds 19 = .ok (.iconst 4, 1) := by decide +kernel
theorem dL_refunds_20 : decode cL_refunds 20 = .ok (.if_icmp .ge 220, 3) := by decide +kernel
theorem dL_refunds_23 : decode cL_refunds 23 = .ok (.aload_n 0, 1) := by decide +kernel
theorem dL_refunds_24 : decode cL_refunds 24 = .ok (.iconst 1, 1) := by decide +kernel
theorem dL_refunds_25 : decode cL_refunds 25 = .ok (.invokevirtual 44, 3) := by decide +kernel
theorem dL_refunds_28 : decode cL_refunds 28 = .ok (.ifCond .le 212, 3) := by decide +kernel
theorem dL_refunds_31 : decode cL_refunds 31 = .ok (.iload_n 2, 1) := by decide +kernel
theorem dL_refunds_32 : decode cL_refunds 32 = .ok (.iconst 4, 1) := by decide +kernel
theorem dL_refunds_33 : decode cL_refunds 33 = .ok (.iload 6, 2) := by decide +kernel
theorem dL_refunds_35 : decode cL_refunds 35 = .ok (.imul, 1) := by decide +kernel
theorem dL_refunds_36 : decode cL_refunds 36 = .ok (.ishr, 1) := by decide +kernel
theorem dL_refunds_37 : decode cL_refunds 37 = .ok (.aload_n 0, 1) := by decide +kernel
theorem dL_refunds_38 : decode cL_refunds 38 = .ok (.iconst 1, 1) := by decide +kernel
theorem dL_refunds_39 : decode cL_refunds 39 = .ok (.invokevirtual 44, 3) := by decide +kernel
theorem dL_refunds_42 : decode cL_refunds 42 = .ok (.invokestatic 16, 3) := by decide +kernel
theorem dL_refunds_45 : decode cL_refunds 45 = .ok (.istore 7, 2) := by decide +kernel
theorem dL_refunds_47 : decode cL_refunds 47 = .ok (.aload_n 0, 1) := by decide +kernel
theorem dL_refunds_48 : decode cL_refunds 48 = .ok (.iload 7, 2) := by decide +kernel
theorem dL_refunds_50 : decode cL_refunds 50 = .ok (.iconst 0, 1) := by decide +kernel
theorem dL_refunds_51 : decode cL_refunds 51 = .ok (.invokevirtual 87, 3) := by decide +kernel
theorem dL_refunds_54 : decode cL_refunds 54 = .ok (.istore 8, 2) := by decide +kernel
theorem dL_refunds_56 : decode cL_refunds 56 = .ok (.aload_n 0, 1) := by decide +kernel
theorem dL_refunds_57 : decode cL_refunds 57 = .ok (.iload 7, 2) := by decide +kernel
theorem dL_refunds_59 : decode cL_refunds 59 = .ok (.iconst 1, 1) := by decide +kernel
theorem dL_refunds_60 : decode cL_refunds 60 = .ok (.invokevirtual 87, 3) := by decide +kernel
theorem dL_refunds_63 : decode cL_refunds 63 = .ok (.istore 9, 2) := by decide +kernel
theorem dL_refunds_65 : decode cL_refunds 65 = .ok (.aload_n 0, 1) := by decide +kernel
theorem dL_refunds_66 : decode cL_refunds 66 = .ok (.iload 7, 2) := by decide +kernel
theorem dL_refunds_68 : decode cL_refunds 68 = .ok (.iconst 2, 1) := by decide +kernel
theorem dL_refunds_69 : decode cL_refunds 69 = .ok (.invokevirtual 87, 3) := by decide +kernel
theorem dL_refunds_72 : decode cL_refunds 72 = .ok (.istore 10, 2) := by decide +kernel
theorem dL_refunds_74 : decode cL_refunds 74 = .ok (.iconst 1, 1) := by decide +kernel
theorem dL_refunds_75 : decode cL_refunds 75 = .ok (.iload_n 2, 1) := by decide +kernel
theorem dL_refunds_76 : decode cL_refunds 76 = .ok (.iconst 3, 1) := by decide +kernel
theorem dL_refunds_77 : decode cL_refunds 77 = .ok (.iconst 4, 1) := by decide +kernel
theorem dL_refunds_78 : decode cL_refunds 78 = .ok (.iload 6, 2) := by decide +kernel
theorem dL_refunds_80 : decode cL_refunds 80 = .ok (.imul, 1) := by decide +kernel
theorem dL_refunds_81 : decode cL_refunds 81 = .ok (.iadd, 1) := by decide +kernel
theorem dL_refunds_82 : decode cL_refunds 82 = .ok (.ishr, 1) := by decide +kernel
theorem dL_refunds_83 : decode cL_refunds 83 = .ok (.iload 10, 2) := by decide +kernel
theorem dL_refunds_85 : decode cL_refunds 85 = .ok (.invokestatic 16, 3) := by decide +kernel
theorem dL_refunds_88 : decode cL_refunds 88 = .ok (.iadd, 1) := by decide +kernel
theorem dL_refunds_89 : decode cL_refunds 89 = .ok (.istore 11, 2) := by decide +kernel
theorem dL_refunds_91 : decode cL_refunds 91 = .ok (.iload 11, 2) := by decide +kernel
theorem dL_refunds_93 : decode cL_refunds 93 = .ok (.aload_n 0, 1) := by decide +kernel
theorem dL_refunds_94 : decode cL_refunds 94 = .ok (.iload 7, 2) := by decide +kernel
theorem dL_refunds_96 : decode cL_refunds 96 = .ok (.iconst 3, 1) := by decide +kernel
theorem dL_refunds_97 : decode cL_refunds 97 = .ok (.invokevirtual 87, 3) := by decide +kernel
theorem dL_refunds_100 : decode cL_refunds 100 = .ok (.imul, 1) := by decide +kernel
theorem dL_refunds_101 : decode cL_refunds 101 = .ok (.aload_n 0, 1) := by decide +kernel
theorem dL_refunds_102 : decode cL_refunds 102 = .ok (.bipush 10, 2) := by decide +kernel
theorem dL_refunds_104 : decode cL_refunds 104 = .ok (.invokevirtual 44, 3) := by decide +kernel
theorem dL_refunds_107 : decode cL_refunds 107 = .ok (.imul, 1) := by decide +kernel
theorem dL_refunds_108 : decode cL_refunds 108 = .ok (.bipush 100, 2) := by decide +kernel
theorem dL_refunds_110 : decode cL_refunds 110 = .ok (.idiv, 1) := by decide +kernel
theorem dL_refunds_111 : decode cL_refunds 111 = .ok (.istore 12, 2) := by decide +kernel
theorem dL_refunds_113 : decode cL_refunds 113 = .ok (.aload_n 0, 1) := by decide +kernel
theorem dL_refunds_114 : decode cL_refunds 114 = .ok (.iload 8, 2) := by decide +kernel
theorem dL_refunds_116 : decode cL_refunds 116 = .ok (.invokevirtual 81, 3) := by decide +kernel
theorem dL_refunds_119 : decode cL_refunds 119 = .ok (.istore 13, 2) := by decide +kernel
theorem dL_refunds_121 : decode cL_refunds 121 = .ok (.aload_n 0, 1) := by decide +kernel
theorem dL_refunds_122 : decode cL_refunds 122 = .ok (.iload 9, 2) := by decide +kernel
theorem dL_refunds_124 : decode cL_refunds 124 = .ok (.bipush 7, 2) := by decide +kernel
theorem dL_refunds_126 : decode cL_refunds 126 = .ok (.invokevirtual 26, 3) := by decide +kernel
theorem dL_refunds_129 : decode cL_refunds 129 = .ok (.istore 14, 2) := by decide +kernel
theorem dL_refunds_131 : decode cL_refunds 131 = .ok (.aload_n 0, 1) := by decide +kernel
theorem dL_refunds_132 : decode cL_refunds 132 = .ok (.iconst 1, 1) := by decide +kernel
theorem dL_refunds_133 : decode cL_refunds 133 = .ok (.invokevirtual 44, 3) := by decide +kernel
theorem dL_refunds_136 : decode cL_refunds 136 = .ok (.istore 15, 2) := by decide +kernel
theorem dL_refunds_138 : decode cL_refunds 138 = .ok (.aload_n 0, 1) := by decide +kernel
theorem dL_refunds_139 : decode cL_refunds 139 = .ok (.iload 7, 2) := by decide +kernel
theorem dL_refunds_141 : decode cL_refunds 141 = .ok (.iload 11, 2) := by decide +kernel
theorem dL_refunds_143 : decode cL_refunds 143 = .ok (.invokevirtual 97, 3) := by decide +kernel
theorem dL_refunds_146 : decode cL_refunds 146 = .ok (.istore 16, 2) := by decide +kernel
theorem dL_refunds_148 : decode cL_refunds 148 = .ok (.iload 14, 2) := by decide +kernel
theorem dL_refunds_150 : decode cL_refunds 150 = .ok (.iload 11, 2) := by decide +kernel
theorem dL_refunds_152 : decode cL_refunds 152 = .ok (.if_icmp .lt 14, 3) := by decide +kernel
theorem dL_refunds_155 : decode cL_refunds 155 = .ok (.iload 13, 2) := by decide +kernel
theorem dL_refunds_157 : decode cL_refunds 157 = .ok (.iload 12, 2) := by decide +kernel
theorem dL_refunds_159 : decode cL_refunds 159 = .ok (.if_icmp .lt 7, 3) := by decide +kernel
theorem dL_refunds_162 : decode cL_refunds 162 = .ok (.iconst 1, 1) := by decide +kernel
theorem dL_refunds_163 : decode cL_refunds 163 = .ok (.goto 4, 3) := by decide +kernel
theorem dL_refunds_166 : decode cL_refunds 166 = .ok (.iconst 0, 1) := by decide +kernel
theorem dL_refunds_167 : decode cL_refunds 167 = .ok (.istore 17, 2) := by decide +kernel
theorem dL_refunds_169 : decode cL_refunds 169 = .ok (.iload 16, 2) := by decide +kernel
theorem dL_refunds_171 : decode cL_refunds 171 = .ok (.iload 17, 2) := by decide +kernel
theorem dL_refunds_173 : decode cL_refunds 173 = .ok (.ifCond .eq 11, 3) := by decide +kernel
theorem dL_refunds_176 : decode cL_refunds 176 = .ok (.iload 10, 2) := by decide +kernel
theorem dL_refunds_178 : decode cL_refunds 178 = .ok (.iload 11, 2) := by decide +kernel
theorem dL_refunds_180 : decode cL_refunds 180 = .ok (.isub, 1) := by decide +kernel
theorem dL_refunds_181 : decode cL_refunds 181 = .ok (.goto 5, 3) := by decide +kernel
theorem dL_refunds_184 : decode cL_refunds 184 = .ok (.bipush (-5), 2) := by decide +kernel
theorem dL_refunds_186 : decode cL_refunds 186 = .ok (.if_icmp .ne 46, 3) := by decide +kernel
theorem dL_refunds_189 : decode cL_refunds 189 = .ok (.iload 17, 2) := by decide +kernel
theorem dL_refunds_191 : decode cL_refunds 191 = .ok (.ifCond .eq 43, 3) := by decide +kernel
theorem dL_refunds_194 : decode cL_refunds 194 = .ok (.aload_n 0, 1) := by decide +kernel
theorem dL_refunds_195 : decode cL_refunds 195 = .ok (.iload 8, 2) := by decide +kernel
theorem dL_refunds_197 : decode cL_refunds 197 = .ok (.invokevirtual 81, 3) := by decide +kernel
theorem dL_refunds_200 : decode cL_refunds 200 = .ok (.iload 13, 2) := by decide +kernel
theorem dL_refunds_202 : decode cL_refunds 202 = .ok (.iload 12, 2) := by decide +kernel
theorem dL_refunds_204 : decode cL_refunds 204 = .ok (.isub, 1) := by decide +kernel
theorem dL_refunds_205 : decode cL_refunds 205 = .ok (.if_icmp .ne 27, 3) := by decide +kernel
theorem dL_refunds_208 : decode cL_refunds 208 = .ok (.aload_n 0, 1) := by decide +kernel
theorem dL_refunds_209 : decode cL_refunds 209 = .ok (.iconst 1, 1) := by decide +kernel
theorem dL_refunds_210 : decode cL_refunds 210 = .ok (.invokevirtual 44, 3) := by decide +kernel
theorem dL_refunds_213 : decode cL_refunds 213 = .ok (.iload 10, 2) := by decide +kernel
theorem dL_refunds_215 : decode cL_refunds 215 = .ok (.iload 11, 2) := by decide +kernel
theorem dL_refunds_217 : decode cL_refunds 217 = .ok (.if_icmp .ne 10, 3) := by decide +kernel
theorem dL_refunds_220 : decode cL_refunds 220 = .ok (.iload 15, 2) := by decide +kernel
theorem dL_refunds_222 : decode cL_refunds 222 = .ok (.iconst 1, 1) := by decide +kernel
theorem dL_refunds_223 : decode cL_refunds 223 = .ok (.isub, 1) := by decide +kernel
theorem dL_refunds_224 : decode cL_refunds 224 = .ok (.goto 5, 3) := by decide +kernel
theorem dL_refunds_227 : decode cL_refunds 227 = .ok (.iload 15, 2) := by decide +kernel
theorem dL_refunds_229 : decode cL_refunds 229 = .ok (.if_icmp .eq 5, 3) := by decide +kernel
theorem dL_refunds_232 : decode cL_refunds 232 = .ok (.iconst 0, 1) := by decide +kernel
theorem dL_refunds_233 : decode cL_refunds 233 = .ok (.ireturn, 1) := by decide +kernel
theorem dL_refunds_234 : decode cL_refunds 234 = .ok (.iinc 6 1, 3) := by decide +kernel
theorem dL_refunds_237 : decode cL_refunds 237 = .ok (.goto (-220), 3) := by decide +kernel
theorem dL_refunds_240 : decode cL_refunds 240 = .ok (.aload_n 0, 1) := by decide +kernel
theorem dL_refunds_241 : decode cL_refunds 241 = .ok (.iload_n 1, 1) := by decide +kernel
theorem dL_refunds_242 : decode cL_refunds 242 = .ok (.invokestatic 65, 3) := by decide +kernel
theorem dL_refunds_245 : decode cL_refunds 245 = .ok (.lload_n 3, 1) := by decide +kernel
theorem dL_refunds_246 : decode cL_refunds 246 = .ok (.lcmp, 1) := by decide +kernel
theorem dL_refunds_247 : decode cL_refunds 247 = .ok (.ifCond .ne 26, 3) := by decide +kernel
theorem dL_refunds_250 : decode cL_refunds 250 = .ok (.aload_n 0, 1) := by decide +kernel
theorem dL_refunds_251 : decode cL_refunds 251 = .ok (.bipush 6, 2) := by decide +kernel
theorem dL_refunds_253 : decode cL_refunds 253 = .ok (.invokevirtual 44, 3) := by decide +kernel
theorem dL_refunds_256 : decode cL_refunds 256 = .ok (.iload 5, 2) := by decide +kernel
theorem dL_refunds_258 : decode cL_refunds 258 = .ok (.if_icmp .ne 15, 3) := by decide +kernel
theorem dL_refunds_261 : decode cL_refunds 261 = .ok (.aload_n 0, 1) := by decide +kernel
theorem dL_refunds_262 : decode cL_refunds 262 = .ok (.iload_n 1, 1) := by decide +kernel
theorem dL_refunds_263 : decode cL_refunds 263 = .ok (.invokestatic 93, 3) := by decide +kernel
theorem dL_refunds_266 : decode cL_refunds 266 = .ok (.ifCond .eq 7, 3) := by decide +kernel
theorem dL_refunds_269 : decode cL_refunds 269 = .ok (.iconst 1, 1) := by decide +kernel
theorem dL_refunds_270 : decode cL_refunds 270 = .ok (.goto 4, 3) := by decide +kernel
theorem dL_refunds_273 : decode cL_refunds 273 = .ok (.iconst 0, 1) := by decide +kernel
theorem dL_refunds_274 : decode cL_refunds 274 = .ok (.ireturn, 1) := by decide +kernel
theorem okL_refunds : CalOK yL_refunds cL_refunds 18 (some .boolean) 3 := ⟨wd_15, wd_571, by decide +kernel⟩
theorem osL_refunds : Cond.static yL_refunds ∈ lw_gd := wd_570
def FL_refunds_240 (l1 : Int32) (l3 : Int64) (l5 : Int32) (M : Mem) : Option (Int32 × Mem) :=
  c1 (FL_dues M l1) fun r6 =>
  if (lg_cmp r6 l3) = 0 then
    c1 (FX5_count M (6 : Int32)) fun r9 =>
    if r9 = l5 then
      c2 (FL_times M l1) fun r12 M14 =>
      if r12 = 0 then
        some ((0 : Int32), M14)
      else
        some ((1 : Int32), M14)
    else
      some ((0 : Int32), M)
  else
    some ((0 : Int32), M)
set_option maxRecDepth 100000 in
set_option maxHeartbeats 4000000 in
theorem wL_refunds_240 {E : WE} {V : VT} {A : Nat → Prop} {H0 : Heap} (Cx : CX E RL cL_refunds 18 8 205) {r : Int32} {M' : Mem} (hret : RetI E V A H0 cL_refunds .boolean r M') {H : Heap} {locs : List Loc} {ls : Array Slot} {l1 : Int32} {l3 : Int64} {l5 : Int32} {M : Mem} (hW : Wd V A H0 M (eS E) H locs) (hl : lv_has ls 18 [(0, .ref (vA V 11 0)), (1, .int l1), (3, .long l3), (5, .int l5)]) (hF : FL_refunds_240 l1 l3 l5 M = some (r, M')) : Wq E H locs 240 ls [] := by
  unfold FL_refunds_240 at hF
  refine q_aload_n Cx dL_refunds_240 rfl (lv_at hl 0 rfl) ?_
  refine q_iload_n Cx dL_refunds_241 rfl (lv_at hl 1 rfl) ?_
  obtain ⟨r6, e7, hF⟩ := c1_some hF
  refine q_callSL (as := [.ref (vA V 11 0), .int l1]) (rest := []) Cx (kL_dues e7) okL_dues osL_dues rfl wd_477 ⟨rfl, rfl, by decide, by decide⟩ hW rfl hl.1 (Nat.le_of_ble_eq_true rfl) rfl dL_refunds_242 (fun H locs hW => ?_)
  refine q_lload_n Cx dL_refunds_245 rfl (lv_at hl 2 rfl) ?_
  refine q_lcmp Cx dL_refunds_246 ?_
  refine q_if_ne (tgt := 273) Cx dL_refunds_247 (by decide) (fun c8 => ?_) (fun c8 => ?_)
  · have hF := (if_neg c8).symm.trans hF
    refine q_iconst (v := (0 : Int32)) Cx dL_refunds_273 (by decide) ?_
    obtain ⟨rfl, rfl⟩ := Prod.mk.inj (Option.some.inj hF)
    exact hret _ _ _ _ dL_refunds_274 (by rfl) hW
  · have hF := (if_pos c8).symm.trans hF
    refine q_aload_n Cx dL_refunds_250 rfl (lv_at hl 0 rfl) ?_
    refine q_bipush (v := (6 : Int32)) Cx dL_refunds_251 (by decide) ?_
    obtain ⟨r9, e10, hF⟩ := c1_some hF
    refine q_callI (as := [.int (6 : Int32)]) (rest := []) Cx (kX5_count e10) okX5_count ovX5_count wd_417 ⟨rfl, rfl, by decide, by decide⟩ hW oX ic5 rfl hl.1 (Nat.le_of_ble_eq_true rfl) rfl dL_refunds_253 (fun H locs hW => ?_)
    refine q_iload Cx dL_refunds_256 (lv_at hl 3 rfl) ?_
    refine q_icmp_ne (tgt := 273) Cx dL_refunds_258 (by decide) (fun c11 => ?_) (fun c11 => ?_)
    · have hF := (if_neg c11).symm.trans hF
      refine q_iconst (v := (0 : Int32)) Cx dL_refunds_273 (by decide) ?_
      obtain ⟨rfl, rfl⟩ := Prod.mk.inj (Option.some.inj hF)
      exact hret _ _ _ _ dL_refunds_274 (by rfl) hW
    · have hF := (if_pos c11).symm.trans hF
      refine q_aload_n Cx dL_refunds_261 rfl (lv_at hl 0 rfl) ?_
      refine q_iload_n Cx dL_refunds_262 rfl (lv_at hl 1 rfl) ?_
      obtain ⟨r12, M14, e13, hF⟩ := c2_some hF
      refine q_callSI (as := [.ref (vA V 11 0), .int l1]) (rest := []) Cx (kL_times e13) okL_times osL_times rfl wd_401 ⟨rfl, rfl, by decide, by decide⟩ hW rfl hl.1 (Nat.le_of_ble_eq_true rfl) rfl dL_refunds_263 (fun H locs hW => ?_)
      refine q_if_eq (tgt := 273) Cx dL_refunds_266 (by decide) (fun c15 => ?_) (fun c15 => ?_)
      · have hF := (if_pos c15).symm.trans hF
        refine q_iconst (v := (0 : Int32)) Cx dL_refunds_273 (by decide) ?_
        obtain ⟨rfl, rfl⟩ := Prod.mk.inj (Option.some.inj hF)
        exact hret _ _ _ _ dL_refunds_274 (by rfl) hW
      · have hF := (if_neg c15).symm.trans hF
        refine q_iconst (v := (1 : Int32)) Cx dL_refunds_269 (by decide) ?_
        refine q_goto (tgt := 274) Cx dL_refunds_270 (by decide) ?_
        obtain ⟨rfl, rfl⟩ := Prod.mk.inj (Option.some.inj hF)
        exact hret _ _ _ _ dL_refunds_274 (by rfl) hW
def FL_refunds_229 (k17 : Int32 → Int32 → Int64 → Int32 → Int32 → Mem → Option (Int32 × Mem)) (l1 : Int32) (l2 : Int32) (l3 : Int64) (l5 : Int32) (l6 : Int32) (s0 : Int32) (s1 : Int32) (M : Mem) : Option (Int32 × Mem) :=
  if s1 = s0 then
    lt1 (l6 + (1 : Int32)) fun x62 =>
    k17 l1 l2 l3 l5 x62 M
  else
    some ((0 : Int32), M)
set_option maxRecDepth 100000 in
set_option maxHeartbeats 4000000 in
theorem wL_refunds_229 {E : WE} {V : VT} {A : Nat → Prop} {H0 : Heap} (Cx : CX E RL cL_refunds 18 8 205) {r : Int32} {M' : Mem} (hret : RetI E V A H0 cL_refunds .boolean r M') {k17 : Int32 → Int32 → Int64 → Int32 → Int32 → Mem → Option (Int32 × Mem)} (hk17 : ∀ {H : Heap} {locs : List Loc} {ls : Array Slot} {M : Mem} {l1 : Int32} {l2 : Int32} {l3 : Int64} {l5 : Int32} {l6 : Int32}, Wd V A H0 M (eS E) H locs → lv_has ls 18 [(0, .ref (vA V 11 0)), (1, .int l1), (2, .int l2), (3, .long l3), (5, .int l5), (6, .int l6)] → k17 l1 l2 l3 l5 l6 M = some (r, M') → Wq E H locs 17 ls []) {H : Heap} {locs : List Loc} {ls : Array Slot} {l1 : Int32} {l2 : Int32} {l3 : Int64} {l5 : Int32} {l6 : Int32} {s0 : Int32} {s1 : Int32} {M : Mem} (hW : Wd V A H0 M (eS E) H locs) (hl : lv_has ls 18 [(0, .ref (vA V 11 0)), (1, .int l1), (2, .int l2), (3, .long l3), (5, .int l5), (6, .int l6)]) (hF : FL_refunds_229 k17 l1 l2 l3 l5 l6 s0 s1 M = some (r, M')) : Wq E H locs 229 ls [.int s0, .int s1] := by
  unfold FL_refunds_229 at hF
  refine q_icmp_eq (tgt := 234) Cx dL_refunds_229 (by decide) (fun c61 => ?_) (fun c61 => ?_)
  · have hF := (if_pos c61).symm.trans hF
    obtain ⟨x62, e63, hF⟩ := lt1_some hF
    refine q_iinc (k := 5) (v := x62) (lv' := [(6, .int x62), (0, .ref (vA V 11 0)), (1, .int l1), (2, .int l2), (3, .long l3), (5, .int l5)]) Cx dL_refunds_234 hl rfl e63.symm (by decide) rfl (fun ls hl => ?_)
    refine q_goto (tgt := 17) Cx dL_refunds_237 (by decide) ?_
    exact hk17 hW (lv_sub hl [1, 2, 3, 4, 5, 0] rfl) hF
  · have hF := (if_neg c61).symm.trans hF
    refine q_iconst (v := (0 : Int32)) Cx dL_refunds_232 (by decide) ?_
    obtain ⟨rfl, rfl⟩ := Prod.mk.inj (Option.some.inj hF)
    exact hret _ _ _ _ dL_refunds_233 (by rfl) hW
def FL_refunds_186 (k17 : Int32 → Int32 → Int64 → Int32 → Int32 → Mem → Option (Int32 × Mem)) (l1 : Int32) (l2 : Int32) (l3 : Int64) (l5 : Int32) (l6 : Int32) (l8 : Int32) (l10 : Int32) (l11 : Int32) (l12 : Int32) (l13 : Int32) (l15 : Int32) (l17 : Int32) (s0 : Int32) (s1 : Int32) (M : Mem) : Option (Int32 × Mem) :=
  if s1 = s0 then
    if l17 = 0 then
      lt1 (l6 + (1 : Int32)) fun x53 =>
      k17 l1 l2 l3 l5 x53 M
    else
      c1 (FX5_money M l8) fun r55 =>
      if r55 = (l13 - l12) then
        c1 (FX5_count M (1 : Int32)) fun r58 =>
        if l10 = l11 then
          FL_refunds_229 k17 l1 l2 l3 l5 l6 (l15 - (1 : Int32)) r58 M
        else
          FL_refunds_229 k17 l1 l2 l3 l5 l6 l15 r58 M
      else
        some ((0 : Int32), M)
  else
    some ((0 : Int32), M)
set_option maxRecDepth 100000 in
set_option maxHeartbeats 4000000 in
theorem wL_refunds_186 {E : WE} {V : VT} {A : Nat → Prop} {H0 : Heap} (Cx : CX E RL cL_refunds 18 8 205) {r : Int32} {M' : Mem} (hret : RetI E V A H0 cL_refunds .boolean r M') {k17 : Int32 → Int32 → Int64 → Int32 → Int32 → Mem → Option (Int32 × Mem)} (hk17 : ∀ {H : Heap} {locs : List Loc} {ls : Array Slot} {M : Mem} {l1 : Int32} {l2 : Int32} {l3 : Int64} {l5 : Int32} {l6 : Int32}, Wd V A H0 M (eS E) H locs → lv_has ls 18 [(0, .ref (vA V 11 0)), (1, .int l1), (2, .int l2), (3, .long l3), (5, .int l5), (6, .int l6)] → k17 l1 l2 l3 l5 l6 M = some (r, M') → Wq E H locs 17 ls []) {H : Heap} {locs : List Loc} {ls : Array Slot} {l1 : Int32} {l2 : Int32} {l3 : Int64} {l5 : Int32} {l6 : Int32} {l8 : Int32} {l10 : Int32} {l11 : Int32} {l12 : Int32} {l13 : Int32} {l15 : Int32} {l17 : Int32} {s0 : Int32} {s1 : Int32} {M : Mem} (hW : Wd V A H0 M (eS E) H locs) (hl : lv_has ls 18 [(0, .ref (vA V 11 0)), (1, .int l1), (2, .int l2), (3, .long l3), (5, .int l5), (6, .int l6), (8, .int l8), (10, .int l10), (11, .int l11), (12, .int l12), (13, .int l13), (15, .int l15), (17, .int l17)]) (hF : FL_refunds_186 k17 l1 l2 l3 l5 l6 l8 l10 l11 l12 l13 l15 l17 s0 s1 M = some (r, M')) : Wq E H locs 186 ls [.int s0, .int s1] := by
  unfold FL_refunds_186 at hF
  refine q_icmp_ne (tgt := 232) Cx dL_refunds_186 (by decide) (fun c51 => ?_) (fun c51 => ?_)
  · have hF := (if_neg c51).symm.trans hF
    refine q_iconst (v := (0 : Int32)) Cx dL_refunds_232 (by decide) ?_
    obtain ⟨rfl, rfl⟩ := Prod.mk.inj (Option.some.inj hF)
    exact hret _ _ _ _ dL_refunds_233 (by rfl) hW
  · have hF := (if_pos c51).symm.trans hF
    refine q_iload Cx dL_refunds_189 (lv_at hl 12 rfl) ?_
    refine q_if_eq (tgt := 234) Cx dL_refunds_191 (by decide) (fun c52 => ?_) (fun c52 => ?_)
    · have hF := (if_pos c52).symm.trans hF
      obtain ⟨x53, e54, hF⟩ := lt1_some hF
      refine q_iinc (k := 5) (v := x53) (lv' := [(6, .int x53), (0, .ref (vA V 11 0)), (1, .int l1), (2, .int l2), (3, .long l3), (5, .int l5), (8, .int l8), (10, .int l10), (11, .int l11), (12, .int l12), (13, .int l13), (15, .int l15), (17, .int l17)]) Cx dL_refunds_234 hl rfl e54.symm (by decide) rfl (fun ls hl => ?_)
      refine q_goto (tgt := 17) Cx dL_refunds_237 (by decide) ?_
      exact hk17 hW (lv_sub hl [1, 2, 3, 4, 5, 0] rfl) hF
    · have hF := (if_neg c52).symm.trans hF
      refine q_aload_n Cx dL_refunds_194 rfl (lv_at hl 0 rfl) ?_
      refine q_iload Cx dL_refunds_195 (lv_at hl 6 rfl) ?_
      obtain ⟨r55, e56, hF⟩ := c1_some hF
      refine q_callI (as := [.int l8]) (rest := []) Cx (kX5_money e56) okX5_money ovX5_money wd_544 ⟨rfl, rfl, by decide, by decide⟩ hW oX ic5 rfl hl.1 (Nat.le_of_ble_eq_true rfl) rfl dL_refunds_197 (fun H locs hW => ?_)
      refine q_iload Cx dL_refunds_200 (lv_at hl 10 rfl) ?_
      refine q_iload Cx dL_refunds_202 (lv_at hl 9 rfl) ?_
      refine q_isub Cx dL_refunds_204 ?_
      refine q_icmp_ne (tgt := 232) Cx dL_refunds_205 (by decide) (fun c57 => ?_) (fun c57 => ?_)
      · have hF := (if_neg c57).symm.trans hF
        refine q_iconst (v := (0 : Int32)) Cx dL_refunds_232 (by decide) ?_
        obtain ⟨rfl, rfl⟩ := Prod.mk.inj (Option.some.inj hF)
        exact hret _ _ _ _ dL_refunds_233 (by rfl) hW
      · have hF := (if_pos c57).symm.trans hF
        refine q_aload_n Cx dL_refunds_208 rfl (lv_at hl 0 rfl) ?_
        refine q_iconst (v := (1 : Int32)) Cx dL_refunds_209 (by decide) ?_
        obtain ⟨r58, e59, hF⟩ := c1_some hF
        refine q_callI (as := [.int (1 : Int32)]) (rest := []) Cx (kX5_count e59) okX5_count ovX5_count wd_417 ⟨rfl, rfl, by decide, by decide⟩ hW oX ic5 rfl hl.1 (Nat.le_of_ble_eq_true rfl) rfl dL_refunds_210 (fun H locs hW => ?_)
        refine q_iload Cx dL_refunds_213 (lv_at hl 7 rfl) ?_
        refine q_iload Cx dL_refunds_215 (lv_at hl 8 rfl) ?_
        refine q_icmp_ne (tgt := 227) Cx dL_refunds_217 (by decide) (fun c60 => ?_) (fun c60 => ?_)
        · have hF := (if_neg c60).symm.trans hF
          refine q_iload Cx dL_refunds_227 (lv_at hl 11 rfl) ?_
          exact wL_refunds_229 Cx hret hk17 hW (lv_sub hl [0, 1, 2, 3, 4, 5] rfl) hF
        · have hF := (if_pos c60).symm.trans hF
          refine q_iload Cx dL_refunds_220 (lv_at hl 11 rfl) ?_
          refine q_iconst (v := (1 : Int32)) Cx dL_refunds_222 (by decide) ?_
          refine q_isub Cx dL_refunds_223 ?_
          refine q_goto (tgt := 229) Cx dL_refunds_224 (by decide) ?_
          exact wL_refunds_229 Cx hret hk17 hW (lv_sub hl [0, 1, 2, 3, 4, 5] rfl) hF
def FL_refunds_167 (k17 : Int32 → Int32 → Int64 → Int32 → Int32 → Mem → Option (Int32 × Mem)) (l1 : Int32) (l2 : Int32) (l3 : Int64) (l5 : Int32) (l6 : Int32) (l8 : Int32) (l10 : Int32) (l11 : Int32) (l12 : Int32) (l13 : Int32) (l15 : Int32) (l16 : Int32) (s0 : Int32) (M : Mem) : Option (Int32 × Mem) :=
  if s0 = 0 then
    FL_refunds_186 k17 l1 l2 l3 l5 l6 l8 l10 l11 l12 l13 l15 s0 (-5 : Int32) l16 M
  else
    FL_refunds_186 k17 l1 l2 l3 l5 l6 l8 l10 l11 l12 l13 l15 s0 (l10 - l11) l16 M
set_option maxRecDepth 100000 in
set_option maxHeartbeats 4000000 in
theorem wL_refunds_167 {E : WE} {V : VT} {A : Nat → Prop} {H0 : Heap} (Cx : CX E RL cL_refunds 18 8 205) {r : Int32} {M' : Mem} (hret : RetI E V A H0 cL_refunds .boolean r M') {k17 : Int32 → Int32 → Int64 → Int32 → Int32 → Mem → Option (Int32 × Mem)} (hk17 : ∀ {H : Heap} {locs : List Loc} {ls : Array Slot} {M : Mem} {l1 : Int32} {l2 : Int32} {l3 : Int64} {l5 : Int32} {l6 : Int32}, Wd V A H0 M (eS E) H locs → lv_has ls 18 [(0, .ref (vA V 11 0)), (1, .int l1), (2, .int l2), (3, .long l3), (5, .int l5), (6, .int l6)] → k17 l1 l2 l3 l5 l6 M = some (r, M') → Wq E H locs 17 ls []) {H : Heap} {locs : List Loc} {ls : Array Slot} {l1 : Int32} {l2 : Int32} {l3 : Int64} {l5 : Int32} {l6 : Int32} {l8 : Int32} {l10 : Int32} {l11 : Int32} {l12 : Int32} {l13 : Int32} {l15 : Int32} {l16 : Int32} {s0 : Int32} {M : Mem} (hW : Wd V A H0 M (eS E) H locs) (hl : lv_has ls 18 [(0, .ref (vA V 11 0)), (1, .int l1), (2, .int l2), (3, .long l3), (5, .int l5), (6, .int l6), (8, .int l8), (10, .int l10), (11, .int l11), (12, .int l12), (13, .int l13), (15, .int l15), (16, .int l16)]) (hF : FL_refunds_167 k17 l1 l2 l3 l5 l6 l8 l10 l11 l12 l13 l15 l16 s0 M = some (r, M')) : Wq E H locs 167 ls [.int s0] := by
  unfold FL_refunds_167 at hF
  refine q_istore (lv' := [(17, .int s0), (0, .ref (vA V 11 0)), (1, .int l1), (2, .int l2), (3, .long l3), (5, .int l5), (6, .int l6), (8, .int l8), (10, .int l10), (11, .int l11), (12, .int l12), (13, .int l13), (15, .int l15), (16, .int l16)]) Cx dL_refunds_167 hl (by decide) rfl (fun ls hl => ?_)
  refine q_iload Cx dL_refunds_169 (lv_at hl 13 rfl) ?_
  refine q_iload Cx dL_refunds_171 (lv_at hl 0 rfl) ?_
  refine q_if_eq (tgt := 184) Cx dL_refunds_173 (by decide) (fun c50 => ?_) (fun c50 => ?_)
  · have hF := (if_pos c50).symm.trans hF
    refine q_bipush (v := (-5 : Int32)) Cx dL_refunds_184 (by decide) ?_
    exact wL_refunds_186 Cx hret hk17 hW (lv_sub hl [1, 2, 3, 4, 5, 6, 7, 8, 9, 10, 11, 12, 0] rfl) hF
  · have hF := (if_neg c50).symm.trans hF
    refine q_iload Cx dL_refunds_176 (lv_at hl 8 rfl) ?_
    refine q_iload Cx dL_refunds_178 (lv_at hl 9 rfl) ?_
    refine q_isub Cx dL_refunds_180 ?_
    refine q_goto (tgt := 186) Cx dL_refunds_181 (by decide) ?_
    exact wL_refunds_186 Cx hret hk17 hW (lv_sub hl [1, 2, 3, 4, 5, 6, 7, 8, 9, 10, 11, 12, 0] rfl) hF
def FL_refunds_166 (k17 : Int32 → Int32 → Int64 → Int32 → Int32 → Mem → Option (Int32 × Mem)) (l1 : Int32) (l2 : Int32) (l3 : Int64) (l5 : Int32) (l6 : Int32) (l8 : Int32) (l10 : Int32) (l11 : Int32) (l12 : Int32) (l13 : Int32) (l15 : Int32) (l16 : Int32) (M : Mem) : Option (Int32 × Mem) :=
  FL_refunds_167 k17 l1 l2 l3 l5 l6 l8 l10 l11 l12 l13 l15 l16 (0 : Int32) M
set_option maxRecDepth 100000 in
set_option maxHeartbeats 4000000 in
theorem wL_refunds_166 {E : WE} {V : VT} {A : Nat → Prop} {H0 : Heap} (Cx : CX E RL cL_refunds 18 8 205) {r : Int32} {M' : Mem} (hret : RetI E V A H0 cL_refunds .boolean r M') {k17 : Int32 → Int32 → Int64 → Int32 → Int32 → Mem → Option (Int32 × Mem)} (hk17 : ∀ {H : Heap} {locs : List Loc} {ls : Array Slot} {M : Mem} {l1 : Int32} {l2 : Int32} {l3 : Int64} {l5 : Int32} {l6 : Int32}, Wd V A H0 M (eS E) H locs → lv_has ls 18 [(0, .ref (vA V 11 0)), (1, .int l1), (2, .int l2), (3, .long l3), (5, .int l5), (6, .int l6)] → k17 l1 l2 l3 l5 l6 M = some (r, M') → Wq E H locs 17 ls []) {H : Heap} {locs : List Loc} {ls : Array Slot} {l1 : Int32} {l2 : Int32} {l3 : Int64} {l5 : Int32} {l6 : Int32} {l8 : Int32} {l10 : Int32} {l11 : Int32} {l12 : Int32} {l13 : Int32} {l15 : Int32} {l16 : Int32} {M : Mem} (hW : Wd V A H0 M (eS E) H locs) (hl : lv_has ls 18 [(0, .ref (vA V 11 0)), (1, .int l1), (2, .int l2), (3, .long l3), (5, .int l5), (6, .int l6), (8, .int l8), (10, .int l10), (11, .int l11), (12, .int l12), (13, .int l13), (15, .int l15), (16, .int l16)]) (hF : FL_refunds_166 k17 l1 l2 l3 l5 l6 l8 l10 l11 l12 l13 l15 l16 M = some (r, M')) : Wq E H locs 166 ls [] := by
  unfold FL_refunds_166 at hF
  refine q_iconst (v := (0 : Int32)) Cx dL_refunds_166 (by decide) ?_
  exact wL_refunds_167 Cx hret hk17 hW (lv_sub hl [0, 1, 2, 3, 4, 5, 6, 7, 8, 9, 10, 11, 12] rfl) hF
def FL_refunds_17s (k17 : Int32 → Int32 → Int64 → Int32 → Int32 → Mem → Option (Int32 × Mem)) (l1 : Int32) (l2 : Int32) (l3 : Int64) (l5 : Int32) (l6 : Int32) (M : Mem) : Option (Int32 × Mem) :=
  if (4 : Int32) ≤ l6 then
    FL_refunds_240 l1 l3 l5 M
  else
    c1 (FX5_count M (1 : Int32)) fun r16 =>
    if r16 ≤ 0 then
      FL_refunds_240 l1 l3 l5 M
    else
      c1 (FX5_count M (1 : Int32)) fun r19 =>
      c1 (FL_low (l2 >>> (((4 : Int32) * l6) &&& 31)) r19) fun r21 =>
      c1 (FX5_ofContract M r21 (0 : Int32)) fun r23 =>
      c1 (FX5_ofContract M r21 (1 : Int32)) fun r25 =>
      c1 (FX5_ofContract M r21 (2 : Int32)) fun r27 =>
      c1 (FL_low (l2 >>> (((3 : Int32) + ((4 : Int32) * l6)) &&& 31)) r27) fun r29 =>
      lt1 ((1 : Int32) + r29) fun x31 =>
      c1 (FX5_ofContract M r21 (3 : Int32)) fun r33 =>
      c1 (FX5_count M (10 : Int32)) fun r35 =>
      lt1 (((x31 * r33) * r35) / (100 : Int32)) fun x37 =>
      c1 (FX5_money M r23) fun r39 =>
      c2 (FX5_ofTask M r25 (7 : Int32)) fun r41 M43 =>
      c1 (FX5_count M43 (1 : Int32)) fun r44 =>
      c2 (FX5_refund M43 r21 x31) fun r46 M48 =>
      if r41 < x31 then
        FL_refunds_166 k17 l1 l2 l3 l5 l6 r23 r27 x31 x37 r39 r44 r46 M48
      else
        if r39 < x37 then
          FL_refunds_166 k17 l1 l2 l3 l5 l6 r23 r27 x31 x37 r39 r44 r46 M48
        else
          FL_refunds_167 k17 l1 l2 l3 l5 l6 r23 r27 x31 x37 r39 r44 r46 (1 : Int32) M48
set_option maxRecDepth 100000 in
set_option maxHeartbeats 4000000 in
theorem wL_refunds_17s {E : WE} {V : VT} {A : Nat → Prop} {H0 : Heap} (Cx : CX E RL cL_refunds 18 8 205) {r : Int32} {M' : Mem} (hret : RetI E V A H0 cL_refunds .boolean r M') {k17 : Int32 → Int32 → Int64 → Int32 → Int32 → Mem → Option (Int32 × Mem)} (hk17 : ∀ {H : Heap} {locs : List Loc} {ls : Array Slot} {M : Mem} {l1 : Int32} {l2 : Int32} {l3 : Int64} {l5 : Int32} {l6 : Int32}, Wd V A H0 M (eS E) H locs → lv_has ls 18 [(0, .ref (vA V 11 0)), (1, .int l1), (2, .int l2), (3, .long l3), (5, .int l5), (6, .int l6)] → k17 l1 l2 l3 l5 l6 M = some (r, M') → Wq E H locs 17 ls []) {H : Heap} {locs : List Loc} {ls : Array Slot} {l1 : Int32} {l2 : Int32} {l3 : Int64} {l5 : Int32} {l6 : Int32} {M : Mem} (hW : Wd V A H0 M (eS E) H locs) (hl : lv_has ls 18 [(0, .ref (vA V 11 0)), (1, .int l1), (2, .int l2), (3, .long l3), (5, .int l5), (6, .int l6)]) (hF : FL_refunds_17s k17 l1 l2 l3 l5 l6 M = some (r, M')) : Wq E H locs 17 ls [] := by
  unfold FL_refunds_17s at hF
  refine q_iload Cx dL_refunds_17 (lv_at hl 5 rfl) ?_
  refine q_iconst (v := (4 : Int32)) Cx dL_refunds_19 (by decide) ?_
  refine q_icmp_ge (tgt := 240) Cx dL_refunds_20 (by decide) (fun c5 => ?_) (fun c5 => ?_)
  · have hF := (if_pos c5).symm.trans hF
    exact wL_refunds_240 Cx hret hW (lv_sub hl [0, 1, 3, 4] rfl) hF
  · have hF := (if_neg c5).symm.trans hF
    refine q_aload_n Cx dL_refunds_23 rfl (lv_at hl 0 rfl) ?_
    refine q_iconst (v := (1 : Int32)) Cx dL_refunds_24 (by decide) ?_
    obtain ⟨r16, e17, hF⟩ := c1_some hF
    refine q_callI (as := [.int (1 : Int32)]) (rest := []) Cx (kX5_count e17) okX5_count ovX5_count wd_417 ⟨rfl, rfl, by decide, by decide⟩ hW oX ic5 rfl hl.1 (Nat.le_of_ble_eq_true rfl) rfl dL_refunds_25 (fun H locs hW => ?_)
    refine q_if_le (tgt := 240) Cx dL_refunds_28 (by decide) (fun c18 => ?_) (fun c18 => ?_)
    · have hF := (if_pos c18).symm.trans hF
      exact wL_refunds_240 Cx hret hW (lv_sub hl [0, 1, 3, 4] rfl) hF
    · have hF := (if_neg c18).symm.trans hF
      refine q_iload_n Cx dL_refunds_31 rfl (lv_at hl 2 rfl) ?_
      refine q_iconst (v := (4 : Int32)) Cx dL_refunds_32 (by decide) ?_
      refine q_iload Cx dL_refunds_33 (lv_at hl 5 rfl) ?_
      refine q_imul Cx dL_refunds_35 ?_
      refine q_ishr Cx dL_refunds_36 ?_
      refine q_aload_n Cx dL_refunds_37 rfl (lv_at hl 0 rfl) ?_
      refine q_iconst (v := (1 : Int32)) Cx dL_refunds_38 (by decide) ?_
      obtain ⟨r19, e20, hF⟩ := c1_some hF
      refine q_callI (as := [.int (1 : Int32)]) (rest := [.int (l2 >>> (((4 : Int32) * l6) &&& 31))]) Cx (kX5_count e20) okX5_count ovX5_count wd_417 ⟨rfl, rfl, by decide, by decide⟩ hW oX ic5 rfl hl.1 (Nat.le_of_ble_eq_true rfl) rfl dL_refunds_39 (fun H locs hW => ?_)
      obtain ⟨r21, e22, hF⟩ := c1_some hF
      refine q_callSI (as := [.int (l2 >>> (((4 : Int32) * l6) &&& 31)), .int r19]) (rest := []) Cx (kL_low e22) okL_low osL_low rfl wd_369 ⟨rfl, rfl, by decide, by decide⟩ hW rfl hl.1 (Nat.le_of_ble_eq_true rfl) rfl dL_refunds_42 (fun H locs hW => ?_)
      refine q_istore (lv' := [(7, .int r21), (0, .ref (vA V 11 0)), (1, .int l1), (2, .int l2), (3, .long l3), (5, .int l5), (6, .int l6)]) Cx dL_refunds_45 hl (by decide) rfl (fun ls hl => ?_)
      refine q_aload_n Cx dL_refunds_47 rfl (lv_at hl 1 rfl) ?_
      refine q_iload Cx dL_refunds_48 (lv_at hl 0 rfl) ?_
      refine q_iconst (v := (0 : Int32)) Cx dL_refunds_50 (by decide) ?_
      obtain ⟨r23, e24, hF⟩ := c1_some hF
      refine q_callI (as := [.int r21, .int (0 : Int32)]) (rest := []) Cx (kX5_ofContract e24) okX5_ofContract ovX5_ofContract wd_552 ⟨rfl, rfl, by decide, by decide⟩ hW oX ic5 rfl hl.1 (Nat.le_of_ble_eq_true rfl) rfl dL_refunds_51 (fun H locs hW => ?_)
      refine q_istore (lv' := [(8, .int r23), (7, .int r21), (0, .ref (vA V 11 0)), (1, .int l1), (2, .int l2), (3, .long l3), (5, .int l5), (6, .int l6)]) Cx dL_refunds_54 hl (by decide) rfl (fun ls hl => ?_)
      refine q_aload_n Cx dL_refunds_56 rfl (lv_at hl 2 rfl) ?_
      refine q_iload Cx dL_refunds_57 (lv_at hl 1 rfl) ?_
      refine q_iconst (v := (1 : Int32)) Cx dL_refunds_59 (by decide) ?_
      obtain ⟨r25, e26, hF⟩ := c1_some hF
      refine q_callI (as := [.int r21, .int (1 : Int32)]) (rest := []) Cx (kX5_ofContract e26) okX5_ofContract ovX5_ofContract wd_552 ⟨rfl, rfl, by decide, by decide⟩ hW oX ic5 rfl hl.1 (Nat.le_of_ble_eq_true rfl) rfl dL_refunds_60 (fun H locs hW => ?_)
      refine q_istore (lv' := [(9, .int r25), (8, .int r23), (7, .int r21), (0, .ref (vA V 11 0)), (1, .int l1), (2, .int l2), (3, .long l3), (5, .int l5), (6, .int l6)]) Cx dL_refunds_63 hl (by decide) rfl (fun ls hl => ?_)
      refine q_aload_n Cx dL_refunds_65 rfl (lv_at hl 3 rfl) ?_
      refine q_iload Cx dL_refunds_66 (lv_at hl 2 rfl) ?_
      refine q_iconst (v := (2 : Int32)) Cx dL_refunds_68 (by decide) ?_
      obtain ⟨r27, e28, hF⟩ := c1_some hF
      refine q_callI (as := [.int r21, .int (2 : Int32)]) (rest := []) Cx (kX5_ofContract e28) okX5_ofContract ovX5_ofContract wd_552 ⟨rfl, rfl, by decide, by decide⟩ hW oX ic5 rfl hl.1 (Nat.le_of_ble_eq_true rfl) rfl dL_refunds_69 (fun H locs hW => ?_)
      refine q_istore (lv' := [(10, .int r27), (9, .int r25), (8, .int r23), (7, .int r21), (0, .ref (vA V 11 0)), (1, .int l1), (2, .int l2), (3, .long l3), (5, .int l5), (6, .int l6)]) Cx dL_refunds_72 hl (by decide) rfl (fun ls hl => ?_)
      refine q_iconst (v := (1 : Int32)) Cx dL_refunds_74 (by decide) ?_
      refine q_iload_n Cx dL_refunds_75 rfl (lv_at hl 6 rfl) ?_
      refine q_iconst (v := (3 : Int32)) Cx dL_refunds_76 (by decide) ?_
      refine q_iconst (v := (4 : Int32)) Cx dL_refunds_77 (by decide) ?_
      refine q_iload Cx dL_refunds_78 (lv_at hl 9 rfl) ?_
      refine q_imul Cx dL_refunds_80 ?_
      refine q_iadd Cx dL_refunds_81 ?_
      refine q_ishr Cx dL_refunds_82 ?_
      refine q_iload Cx dL_refunds_83 (lv_at hl 0 rfl) ?_
      obtain ⟨r29, e30, hF⟩ := c1_some hF
      refine q_callSI (as := [.int (l2 >>> (((3 : Int32) + ((4 : Int32) * l6)) &&& 31)), .int r27]) (rest := [.int (1 : Int32)]) Cx (kL_low e30) okL_low osL_low rfl wd_369 ⟨rfl, rfl, by decide, by decide⟩ hW rfl hl.1 (Nat.le_of_ble_eq_true rfl) rfl dL_refunds_85 (fun H locs hW => ?_)
      refine q_iadd Cx dL_refunds_88 ?_
      obtain ⟨x31, e32, hF⟩ := lt1_some hF
      refine q_topi e32 ?_
      refine q_istore (lv' := [(11, .int x31), (10, .int r27), (9, .int r25), (8, .int r23), (7, .int r21), (0, .ref (vA V 11 0)), (1, .int l1), (2, .int l2), (3, .long l3), (5, .int l5), (6, .int l6)]) Cx dL_refunds_89 hl (by decide) rfl (fun ls hl => ?_)
      refine q_iload Cx dL_refunds_91 (lv_at hl 0 rfl) ?_
      refine q_aload_n Cx dL_refunds_93 rfl (lv_at hl 5 rfl) ?_
      refine q_iload Cx dL_refunds_94 (lv_at hl 4 rfl) ?_
      refine q_iconst (v := (3 : Int32)) Cx dL_refunds_96 (by decide) ?_
      obtain ⟨r33, e34, hF⟩ := c1_some hF
      refine q_callI (as := [.int r21, .int (3 : Int32)]) (rest := [.int x31]) Cx (kX5_ofContract e34) okX5_ofContract ovX5_ofContract wd_552 ⟨rfl, rfl, by decide, by decide⟩ hW oX ic5 rfl hl.1 (Nat.le_of_ble_eq_true rfl) rfl dL_refunds_97 (fun H locs hW => ?_)
      refine q_imul Cx dL_refunds_100 ?_
      refine q_aload_n Cx dL_refunds_101 rfl (lv_at hl 5 rfl) ?_
      refine q_bipush (v := (10 : Int32)) Cx dL_refunds_102 (by decide) ?_
      obtain ⟨r35, e36, hF⟩ := c1_some hF
      refine q_callI (as := [.int (10 : Int32)]) (rest := [.int (x31 * r33)]) Cx (kX5_count e36) okX5_count ovX5_count wd_417 ⟨rfl, rfl, by decide, by decide⟩ hW oX ic5 rfl hl.1 (Nat.le_of_ble_eq_true rfl) rfl dL_refunds_104 (fun H locs hW => ?_)
      refine q_imul Cx dL_refunds_107 ?_
      refine q_bipush (v := (100 : Int32)) Cx dL_refunds_108 (by decide) ?_
      refine q_idiv Cx dL_refunds_110 (by decide) ?_
      obtain ⟨x37, e38, hF⟩ := lt1_some hF
      refine q_topi e38 ?_
      refine q_istore (lv' := [(12, .int x37), (11, .int x31), (10, .int r27), (9, .int r25), (8, .int r23), (7, .int r21), (0, .ref (vA V 11 0)), (1, .int l1), (2, .int l2), (3, .long l3), (5, .int l5), (6, .int l6)]) Cx dL_refunds_111 hl (by decide) rfl (fun ls hl => ?_)
      refine q_aload_n Cx dL_refunds_113 rfl (lv_at hl 6 rfl) ?_
      refine q_iload Cx dL_refunds_114 (lv_at hl 4 rfl) ?_
      obtain ⟨r39, e40, hF⟩ := c1_some hF
      refine q_callI (as := [.int r23]) (rest := []) Cx (kX5_money e40) okX5_money ovX5_money wd_544 ⟨rfl, rfl, by decide, by decide⟩ hW oX ic5 rfl hl.1 (Nat.le_of_ble_eq_true rfl) rfl dL_refunds_116 (fun H locs hW => ?_)
      refine q_istore (lv' := [(13, .int r39), (12, .int x37), (11, .int x31), (10, .int r27), (9, .int r25), (8, .int r23), (7, .int r21), (0, .ref (vA V 11 0)), (1, .int l1), (2, .int l2), (3, .long l3), (5, .int l5), (6, .int l6)]) Cx dL_refunds_119 hl (by decide) rfl (fun ls hl => ?_)
      refine q_aload_n Cx dL_refunds_121 rfl (lv_at hl 7 rfl) ?_
      refine q_iload Cx dL_refunds_122 (lv_at hl 4 rfl) ?_
      refine q_bipush (v := (7 : Int32)) Cx dL_refunds_124 (by decide) ?_
      obtain ⟨r41, M43, e42, hF⟩ := c2_some hF
      refine q_callI (as := [.int r25, .int (7 : Int32)]) (rest := []) Cx (kX5_ofTask e42) okX5_ofTask ovX5_ofTask wd_273 ⟨rfl, rfl, by decide, by decide⟩ hW oX ic5 rfl hl.1 (Nat.le_of_ble_eq_true rfl) rfl dL_refunds_126 (fun H locs hW => ?_)
      refine q_istore (lv' := [(14, .int r41), (13, .int r39), (12, .int x37), (11, .int x31), (10, .int r27), (9, .int r25), (8, .int r23), (7, .int r21), (0, .ref (vA V 11 0)), (1, .int l1), (2, .int l2), (3, .long l3), (5, .int l5), (6, .int l6)]) Cx dL_refunds_129 hl (by decide) rfl (fun ls hl => ?_)
      refine q_aload_n Cx dL_refunds_131 rfl (lv_at hl 8 rfl) ?_
      refine q_iconst (v := (1 : Int32)) Cx dL_refunds_132 (by decide) ?_
      obtain ⟨r44, e45, hF⟩ := c1_some hF
      refine q_callI (as := [.int (1 : Int32)]) (rest := []) Cx (kX5_count e45) okX5_count ovX5_count wd_417 ⟨rfl, rfl, by decide, by decide⟩ hW oX ic5 rfl hl.1 (Nat.le_of_ble_eq_true rfl) rfl dL_refunds_133 (fun H locs hW => ?_)
      refine q_istore (lv' := [(15, .int r44), (14, .int r41), (13, .int r39), (12, .int x37), (11, .int x31), (10, .int r27), (9, .int r25), (8, .int r23), (7, .int r21), (0, .ref (vA V 11 0)), (1, .int l1), (2, .int l2), (3, .long l3), (5, .int l5), (6, .int l6)]) Cx dL_refunds_136 hl (by decide) rfl (fun ls hl => ?_)
      refine q_aload_n Cx dL_refunds_138 rfl (lv_at hl 9 rfl) ?_
      refine q_iload Cx dL_refunds_139 (lv_at hl 8 rfl) ?_
      refine q_iload Cx dL_refunds_141 (lv_at hl 4 rfl) ?_
      obtain ⟨r46, M48, e47, hF⟩ := c2_some hF
      refine q_callI (as := [.int r21, .int x31]) (rest := []) Cx (kX5_refund e47) okX5_refund ovX5_refund wd_572 ⟨rfl, rfl, by decide, by decide⟩ hW oX ic5 rfl hl.1 (Nat.le_of_ble_eq_true rfl) rfl dL_refunds_143 (fun H locs hW => ?_)
      refine q_istore (lv' := [(16, .int r46), (15, .int r44), (14, .int r41), (13, .int r39), (12, .int x37), (11, .int x31), (10, .int r27), (9, .int r25), (8, .int r23), (7, .int r21), (0, .ref (vA V 11 0)), (1, .int l1), (2, .int l2), (3, .long l3), (5, .int l5), (6, .int l6)]) Cx dL_refunds_146 hl (by decide) rfl (fun ls hl => ?_)
      refine q_iload Cx dL_refunds_148 (lv_at hl 2 rfl) ?_
      refine q_iload Cx dL_refunds_150 (lv_at hl 5 rfl) ?_
      refine q_icmp_lt (tgt := 166) Cx dL_refunds_152 (by decide) (fun c49 => ?_) (fun c49 => ?_)
      · have hF := (if_pos c49).symm.trans hF
        exact wL_refunds_166 Cx hret hk17 hW (lv_sub hl [10, 11, 12, 13, 14, 15, 8, 6, 5, 4, 3, 1, 0] rfl) hF
      · have hF := (if_neg c49).symm.trans hF
        refine q_iload Cx dL_refunds_155 (lv_at hl 3 rfl) ?_
        refine q_iload Cx dL_refunds_157 (lv_at hl 4 rfl) ?_
        refine q_icmp_lt (tgt := 166) Cx dL_refunds_159 (by decide) (fun c64 => ?_) (fun c64 => ?_)
        · have hF := (if_pos c64).symm.trans hF
          exact wL_refunds_166 Cx hret hk17 hW (lv_sub hl [10, 11, 12, 13, 14, 15, 8, 6, 5, 4, 3, 1, 0] rfl) hF
        · have hF := (if_neg c64).symm.trans hF
          refine q_iconst (v := (1 : Int32)) Cx dL_refunds_162 (by decide) ?_
          refine q_goto (tgt := 167) Cx dL_refunds_163 (by decide) ?_
          exact wL_refunds_167 Cx hret hk17 hW (lv_sub hl [10, 11, 12, 13, 14, 15, 8, 6, 5, 4, 3, 1, 0] rfl) hF
def FL_refunds_17 : Nat → Int32 → Int32 → Int64 → Int32 → Int32 → Mem → Option (Int32 × Mem)
  | 0 => fun _ _ _ _ _ _ => none
  | n + 1 => FL_refunds_17s (FL_refunds_17 n)
set_option maxRecDepth 100000 in
theorem wL_refunds_17 {E : WE} {V : VT} {A : Nat → Prop} {H0 : Heap} (Cx : CX E RL cL_refunds 18 8 205) {r : Int32} {M' : Mem} (hret : RetI E V A H0 cL_refunds .boolean r M') : ∀ (n : Nat) {H : Heap} {locs : List Loc} {ls : Array Slot} {l1 : Int32} {l2 : Int32} {l3 : Int64} {l5 : Int32} {l6 : Int32} {M : Mem}, Wd V A H0 M (eS E) H locs → lv_has ls 18 [(0, .ref (vA V 11 0)), (1, .int l1), (2, .int l2), (3, .long l3), (5, .int l5), (6, .int l6)] → FL_refunds_17 n l1 l2 l3 l5 l6 M = some (r, M') → Wq E H locs 17 ls [] := by
  intro n
  induction n with
  | zero => intro _ _ _ _ _ _ _ _ _ hW hl hF; cases hF
  | succ n ih => intro _ _ _ _ _ _ _ _ _ hW hl hF; exact wL_refunds_17s Cx hret ih hW hl hF
def FL_refunds (M : Mem) (l1 : Int32) (l2 : Int32) : Option (Int32 × Mem) :=
  c1 (FL_dues M l1) fun r1 =>
  c1 (FX5_count M (6 : Int32)) fun r3 =>
  FL_refunds_17 fu l1 l2 r1 r3 (0 : Int32) M
set_option maxRecDepth 100000 in
set_option maxHeartbeats 4000000 in
theorem wL_refunds {E : WE} {V : VT} {A : Nat → Prop} {H0 : Heap} (Cx : CX E RL cL_refunds 18 8 205) {r : Int32} {M' : Mem} (hret : RetI E V A H0 cL_refunds .boolean r M') {H : Heap} {locs : List Loc} {ls : Array Slot} {l1 : Int32} {l2 : Int32} {M : Mem} (hW : Wd V A H0 M (eS E) H locs) (hl : lv_has ls 18 [(0, .ref (vA V 11 0)), (1, .int l1), (2, .int l2)]) (hF : FL_refunds M l1 l2 = some (r, M')) : Wq E H locs 0 ls [] := by
  unfold FL_refunds at hF
  refine q_aload_n Cx dL_refunds_0 rfl (lv_at hl 0 rfl) ?_
  refine q_iload_n Cx dL_refunds_1 rfl (lv_at hl 1 rfl) ?_
  obtain ⟨r1, e2, hF⟩ := c1_some hF
  refine q_callSL (as := [.ref (vA V 11 0), .int l1]) (rest := []) Cx (kL_dues e2) okL_dues osL_dues rfl wd_477 ⟨rfl, rfl, by decide, by decide⟩ hW rfl hl.1 (Nat.le_of_ble_eq_true rfl) rfl dL_refunds_2 (fun H locs hW => ?_)
  refine q_lstore_n (lv' := [(3, .long r1), (0, .ref (vA V 11 0)), (1, .int l1), (2, .int l2)]) Cx dL_refunds_5 rfl hl (by decide) rfl (fun ls hl => ?_)
  refine q_aload_n Cx dL_refunds_6 rfl (lv_at hl 1 rfl) ?_
  refine q_bipush (v := (6 : Int32)) Cx dL_refunds_7 (by decide) ?_
  obtain ⟨r3, e4, hF⟩ := c1_some hF
  refine q_callI (as := [.int (6 : Int32)]) (rest := []) Cx (kX5_count e4) okX5_count ovX5_count wd_417 ⟨rfl, rfl, by decide, by decide⟩ hW oX ic5 rfl hl.1 (Nat.le_of_ble_eq_true rfl) rfl dL_refunds_9 (fun H locs hW => ?_)
  refine q_istore (lv' := [(5, .int r3), (3, .long r1), (0, .ref (vA V 11 0)), (1, .int l1), (2, .int l2)]) Cx dL_refunds_12 hl (by decide) rfl (fun ls hl => ?_)
  refine q_iconst (v := (0 : Int32)) Cx dL_refunds_14 (by decide) ?_
  refine q_istore (lv' := [(6, .int (0 : Int32)), (5, .int r3), (3, .long r1), (0, .ref (vA V 11 0)), (1, .int l1), (2, .int l2)]) Cx dL_refunds_15 hl (by decide) rfl (fun ls hl => ?_)
  exact wL_refunds_17 Cx hret fu hW (lv_sub hl [3, 4, 5, 2, 1, 0] rfl) hF
set_option maxRecDepth 100000 in
theorem kL_refunds {l : Launch} {V : VT} {M : Mem} {l1 : Int32} {l2 : Int32} {r : Int32} {M' : Mem} (hF : FL_refunds M l1 l2 = some (r, M')) : MetI l V yL_refunds cL_refunds 18 .boolean ({ frames := 8, cells := 0, slots := 0, locals := 205 } : Room) [.ref (vA V 11 0), .int l1, .int l2] r M M' := metI_of (by decide) (Nat.le_of_ble_eq_true rfl) (fun E H0 _ Cx hret H locs ls hW hl => wL_refunds Cx hret hW hl hF)
theorem dL_trades2_0 : decode cL_trades2 0 = .ok (.aload_n 0, 1) := by decide +kernel
theorem dL_trades2_1 : decode cL_trades2 1 = .ok (.invokevirtual 69, 3) := by decide +kernel
theorem dL_trades2_4 : decode cL_trades2 4 = .ok (.istore_n 2, 1) := by decide +kernel
theorem dL_trades2_5 : decode cL_trades2 5 = .ok (.aload_n 0, 1) := by decide +kernel
theorem dL_trades2_6 : decode cL_trades2 6 = .ok (.iconst 1, 1) := by decide +kernel
theorem dL_trades2_7 : decode cL_trades2 7 = .ok (.invokevirtual 44, 3) := by decide +kernel
theorem dL_trades2_10 : decode cL_trades2 10 = .ok (.istore_n 3, 1) := by decide +kernel
theorem dL_trades2_11 : decode cL_trades2 11 = .ok (.aload_n 0, 1) := by decide +kernel
theorem dL_trades2_12 : decode cL_trades2 12 = .ok (.invokevirtual 84, 3) := by decide +kernel
theorem dL_trades2_15 : decode cL_trades2 15 = .ok (.istore 4, 2) := by decide +kernel
theorem dL_trades2_17 : decode cL_trades2 17 = .ok (.iload 4, 2) := by decide +kernel
theorem dL_trades2_19 : decode cL_trades2 19 = .ok (.ifCond .lt 35, 3) := by decide +kernel
theorem dL_trades2_22 : decode cL_trades2 22 = .ok (.aload_n 0, 1) := by decide +kernel
theorem dL_trades2_23 : decode cL_trades2 23 = .ok (.iconst 1, 1) := by decide +kernel
theorem dL_trades2_24 : decode cL_trades2 24 = .ok (.invokevirtual 44, 3) := by decide +kernel
theorem dL_trades2_27 : decode cL_trades2 27 = .ok (.iload_n 3, 1) := by decide +kernel
theorem dL_trades2_28 : decode cL_trades2 28 = .ok (.iload 4, 2) := by decide +kernel
theorem dL_trades2_30 : decode cL_trades2 30 = .ok (.iadd, 1) := by decide +kernel
theorem dL_trades2_31 : decode cL_trades2 31 = .ok (.if_icmp .ne 23, 3) := by decide +kernel
theorem dL_trades2_34 : decode cL_trades2 34 = .ok (.aload_n 0, 1) := by decide +kernel
theorem dL_trades2_35 : decode cL_trades2 35 = .ok (.iconst 4, 1) := by decide +kernel
theorem dL_trades2_36 : decode cL_trades2 36 = .ok (.invokevirtual 44, 3) := by decide +kernel
theorem dL_trades2_39 : decode cL_trades2 39 = .ok (.iload_n 2, 1) := by decide +kernel
theorem dL_trades2_40 : decode cL_trades2 40 = .ok (.if_icmp .ne 14, 3) := by decide +kernel
theorem dL_trades2_43 : decode cL_trades2 43 = .ok (.aload_n 0, 1) := by decide +kernel
theorem dL_trades2_44 : decode cL_trades2 44 = .ok (.invokevirtual 59, 3) := by decide +kernel
theorem dL_trades2_47 : decode cL_trades2 47 = .ok (.ifCond .lt 7, 3) := by decide +kernel
theorem dL_trades2_50 : decode cL_trades2 50 = .ok (.iconst 1, 1) := by decide +kernel
theorem dL_trades2_51 : decode cL_trades2 51 = .ok (.goto 4, 3) := by decide +kernel
theorem dL_trades2_54 : decode cL_trades2 54 = .ok (.iconst 0, 1) := by decide +kernel
theorem dL_trades2_55 : decode cL_trades2 55 = .ok (.istore 5, 2) := by decide +kernel
theorem dL_trades2_57 : decode cL_trades2 57 = .ok (.iload 5, 2) := by decide +kernel
theorem dL_trades2_59 : decode cL_trades2 59 = .ok (.ifCond .eq 24, 3) := by decide +kernel
theorem dL_trades2_62 : decode cL_trades2 62 = .ok (.aload_n 0, 1) := by decide +kernel
theorem dL_trades2_63 : decode cL_trades2 63 = .ok (.iconst 1, 1) := by decide +kernel
theorem dL_trades2_64 : decode cL_trades2 64 = .ok (.invokevirtual 44, 3) := by decide +kernel
theorem dL_trades2_67 : decode cL_trades2 67 = .ok (.iload_n 3, 1) := by decide +kernel
theorem dL_trades2_68 : decode cL_trades2 68 = .ok (.if_icmp .ne 15, 3) := by decide +kernel
theorem dL_trades2_71 : decode cL_trades2 71 = .ok (.aload_n 0, 1) := by decide +kernel
theorem dL_trades2_72 : decode cL_trades2 72 = .ok (.invokevirtual 69, 3) := by decide +kernel
theorem dL_trades2_75 : decode cL_trades2 75 = .ok (.iload_n 2, 1) := by decide +kernel
theorem dL_trades2_76 : decode cL_trades2 76 = .ok (.if_icmp .ne 7, 3) := by decide +kernel
theorem dL_trades2_79 : decode cL_trades2 79 = .ok (.iconst 1, 1) := by decide +kernel
theorem dL_trades2_80 : decode cL_trades2 80 = .ok (.goto 4, 3) := by decide +kernel
theorem dL_trades2_83 : decode cL_trades2 83 = .ok (.iconst 0, 1) := by decide +kernel
theorem dL_trades2_84 : decode cL_trades2 84 = .ok (.ireturn, 1) := by decide +kernel
theorem okL_trades2 : CalOK yL_trades2 cL_trades2 6 (some .boolean) 2 := ⟨wd_15, wd_591, by decide +kernel⟩
theorem osL_trades2 : Cond.static yL_trades2 ∈ lw_gd := wd_590
def FL_trades2_55 (l2 : Int32) (l3 : Int32) (s0 : Int32) (M : Mem) : Option (Int32 × Mem) :=
  if s0 = 0 then
    some ((0 : Int32), M)
  else
    c1 (FX5_count M (1 : Int32)) fun r11 =>
    if r11 = l3 then
      c2 (FX5_lateBehind M) fun r14 M16 =>
      if r14 = l2 then
        some ((1 : Int32), M16)
      else
        some ((0 : Int32), M16)
    else
      some ((0 : Int32), M)
set_option maxRecDepth 100000 in
set_option maxHeartbeats 4000000 in
theorem wL_trades2_55 {E : WE} {V : VT} {A : Nat → Prop} {H0 : Heap} (Cx : CX E RL cL_trades2 6 6 153) {r : Int32} {M' : Mem} (hret : RetI E V A H0 cL_trades2 .boolean r M') {H : Heap} {locs : List Loc} {ls : Array Slot} {l2 : Int32} {l3 : Int32} {s0 : Int32} {M : Mem} (hW : Wd V A H0 M (eS E) H locs) (hl : lv_has ls 6 [(0, .ref (vA V 11 0)), (2, .int l2), (3, .int l3)]) (hF : FL_trades2_55 l2 l3 s0 M = some (r, M')) : Wq E H locs 55 ls [.int s0] := by
  unfold FL_trades2_55 at hF
  refine q_istore (lv' := [(5, .int s0), (0, .ref (vA V 11 0)), (2, .int l2), (3, .int l3)]) Cx dL_trades2_55 hl (by decide) rfl (fun ls hl => ?_)
  refine q_iload Cx dL_trades2_57 (lv_at hl 0 rfl) ?_
  refine q_if_eq (tgt := 83) Cx dL_trades2_59 (by decide) (fun c10 => ?_) (fun c10 => ?_)
  · have hF := (if_pos c10).symm.trans hF
    refine q_iconst (v := (0 : Int32)) Cx dL_trades2_83 (by decide) ?_
    obtain ⟨rfl, rfl⟩ := Prod.mk.inj (Option.some.inj hF)
    exact hret _ _ _ _ dL_trades2_84 (by rfl) hW
  · have hF := (if_neg c10).symm.trans hF
    refine q_aload_n Cx dL_trades2_62 rfl (lv_at hl 1 rfl) ?_
    refine q_iconst (v := (1 : Int32)) Cx dL_trades2_63 (by decide) ?_
    obtain ⟨r11, e12, hF⟩ := c1_some hF
    refine q_callI (as := [.int (1 : Int32)]) (rest := []) Cx (kX5_count e12) okX5_count ovX5_count wd_417 ⟨rfl, rfl, by decide, by decide⟩ hW oX ic5 rfl hl.1 (Nat.le_of_ble_eq_true rfl) rfl dL_trades2_64 (fun H locs hW => ?_)
    refine q_iload_n Cx dL_trades2_67 rfl (lv_at hl 3 rfl) ?_
    refine q_icmp_ne (tgt := 83) Cx dL_trades2_68 (by decide) (fun c13 => ?_) (fun c13 => ?_)
    · have hF := (if_neg c13).symm.trans hF
      refine q_iconst (v := (0 : Int32)) Cx dL_trades2_83 (by decide) ?_
      obtain ⟨rfl, rfl⟩ := Prod.mk.inj (Option.some.inj hF)
      exact hret _ _ _ _ dL_trades2_84 (by rfl) hW
    · have hF := (if_pos c13).symm.trans hF
      refine q_aload_n Cx dL_trades2_71 rfl (lv_at hl 1 rfl) ?_
      obtain ⟨r14, M16, e15, hF⟩ := c2_some hF
      refine q_callI (as := []) (rest := []) Cx (kX5_lateBehind e15) okX5_lateBehind ovX5_lateBehind wd_480 ⟨rfl, rfl, by decide, by decide⟩ hW oX ic5 rfl hl.1 (Nat.le_of_ble_eq_true rfl) rfl dL_trades2_72 (fun H locs hW => ?_)
      refine q_iload_n Cx dL_trades2_75 rfl (lv_at hl 2 rfl) ?_
      refine q_icmp_ne (tgt := 83) Cx dL_trades2_76 (by decide) (fun c17 => ?_) (fun c17 => ?_)
      · have hF := (if_neg c17).symm.trans hF
        refine q_iconst (v := (0 : Int32)) Cx dL_trades2_83 (by decide) ?_
        obtain ⟨rfl, rfl⟩ := Prod.mk.inj (Option.some.inj hF)
        exact hret _ _ _ _ dL_trades2_84 (by rfl) hW
      · have hF := (if_pos c17).symm.trans hF
        refine q_iconst (v := (1 : Int32)) Cx dL_trades2_79 (by decide) ?_
        refine q_goto (tgt := 84) Cx dL_trades2_80 (by decide) ?_
        obtain ⟨rfl, rfl⟩ := Prod.mk.inj (Option.some.inj hF)
        exact hret _ _ _ _ dL_trades2_84 (by rfl) hW
def FL_trades2_54 (l2 : Int32) (l3 : Int32) (M : Mem) : Option (Int32 × Mem) :=
  FL_trades2_55 l2 l3 (0 : Int32) M
set_option maxRecDepth 100000 in
set_option maxHeartbeats 4000000 in
theorem wL_trades2_54 {E : WE} {V : VT} {A : Nat → Prop} {H0 : Heap} (Cx : CX E RL cL_trades2 6 6 153) {r : Int32} {M' : Mem} (hret : RetI E V A H0 cL_trades2 .boolean r M') {H : Heap} {locs : List Loc} {ls : Array Slot} {l2 : Int32} {l3 : Int32} {M : Mem} (hW : Wd V A H0 M (eS E) H locs) (hl : lv_has ls 6 [(0, .ref (vA V 11 0)), (2, .int l2), (3, .int l3)]) (hF : FL_trades2_54 l2 l3 M = some (r, M')) : Wq E H locs 54 ls [] := by
  unfold FL_trades2_54 at hF
  refine q_iconst (v := (0 : Int32)) Cx dL_trades2_54 (by decide) ?_
  exact wL_trades2_55 Cx hret hW (lv_sub hl [0, 1, 2] rfl) hF
def FL_trades2 (M : Mem) (l1 : Int32) : Option (Int32 × Mem) :=
  c2 (FX5_lateBehind M) fun r1 M3 =>
  c1 (FX5_count M3 (1 : Int32)) fun r4 =>
  c2 (FX5_trade M3) fun r6 M8 =>
  if r6 < 0 then
    FL_trades2_54 r1 r4 M8
  else
    c1 (FX5_count M8 (1 : Int32)) fun r18 =>
    if r18 = (r4 + r6) then
      c1 (FX5_count M8 (4 : Int32)) fun r21 =>
      if r21 = r1 then
        c2 (FX5_undo M8) fun r24 M26 =>
        if r24 < 0 then
          FL_trades2_54 r1 r4 M26
        else
          FL_trades2_55 r1 r4 (1 : Int32) M26
      else
        FL_trades2_54 r1 r4 M8
    else
      FL_trades2_54 r1 r4 M8
set_option maxRecDepth 100000 in
set_option maxHeartbeats 4000000 in
theorem wL_trades2 {E : WE} {V : VT} {A : Nat → Prop} {H0 : Heap} (Cx : CX E RL cL_trades2 6 6 153) {r : Int32} {M' : Mem} (hret : RetI E V A H0 cL_trades2 .boolean r M') {H : Heap} {locs : List Loc} {ls : Array Slot} {l1 : Int32} {M : Mem} (hW : Wd V A H0 M (eS E) H locs) (hl : lv_has ls 6 [(0, .ref (vA V 11 0)), (1, .int l1)]) (hF : FL_trades2 M l1 = some (r, M')) : Wq E H locs 0 ls [] := by
  unfold FL_trades2 at hF
  refine q_aload_n Cx dL_trades2_0 rfl (lv_at hl 0 rfl) ?_
  obtain ⟨r1, M3, e2, hF⟩ := c2_some hF
  refine q_callI (as := []) (rest := []) Cx (kX5_lateBehind e2) okX5_lateBehind ovX5_lateBehind wd_480 ⟨rfl, rfl, by decide, by decide⟩ hW oX ic5 rfl hl.1 (Nat.le_of_ble_eq_true rfl) rfl dL_trades2_1 (fun H locs hW => ?_)
  refine q_istore_n (lv' := [(2, .int r1), (0, .ref (vA V 11 0)), (1, .int l1)]) Cx dL_trades2_4 rfl hl (by decide) rfl (fun ls hl => ?_)
  refine q_aload_n Cx dL_trades2_5 rfl (lv_at hl 1 rfl) ?_
  refine q_iconst (v := (1 : Int32)) Cx dL_trades2_6 (by decide) ?_
  obtain ⟨r4, e5, hF⟩ := c1_some hF
  refine q_callI (as := [.int (1 : Int32)]) (rest := []) Cx (kX5_count e5) okX5_count ovX5_count wd_417 ⟨rfl, rfl, by decide, by decide⟩ hW oX ic5 rfl hl.1 (Nat.le_of_ble_eq_true rfl) rfl dL_trades2_7 (fun H locs hW => ?_)
  refine q_istore_n (lv' := [(3, .int r4), (2, .int r1), (0, .ref (vA V 11 0)), (1, .int l1)]) Cx dL_trades2_10 rfl hl (by decide) rfl (fun ls hl => ?_)
  refine q_aload_n Cx dL_trades2_11 rfl (lv_at hl 2 rfl) ?_
  obtain ⟨r6, M8, e7, hF⟩ := c2_some hF
  refine q_callI (as := []) (rest := []) Cx (kX5_trade e7) okX5_trade ovX5_trade wd_548 ⟨rfl, rfl, by decide, by decide⟩ hW oX ic5 rfl hl.1 (Nat.le_of_ble_eq_true rfl) rfl dL_trades2_12 (fun H locs hW => ?_)
  refine q_istore (lv' := [(4, .int r6), (3, .int r4), (2, .int r1), (0, .ref (vA V 11 0)), (1, .int l1)]) Cx dL_trades2_15 hl (by decide) rfl (fun ls hl => ?_)
  refine q_iload Cx dL_trades2_17 (lv_at hl 0 rfl) ?_
  refine q_if_lt (tgt := 54) Cx dL_trades2_19 (by decide) (fun c9 => ?_) (fun c9 => ?_)
  · have hF := (if_pos c9).symm.trans hF
    exact wL_trades2_54 Cx hret hW (lv_sub hl [3, 2, 1] rfl) hF
  · have hF := (if_neg c9).symm.trans hF
    refine q_aload_n Cx dL_trades2_22 rfl (lv_at hl 3 rfl) ?_
    refine q_iconst (v := (1 : Int32)) Cx dL_trades2_23 (by decide) ?_
    obtain ⟨r18, e19, hF⟩ := c1_some hF
    refine q_callI (as := [.int (1 : Int32)]) (rest := []) Cx (kX5_count e19) okX5_count ovX5_count wd_417 ⟨rfl, rfl, by decide, by decide⟩ hW oX ic5 rfl hl.1 (Nat.le_of_ble_eq_true rfl) rfl dL_trades2_24 (fun H locs hW => ?_)
    refine q_iload_n Cx dL_trades2_27 rfl (lv_at hl 1 rfl) ?_
    refine q_iload Cx dL_trades2_28 (lv_at hl 0 rfl) ?_
    refine q_iadd Cx dL_trades2_30 ?_
    refine q_icmp_ne (tgt := 54) Cx dL_trades2_31 (by decide) (fun c20 => ?_) (fun c20 => ?_)
    · have hF := (if_neg c20).symm.trans hF
      exact wL_trades2_54 Cx hret hW (lv_sub hl [3, 2, 1] rfl) hF
    · have hF := (if_pos c20).symm.trans hF
      refine q_aload_n Cx dL_trades2_34 rfl (lv_at hl 3 rfl) ?_
      refine q_iconst (v := (4 : Int32)) Cx dL_trades2_35 (by decide) ?_
      obtain ⟨r21, e22, hF⟩ := c1_some hF
      refine q_callI (as := [.int (4 : Int32)]) (rest := []) Cx (kX5_count e22) okX5_count ovX5_count wd_417 ⟨rfl, rfl, by decide, by decide⟩ hW oX ic5 rfl hl.1 (Nat.le_of_ble_eq_true rfl) rfl dL_trades2_36 (fun H locs hW => ?_)
      refine q_iload_n Cx dL_trades2_39 rfl (lv_at hl 2 rfl) ?_
      refine q_icmp_ne (tgt := 54) Cx dL_trades2_40 (by decide) (fun c23 => ?_) (fun c23 => ?_)
      · have hF := (if_neg c23).symm.trans hF
        exact wL_trades2_54 Cx hret hW (lv_sub hl [3, 2, 1] rfl) hF
      · have hF := (if_pos c23).symm.trans hF
        refine q_aload_n Cx dL_trades2_43 rfl (lv_at hl 3 rfl) ?_
        obtain ⟨r24, M26, e25, hF⟩ := c2_some hF
        refine q_callI (as := []) (rest := []) Cx (kX5_undo e25) okX5_undo ovX5_undo wd_356 ⟨rfl, rfl, by decide, by decide⟩ hW oX ic5 rfl hl.1 (Nat.le_of_ble_eq_true rfl) rfl dL_trades2_44 (fun H locs hW => ?_)
        refine q_if_lt (tgt := 54) Cx dL_trades2_47 (by decide) (fun c27 => ?_) (fun c27 => ?_)
        · have hF := (if_pos c27).symm.trans hF
          exact wL_trades2_54 Cx hret hW (lv_sub hl [3, 2, 1] rfl) hF
        · have hF := (if_neg c27).symm.trans hF
          refine q_iconst (v := (1 : Int32)) Cx dL_trades2_50 (by decide) ?_
          refine q_goto (tgt := 55) Cx dL_trades2_51 (by decide) ?_
          exact wL_trades2_55 Cx hret hW (lv_sub hl [3, 2, 1] rfl) hF
set_option maxRecDepth 100000 in
theorem kL_trades2 {l : Launch} {V : VT} {M : Mem} {l1 : Int32} {r : Int32} {M' : Mem} (hF : FL_trades2 M l1 = some (r, M')) : MetI l V yL_trades2 cL_trades2 6 .boolean ({ frames := 6, cells := 0, slots := 0, locals := 153 } : Room) [.ref (vA V 11 0), .int l1] r M M' := metI_of (by decide) (Nat.le_of_ble_eq_true rfl) (fun E H0 _ Cx hret H locs ls hW hl => wL_trades2 Cx hret hW hl hF)
