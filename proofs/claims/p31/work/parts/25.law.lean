set_option maxRecDepth 100000 in
theorem wd_208 : Cond.methodLink RL 101 yX5_set ∈ lw_gd := gd_of 208 rfl rfl
set_option maxRecDepth 100000 in
theorem wd_241 : Cond.methodLink RL 121 yX5_duration ∈ lw_gd := gd_of 241 rfl rfl
set_option maxRecDepth 100000 in
theorem wd_331 : Cond.methodLink RL 118 yX5_endIf ∈ lw_gd := gd_of 331 rfl rfl
set_option maxRecDepth 100000 in
theorem wd_373 : Cond.methodLink RL 104 yL_build ∈ lw_gd := gd_of 373 rfl rfl
set_option maxRecDepth 100000 in
theorem wd_442 : Cond.methodLink RL 108 yL_slacks ∈ lw_gd := gd_of 442 rfl rfl
set_option maxRecDepth 100000 in
theorem wd_448 : Cond.methodLink RL 112 yL_chain ∈ lw_gd := gd_of 448 rfl rfl
set_option maxRecDepth 100000 in
theorem wd_451 : Cond.methodLink RL 115 yL_places ∈ lw_gd := gd_of 451 rfl rfl
set_option maxRecDepth 100000 in
theorem wd_474 : Cond.methodLink RL 124 yL_trades ∈ lw_gd := gd_of 474 rfl rfl
set_option maxRecDepth 100000 in
theorem wd_569 : Cond.methodLink RL 127 yL_refunds ∈ lw_gd := gd_of 569 rfl rfl
set_option maxRecDepth 100000 in
theorem wd_589 : Cond.methodLink RL 131 yL_trades2 ∈ lw_gd := gd_of 589 rfl rfl
theorem dL_law_0 : decode cL_law 0 = .ok (.new 20, 3) := by decide +kernel
theorem dL_law_3 : decode cL_law 3 = .ok (.dup, 1) := by decide +kernel
theorem dL_law_4 : decode cL_law 4 = .ok (.invokespecial 100, 3) := by decide +kernel
theorem dL_law_7 : decode cL_law 7 = .ok (.astore_n 1, 1) := by decide +kernel
theorem dL_law_8 : decode cL_law 8 = .ok (.bipush 24, 2) := by decide +kernel
theorem dL_law_10 : decode cL_law 10 = .ok (.newarray .int, 2) := by decide +kernel
theorem dL_law_12 : decode cL_law 12 = .ok (.astore_n 2, 1) := by decide +kernel
theorem dL_law_13 : decode cL_law 13 = .ok (.iconst 1, 1) := by decide +kernel
theorem dL_law_14 : decode cL_law 14 = .ok (.aload_n 0, 1) := by decide +kernel
theorem dL_law_15 : decode cL_law 15 = .ok (.iconst 0, 1) := by decide +kernel
theorem dL_law_16 : decode cL_law 16 = .ok (.invokestatic 10, 3) := by decide +kernel
theorem dL_law_19 : decode cL_law 19 = .ok (.bipush 9, 2) := by decide +kernel
theorem dL_law_21 : decode cL_law 21 = .ok (.invokestatic 16, 3) := by decide +kernel
theorem dL_law_24 : decode cL_law 24 = .ok (.iadd, 1) := by decide +kernel
theorem dL_law_25 : decode cL_law 25 = .ok (.istore_n 3, 1) := by decide +kernel
theorem dL_law_26 : decode cL_law 26 = .ok (.aload_n 0, 1) := by decide +kernel
theorem dL_law_27 : decode cL_law 27 = .ok (.iconst 1, 1) := by decide +kernel
theorem dL_law_28 : decode cL_law 28 = .ok (.invokestatic 10, 3) := by decide +kernel
theorem dL_law_31 : decode cL_law 31 = .ok (.istore 4, 2) := by decide +kernel
theorem dL_law_33 : decode cL_law 33 = .ok (.iconst 1, 1) := by decide +kernel
theorem dL_law_34 : decode cL_law 34 = .ok (.iload 4, 2) := by decide +kernel
theorem dL_law_36 : decode cL_law 36 = .ok (.iconst 4, 1) := by decide +kernel
theorem dL_law_37 : decode cL_law 37 = .ok (.invokestatic 16, 3) := by decide +kernel
theorem dL_law_40 : decode cL_law 40 = .ok (.iadd, 1) := by decide +kernel
theorem dL_law_41 : decode cL_law 41 = .ok (.istore 5, 2) := by decide +kernel
theorem dL_law_43 : decode cL_law 43 = .ok (.iload 4, 2) := by decide +kernel
theorem dL_law_45 : decode cL_law 45 = .ok (.iconst 3, 1) := by decide +kernel
theorem dL_law_46 : decode cL_law 46 = .ok (.ishr, 1) := by decide +kernel
theorem dL_law_47 : decode cL_law 47 = .ok (.bipush 101, 2) := by decide +kernel
theorem dL_law_49 : decode cL_law 49 = .ok (.invokestatic 16, 3) := by decide +kernel
theorem dL_law_52 : decode cL_law 52 = .ok (.istore 6, 2) := by decide +kernel
theorem dL_law_54 : decode cL_law 54 = .ok (.aload_n 1, 1) := by decide +kernel
theorem dL_law_55 : decode cL_law 55 = .ok (.iconst 1, 1) := by decide +kernel
theorem dL_law_56 : decode cL_law 56 = .ok (.iload 5, 2) := by decide +kernel
theorem dL_law_58 : decode cL_law 58 = .ok (.invokevirtual 101, 3) := by decide +kernel
theorem dL_law_61 : decode cL_law 61 = .ok (.iconst 2, 1) := by decide +kernel
theorem dL_law_62 : decode cL_law 62 = .ok (.if_icmp .ne 31, 3) := by decide +kernel
theorem dL_law_65 : decode cL_law 65 = .ok (.aload_n 1, 1) := by decide +kernel
theorem dL_law_66 : decode cL_law 66 = .ok (.iconst 0, 1) := by decide +kernel
theorem dL_law_67 : decode cL_law 67 = .ok (.iload 6, 2) := by decide +kernel
theorem dL_law_69 : decode cL_law 69 = .ok (.invokevirtual 101, 3) := by decide +kernel
theorem dL_law_72 : decode cL_law 72 = .ok (.bipush 50, 2) := by decide +kernel
theorem dL_law_74 : decode cL_law 74 = .ok (.if_icmp .ne 19, 3) := by decide +kernel
theorem dL_law_77 : decode cL_law 77 = .ok (.aload_n 1, 1) := by decide +kernel
theorem dL_law_78 : decode cL_law 78 = .ok (.invokevirtual 52, 3) := by decide +kernel
theorem dL_law_81 : decode cL_law 81 = .ok (.ifCond .ne 12, 3) := by decide +kernel
theorem dL_law_84 : decode cL_law 84 = .ok (.aload_n 1, 1) := by decide +kernel
theorem dL_law_85 : decode cL_law 85 = .ok (.aload_n 0, 1) := by decide +kernel
theorem dL_law_86 : decode cL_law 86 = .ok (.iload_n 3, 1) := by decide +kernel
theorem dL_law_87 : decode cL_law 87 = .ok (.invokestatic 104, 3) := by decide +kernel
theorem dL_law_90 : decode cL_law 90 = .ok (.ifCond .ne 5, 3) := by decide +kernel
theorem dL_law_93 : decode cL_law 93 = .ok (.iconst 0, 1) := by decide +kernel
theorem dL_law_94 : decode cL_law 94 = .ok (.ireturn, 1) := by decide +kernel
theorem dL_law_95 : decode cL_law 95 = .ok (.aload_n 1, 1) := by decide +kernel
theorem dL_law_96 : decode cL_law 96 = .ok (.iload_n 3, 1) := by decide +kernel
theorem dL_law_97 : decode cL_law 97 = .ok (.invokestatic 93, 3) := by decide +kernel
theorem dL_law_100 : decode cL_law 100 = .ok (.ifCond .eq 36, 3) := by decide +kernel
theorem dL_law_103 : decode cL_law 103 = .ok (.aload_n 1, 1) := by decide +kernel
theorem dL_law_104 : decode cL_law 104 = .ok (.iload_n 3, 1) := by decide +kernel
theorem dL_law_105 : decode cL_law 105 = .ok (.aload_n 2, 1) := by decide +kernel
theorem dL_law_106 : decode cL_law 106 = .ok (.invokestatic 108, 3) := by decide +kernel
theorem dL_law_109 : decode cL_law 109 = .ok (.ifCond .eq 27, 3) := by decide +kernel
theorem dL_law_112 : decode cL_law 112 = .ok (.aload_n 1, 1) := by decide +kernel
theorem dL_law_113 : decode cL_law 113 = .ok (.iload_n 3, 1) := by decide +kernel
theorem dL_law_114 : decode cL_law 114 = .ok (.invokestatic 112, 3) := by decide +kernel
theorem dL_law_117 : decode cL_law 117 = .ok (.ifCond .eq 19, 3) := by decide +kernel
theorem dL_law_120 : decode cL_law 120 = .ok (.aload_n 1, 1) := by decide +kernel
theorem dL_law_121 : decode cL_law 121 = .ok (.iload 4, 2) := by decide +kernel
theorem dL_law_123 : decode cL_law 123 = .ok (.bipush 11, 2) := by decide +kernel
theorem dL_law_125 : decode cL_law 125 = .ok (.ishr, 1) := by decide +kernel
theorem dL_law_126 : decode cL_law 126 = .ok (.iload_n 3, 1) := by decide +kernel
theorem dL_law_127 : decode cL_law 127 = .ok (.invokestatic 16, 3) := by decide +kernel
theorem dL_law_130 : decode cL_law 130 = .ok (.invokestatic 115, 3) := by decide +kernel
theorem dL_law_133 : decode cL_law 133 = .ok (.ifCond .ne 5, 3) := by decide +kernel
theorem dL_law_136 : decode cL_law 136 = .ok (.iconst 0, 1) := by decide +kernel
theorem dL_law_137 : decode cL_law 137 = .ok (.ireturn, 1) := by decide +kernel
theorem dL_law_138 : decode cL_law 138 = .ok (.iload 4, 2) := by decide +kernel
theorem dL_law_140 : decode cL_law 140 = .ok (.bipush 15, 2) := by decide +kernel
theorem dL_law_142 : decode cL_law 142 = .ok (.ishr, 1) := by decide +kernel
theorem dL_law_143 : decode cL_law 143 = .ok (.iload_n 3, 1) := by decide +kernel
theorem dL_law_144 : decode cL_law 144 = .ok (.invokestatic 16, 3) := by decide +kernel
theorem dL_law_147 : decode cL_law 147 = .ok (.istore 7, 2) := by decide +kernel
theorem dL_law_149 : decode cL_law 149 = .ok (.iload 4, 2) := by decide +kernel
theorem dL_law_151 : decode cL_law 151 = .ok (.bipush 19, 2) := by decide +kernel
theorem dL_law_153 : decode cL_law 153 = .ok (.ishr, 1) := by decide +kernel
theorem dL_law_154 : decode cL_law 154 = .ok (.iload_n 3, 1) := by decide +kernel
theorem dL_law_155 : decode cL_law 155 = .ok (.invokestatic 16, 3) := by decide +kernel
theorem dL_law_158 : decode cL_law 158 = .ok (.istore 8, 2) := by decide +kernel
theorem dL_law_160 : decode cL_law 160 = .ok (.iconst 1, 1) := by decide +kernel
theorem dL_law_161 : decode cL_law 161 = .ok (.iload 4, 2) := by decide +kernel
theorem dL_law_163 : decode cL_law 163 = .ok (.bipush 23, 2) := by decide +kernel
theorem dL_law_165 : decode cL_law 165 = .ok (.ishr, 1) := by decide +kernel
theorem dL_law_166 : decode cL_law 166 = .ok (.bipush 40, 2) := by decide +kernel
theorem dL_law_168 : decode cL_law 168 = .ok (.invokestatic 16, 3) := by decide +kernel
theorem dL_law_171 : decode cL_law 171 = .ok (.iadd, 1) := by decide +kernel
theorem dL_law_172 : decode cL_law 172 = .ok (.istore 9, 2) := by decide +kernel
theorem dL_law_174 : decode cL_law 174 = .ok (.aload_n 1, 1) := by decide +kernel
theorem dL_law_175 : decode cL_law 175 = .ok (.iload 8, 2) := by decide +kernel
theorem dL_law_177 : decode cL_law 177 = .ok (.iconst 1, 1) := by decide +kernel
theorem dL_law_178 : decode cL_law 178 = .ok (.invokevirtual 26, 3) := by decide +kernel
theorem dL_law_181 : decode cL_law 181 = .ok (.istore 10, 2) := by decide +kernel
theorem dL_law_183 : decode cL_law 183 = .ok (.aload_n 1, 1) := by decide +kernel
theorem dL_law_184 : decode cL_law 184 = .ok (.iload 7, 2) := by decide +kernel
theorem dL_law_186 : decode cL_law 186 = .ok (.iload 8, 2) := by decide +kernel
theorem dL_law_188 : decode cL_law 188 = .ok (.iload 9, 2) := by decide +kernel
theorem dL_law_190 : decode cL_law 190 = .ok (.invokevirtual 118, 3) := by decide +kernel
theorem dL_law_193 : decode cL_law 193 = .ok (.istore 11, 2) := by decide +kernel
theorem dL_law_195 : decode cL_law 195 = .ok (.aload_n 1, 1) := by decide +kernel
theorem dL_law_196 : decode cL_law 196 = .ok (.iload 8, 2) := by decide +kernel
theorem dL_law_198 : decode cL_law 198 = .ok (.iconst 1, 1) := by decide +kernel
theorem dL_law_199 : decode cL_law 199 = .ok (.invokevirtual 26, 3) := by decide +kernel
theorem dL_law_202 : decode cL_law 202 = .ok (.iload 10, 2) := by decide +kernel
theorem dL_law_204 : decode cL_law 204 = .ok (.if_icmp .ne 43, 3) := by decide +kernel
theorem dL_law_207 : decode cL_law 207 = .ok (.aload_n 1, 1) := by decide +kernel
theorem dL_law_208 : decode cL_law 208 = .ok (.iload 8, 2) := by decide +kernel
theorem dL_law_210 : decode cL_law 210 = .ok (.iload 9, 2) := by decide +kernel
theorem dL_law_212 : decode cL_law 212 = .ok (.invokevirtual 121, 3) := by decide +kernel
theorem dL_law_215 : decode cL_law 215 = .ok (.iload 10, 2) := by decide +kernel
theorem dL_law_217 : decode cL_law 217 = .ok (.if_icmp .ne 30, 3) := by decide +kernel
theorem dL_law_220 : decode cL_law 220 = .ok (.aload_n 1, 1) := by decide +kernel
theorem dL_law_221 : decode cL_law 221 = .ok (.iload 7, 2) := by decide +kernel
theorem dL_law_223 : decode cL_law 223 = .ok (.iconst 5, 1) := by decide +kernel
theorem dL_law_224 : decode cL_law 224 = .ok (.invokevirtual 26, 3) := by decide +kernel
theorem dL_law_227 : decode cL_law 227 = .ok (.iload 11, 2) := by decide +kernel
theorem dL_law_229 : decode cL_law 229 = .ok (.if_icmp .ne 18, 3) := by decide +kernel
theorem dL_law_232 : decode cL_law 232 = .ok (.aload_n 1, 1) := by decide +kernel
theorem dL_law_233 : decode cL_law 233 = .ok (.iload_n 3, 1) := by decide +kernel
theorem dL_law_234 : decode cL_law 234 = .ok (.invokestatic 93, 3) := by decide +kernel
theorem dL_law_237 : decode cL_law 237 = .ok (.ifCond .eq 10, 3) := by decide +kernel
theorem dL_law_240 : decode cL_law 240 = .ok (.aload_n 1, 1) := by decide +kernel
theorem dL_law_241 : decode cL_law 241 = .ok (.invokevirtual 59, 3) := by decide +kernel
theorem dL_law_244 : decode cL_law 244 = .ok (.ifCond .ge 5, 3) := by decide +kernel
theorem dL_law_247 : decode cL_law 247 = .ok (.iconst 0, 1) := by decide +kernel
theorem dL_law_248 : decode cL_law 248 = .ok (.ireturn, 1) := by decide +kernel
theorem dL_law_249 : decode cL_law 249 = .ok (.aload_n 1, 1) := by decide +kernel
theorem dL_law_250 : decode cL_law 250 = .ok (.iload_n 3, 1) := by decide +kernel
theorem dL_law_251 : decode cL_law 251 = .ok (.invokestatic 124, 3) := by decide +kernel
theorem dL_law_254 : decode cL_law 254 = .ok (.ifCond .eq 37, 3) := by decide +kernel
theorem dL_law_257 : decode cL_law 257 = .ok (.aload_n 1, 1) := by decide +kernel
theorem dL_law_258 : decode cL_law 258 = .ok (.iload_n 3, 1) := by decide +kernel
theorem dL_law_259 : decode cL_law 259 = .ok (.aload_n 2, 1) := by decide +kernel
theorem dL_law_260 : decode cL_law 260 = .ok (.invokestatic 108, 3) := by decide +kernel
theorem dL_law_263 : decode cL_law 263 = .ok (.ifCond .eq 28, 3) := by decide +kernel
theorem dL_law_266 : decode cL_law 266 = .ok (.aload_n 1, 1) := by decide +kernel
theorem dL_law_267 : decode cL_law 267 = .ok (.iload_n 3, 1) := by decide +kernel
theorem dL_law_268 : decode cL_law 268 = .ok (.aload_n 0, 1) := by decide +kernel
theorem dL_law_269 : decode cL_law 269 = .ok (.iconst 2, 1) := by decide +kernel
theorem dL_law_270 : decode cL_law 270 = .ok (.invokestatic 10, 3) := by decide +kernel
theorem dL_law_273 : decode cL_law 273 = .ok (.invokestatic 127, 3) := by decide +kernel
theorem dL_law_276 : decode cL_law 276 = .ok (.ifCond .eq 15, 3) := by decide +kernel
theorem dL_law_279 : decode cL_law 279 = .ok (.aload_n 1, 1) := by decide +kernel
theorem dL_law_280 : decode cL_law 280 = .ok (.iload_n 3, 1) := by decide +kernel
theorem dL_law_281 : decode cL_law 281 = .ok (.invokestatic 131, 3) := by decide +kernel
theorem dL_law_284 : decode cL_law 284 = .ok (.ifCond .eq 7, 3) := by decide +kernel
theorem dL_law_287 : decode cL_law 287 = .ok (.iconst 1, 1) := by decide +kernel
theorem dL_law_288 : decode cL_law 288 = .ok (.goto 4, 3) := by decide +kernel
theorem dL_law_291 : decode cL_law 291 = .ok (.iconst 0, 1) := by decide +kernel
theorem dL_law_292 : decode cL_law 292 = .ok (.ireturn, 1) := by decide +kernel
def FL_law (M : Mem) (X : Scr) : Option (Int32 × Mem) :=
  c1 (FL_cell X (0 : Int32)) fun r1 =>
  c1 (FL_low r1 (9 : Int32)) fun r3 =>
  lt1 ((1 : Int32) + r3) fun x5 =>
  c1 (FL_cell X (1 : Int32)) fun r7 =>
  c1 (FL_low r7 (4 : Int32)) fun r9 =>
  lt1 ((1 : Int32) + r9) fun x11 =>
  c1 (FL_low (r7 >>> ((3 : Int32) &&& 31)) (101 : Int32)) fun r13 =>
  c2 (FX5_set M (1 : Int32) x11) fun r15 M17 =>
  if r15 = (2 : Int32) then
    c2 (FX5_set M17 (0 : Int32) r13) fun r19 M21 =>
    if r19 = (50 : Int32) then
      c1 (FX5_critical M21) fun r23 =>
      if r23 = 0 then
        c2 (FL_build M21 X x5) fun r26 M28 =>
        if r26 = 0 then
          some ((0 : Int32), M28)
        else
          c2 (FL_times M28 x5) fun r30 M32 =>
          if r30 = 0 then
            some ((0 : Int32), M32)
          else
            c2 (FL_slacks M32 x5) fun r34 M36 =>
            if r34 = 0 then
              some ((0 : Int32), M36)
            else
              c2 (FL_chain M36 x5) fun r38 M40 =>
              if r38 = 0 then
                some ((0 : Int32), M40)
              else
                c1 (FL_low (r7 >>> ((11 : Int32) &&& 31)) x5) fun r42 =>
                c2 (FL_places M40 r42) fun r44 M46 =>
                if r44 = 0 then
                  some ((0 : Int32), M46)
                else
                  c1 (FL_low (r7 >>> ((15 : Int32) &&& 31)) x5) fun r48 =>
                  c1 (FL_low (r7 >>> ((19 : Int32) &&& 31)) x5) fun r50 =>
                  c1 (FL_low (r7 >>> ((23 : Int32) &&& 31)) (40 : Int32)) fun r52 =>
                  lt1 ((1 : Int32) + r52) fun x54 =>
                  c2 (FX5_ofTask M46 r50 (1 : Int32)) fun r56 M58 =>
                  c2 (FX5_endIf M58 r48 r50 x54) fun r59 M61 =>
                  c2 (FX5_ofTask M61 r50 (1 : Int32)) fun r62 M64 =>
                  if r62 = r56 then
                    c2 (FX5_duration M64 r50 x54) fun r66 M68 =>
                    if r66 = r56 then
                      c2 (FX5_ofTask M68 r48 (5 : Int32)) fun r70 M72 =>
                      if r70 = r59 then
                        c2 (FL_times M72 x5) fun r74 M76 =>
                        if r74 = 0 then
                          some ((0 : Int32), M76)
                        else
                          c2 (FX5_undo M76) fun r78 M80 =>
                          if 0 ≤ r78 then
                            c2 (FL_trades M80 x5) fun r82 M84 =>
                            if r82 = 0 then
                              some ((0 : Int32), M84)
                            else
                              c2 (FL_slacks M84 x5) fun r86 M88 =>
                              if r86 = 0 then
                                some ((0 : Int32), M88)
                              else
                                c1 (FL_cell X (2 : Int32)) fun r90 =>
                                c2 (FL_refunds M88 x5 r90) fun r92 M94 =>
                                if r92 = 0 then
                                  some ((0 : Int32), M94)
                                else
                                  c2 (FL_trades2 M94 x5) fun r96 M98 =>
                                  if r96 = 0 then
                                    some ((0 : Int32), M98)
                                  else
                                    some ((1 : Int32), M98)
                          else
                            some ((0 : Int32), M80)
                      else
                        some ((0 : Int32), M72)
                    else
                      some ((0 : Int32), M68)
                  else
                    some ((0 : Int32), M64)
      else
        some ((0 : Int32), M21)
    else
      some ((0 : Int32), M21)
  else
    some ((0 : Int32), M17)
set_option maxRecDepth 100000 in
set_option maxHeartbeats 4000000 in
theorem wL_law {E : WE} {V : VT} {A : Nat → Prop} {H0 : Heap} (Cx : CX E RL cL_law 12 9 242) {r : Int32} {M' : Mem} (hret : RetI E V A H0 cL_law .boolean r M') {X : Scr} (hX : X = vScr V) {H : Heap} {locs : List Loc} {ls : Array Slot} {M : Mem} (hW : Wd V A H0 M (eS E) H locs) (hl : lv_has ls 12 [(0, .ref (vSb V)), (1, .ref (vA V 11 0)), (2, .ref (vA V 12 0))]) (hF : FL_law M X = some (r, M')) : Wq E H locs 13 ls [] := by
  unfold FL_law at hF
  refine q_iconst (v := (1 : Int32)) Cx dL_law_13 (by decide) ?_
  refine q_aload_n Cx dL_law_14 rfl (lv_at hl 0 rfl) ?_
  refine q_iconst (v := (0 : Int32)) Cx dL_law_15 (by decide) ?_
  obtain ⟨r1, e2, hF⟩ := c1_some hF
  refine q_callSI (as := [.ref (vSb V), .int (0 : Int32)]) (rest := [.int (1 : Int32)]) Cx (kL_cell hX e2) okL_cell osL_cell rfl wd_364 ⟨rfl, rfl, by decide, by decide⟩ hW rfl hl.1 (Nat.le_of_ble_eq_true rfl) rfl dL_law_16 (fun H locs hW => ?_)
  refine q_bipush (v := (9 : Int32)) Cx dL_law_19 (by decide) ?_
  obtain ⟨r3, e4, hF⟩ := c1_some hF
  refine q_callSI (as := [.int r1, .int (9 : Int32)]) (rest := [.int (1 : Int32)]) Cx (kL_low e4) okL_low osL_low rfl wd_369 ⟨rfl, rfl, by decide, by decide⟩ hW rfl hl.1 (Nat.le_of_ble_eq_true rfl) rfl dL_law_21 (fun H locs hW => ?_)
  refine q_iadd Cx dL_law_24 ?_
  obtain ⟨x5, e6, hF⟩ := lt1_some hF
  refine q_topi e6 ?_
  refine q_istore_n (lv' := [(3, .int x5), (0, .ref (vSb V)), (1, .ref (vA V 11 0)), (2, .ref (vA V 12 0))]) Cx dL_law_25 rfl hl (by decide) rfl (fun ls hl => ?_)
  refine q_aload_n Cx dL_law_26 rfl (lv_at hl 1 rfl) ?_
  refine q_iconst (v := (1 : Int32)) Cx dL_law_27 (by decide) ?_
  obtain ⟨r7, e8, hF⟩ := c1_some hF
  refine q_callSI (as := [.ref (vSb V), .int (1 : Int32)]) (rest := []) Cx (kL_cell hX e8) okL_cell osL_cell rfl wd_364 ⟨rfl, rfl, by decide, by decide⟩ hW rfl hl.1 (Nat.le_of_ble_eq_true rfl) rfl dL_law_28 (fun H locs hW => ?_)
  refine q_istore (lv' := [(4, .int r7), (3, .int x5), (0, .ref (vSb V)), (1, .ref (vA V 11 0)), (2, .ref (vA V 12 0))]) Cx dL_law_31 hl (by decide) rfl (fun ls hl => ?_)
  refine q_iconst (v := (1 : Int32)) Cx dL_law_33 (by decide) ?_
  refine q_iload Cx dL_law_34 (lv_at hl 0 rfl) ?_
  refine q_iconst (v := (4 : Int32)) Cx dL_law_36 (by decide) ?_
  obtain ⟨r9, e10, hF⟩ := c1_some hF
  refine q_callSI (as := [.int r7, .int (4 : Int32)]) (rest := [.int (1 : Int32)]) Cx (kL_low e10) okL_low osL_low rfl wd_369 ⟨rfl, rfl, by decide, by decide⟩ hW rfl hl.1 (Nat.le_of_ble_eq_true rfl) rfl dL_law_37 (fun H locs hW => ?_)
  refine q_iadd Cx dL_law_40 ?_
  obtain ⟨x11, e12, hF⟩ := lt1_some hF
  refine q_topi e12 ?_
  refine q_istore (lv' := [(5, .int x11), (4, .int r7), (3, .int x5), (0, .ref (vSb V)), (1, .ref (vA V 11 0)), (2, .ref (vA V 12 0))]) Cx dL_law_41 hl (by decide) rfl (fun ls hl => ?_)
  refine q_iload Cx dL_law_43 (lv_at hl 1 rfl) ?_
  refine q_iconst (v := (3 : Int32)) Cx dL_law_45 (by decide) ?_
  refine q_ishr Cx dL_law_46 ?_
  refine q_bipush (v := (101 : Int32)) Cx dL_law_47 (by decide) ?_
  obtain ⟨r13, e14, hF⟩ := c1_some hF
  refine q_callSI (as := [.int (r7 >>> ((3 : Int32) &&& 31)), .int (101 : Int32)]) (rest := []) Cx (kL_low e14) okL_low osL_low rfl wd_369 ⟨rfl, rfl, by decide, by decide⟩ hW rfl hl.1 (Nat.le_of_ble_eq_true rfl) rfl dL_law_49 (fun H locs hW => ?_)
  refine q_istore (lv' := [(6, .int r13), (5, .int x11), (4, .int r7), (3, .int x5), (0, .ref (vSb V)), (1, .ref (vA V 11 0)), (2, .ref (vA V 12 0))]) Cx dL_law_52 hl (by decide) rfl (fun ls hl => ?_)
  refine q_aload_n Cx dL_law_54 rfl (lv_at hl 5 rfl) ?_
  refine q_iconst (v := (1 : Int32)) Cx dL_law_55 (by decide) ?_
  refine q_iload Cx dL_law_56 (lv_at hl 1 rfl) ?_
  obtain ⟨r15, M17, e16, hF⟩ := c2_some hF
  refine q_callI (as := [.int (1 : Int32), .int x11]) (rest := []) Cx (kX5_set e16) okX5_set ovX5_set wd_208 ⟨rfl, rfl, by decide, by decide⟩ hW oX ic5 rfl hl.1 (Nat.le_of_ble_eq_true rfl) rfl dL_law_58 (fun H locs hW => ?_)
  refine q_iconst (v := (2 : Int32)) Cx dL_law_61 (by decide) ?_
  refine q_icmp_ne (tgt := 93) Cx dL_law_62 (by decide) (fun c18 => ?_) (fun c18 => ?_)
  · have hF := (if_neg c18).symm.trans hF
    refine q_iconst (v := (0 : Int32)) Cx dL_law_93 (by decide) ?_
    obtain ⟨rfl, rfl⟩ := Prod.mk.inj (Option.some.inj hF)
    exact hret _ _ _ _ dL_law_94 (by rfl) hW
  · have hF := (if_pos c18).symm.trans hF
    refine q_aload_n Cx dL_law_65 rfl (lv_at hl 5 rfl) ?_
    refine q_iconst (v := (0 : Int32)) Cx dL_law_66 (by decide) ?_
    refine q_iload Cx dL_law_67 (lv_at hl 0 rfl) ?_
    obtain ⟨r19, M21, e20, hF⟩ := c2_some hF
    refine q_callI (as := [.int (0 : Int32), .int r13]) (rest := []) Cx (kX5_set e20) okX5_set ovX5_set wd_208 ⟨rfl, rfl, by decide, by decide⟩ hW oX ic5 rfl hl.1 (Nat.le_of_ble_eq_true rfl) rfl dL_law_69 (fun H locs hW => ?_)
    refine q_bipush (v := (50 : Int32)) Cx dL_law_72 (by decide) ?_
    refine q_icmp_ne (tgt := 93) Cx dL_law_74 (by decide) (fun c22 => ?_) (fun c22 => ?_)
    · have hF := (if_neg c22).symm.trans hF
      refine q_iconst (v := (0 : Int32)) Cx dL_law_93 (by decide) ?_
      obtain ⟨rfl, rfl⟩ := Prod.mk.inj (Option.some.inj hF)
      exact hret _ _ _ _ dL_law_94 (by rfl) hW
    · have hF := (if_pos c22).symm.trans hF
      refine q_aload_n Cx dL_law_77 rfl (lv_at hl 5 rfl) ?_
      obtain ⟨r23, e24, hF⟩ := c1_some hF
      refine q_callI (as := []) (rest := []) Cx (kX5_critical e24) okX5_critical ovX5_critical wd_338 ⟨rfl, rfl, by decide, by decide⟩ hW oX ic5 rfl hl.1 (Nat.le_of_ble_eq_true rfl) rfl dL_law_78 (fun H locs hW => ?_)
      refine q_if_ne (tgt := 93) Cx dL_law_81 (by decide) (fun c25 => ?_) (fun c25 => ?_)
      · have hF := (if_neg c25).symm.trans hF
        refine q_iconst (v := (0 : Int32)) Cx dL_law_93 (by decide) ?_
        obtain ⟨rfl, rfl⟩ := Prod.mk.inj (Option.some.inj hF)
        exact hret _ _ _ _ dL_law_94 (by rfl) hW
      · have hF := (if_pos c25).symm.trans hF
        refine q_aload_n Cx dL_law_84 rfl (lv_at hl 5 rfl) ?_
        refine q_aload_n Cx dL_law_85 rfl (lv_at hl 4 rfl) ?_
        refine q_iload_n Cx dL_law_86 rfl (lv_at hl 3 rfl) ?_
        obtain ⟨r26, M28, e27, hF⟩ := c2_some hF
        refine q_callSI (as := [.ref (vA V 11 0), .ref (vSb V), .int x5]) (rest := []) Cx (kL_build hX e27) okL_build osL_build rfl wd_373 ⟨rfl, rfl, by decide, by decide⟩ hW rfl hl.1 (Nat.le_of_ble_eq_true rfl) rfl dL_law_87 (fun H locs hW => ?_)
        refine q_if_ne (tgt := 95) Cx dL_law_90 (by decide) (fun c29 => ?_) (fun c29 => ?_)
        · have hF := (if_neg c29).symm.trans hF
          refine q_aload_n Cx dL_law_95 rfl (lv_at hl 5 rfl) ?_
          refine q_iload_n Cx dL_law_96 rfl (lv_at hl 3 rfl) ?_
          obtain ⟨r30, M32, e31, hF⟩ := c2_some hF
          refine q_callSI (as := [.ref (vA V 11 0), .int x5]) (rest := []) Cx (kL_times e31) okL_times osL_times rfl wd_401 ⟨rfl, rfl, by decide, by decide⟩ hW rfl hl.1 (Nat.le_of_ble_eq_true rfl) rfl dL_law_97 (fun H locs hW => ?_)
          refine q_if_eq (tgt := 136) Cx dL_law_100 (by decide) (fun c33 => ?_) (fun c33 => ?_)
          · have hF := (if_pos c33).symm.trans hF
            refine q_iconst (v := (0 : Int32)) Cx dL_law_136 (by decide) ?_
            obtain ⟨rfl, rfl⟩ := Prod.mk.inj (Option.some.inj hF)
            exact hret _ _ _ _ dL_law_137 (by rfl) hW
          · have hF := (if_neg c33).symm.trans hF
            refine q_aload_n Cx dL_law_103 rfl (lv_at hl 5 rfl) ?_
            refine q_iload_n Cx dL_law_104 rfl (lv_at hl 3 rfl) ?_
            refine q_aload_n Cx dL_law_105 rfl (lv_at hl 6 rfl) ?_
            obtain ⟨r34, M36, e35, hF⟩ := c2_some hF
            refine q_callSI (as := [.ref (vA V 11 0), .int x5, .ref (vA V 12 0)]) (rest := []) Cx (kL_slacks e35) okL_slacks osL_slacks rfl wd_442 ⟨rfl, rfl, by decide, by decide⟩ hW rfl hl.1 (Nat.le_of_ble_eq_true rfl) rfl dL_law_106 (fun H locs hW => ?_)
            refine q_if_eq (tgt := 136) Cx dL_law_109 (by decide) (fun c37 => ?_) (fun c37 => ?_)
            · have hF := (if_pos c37).symm.trans hF
              refine q_iconst (v := (0 : Int32)) Cx dL_law_136 (by decide) ?_
              obtain ⟨rfl, rfl⟩ := Prod.mk.inj (Option.some.inj hF)
              exact hret _ _ _ _ dL_law_137 (by rfl) hW
            · have hF := (if_neg c37).symm.trans hF
              refine q_aload_n Cx dL_law_112 rfl (lv_at hl 5 rfl) ?_
              refine q_iload_n Cx dL_law_113 rfl (lv_at hl 3 rfl) ?_
              obtain ⟨r38, M40, e39, hF⟩ := c2_some hF
              refine q_callSI (as := [.ref (vA V 11 0), .int x5]) (rest := []) Cx (kL_chain e39) okL_chain osL_chain rfl wd_448 ⟨rfl, rfl, by decide, by decide⟩ hW rfl hl.1 (Nat.le_of_ble_eq_true rfl) rfl dL_law_114 (fun H locs hW => ?_)
              refine q_if_eq (tgt := 136) Cx dL_law_117 (by decide) (fun c41 => ?_) (fun c41 => ?_)
              · have hF := (if_pos c41).symm.trans hF
                refine q_iconst (v := (0 : Int32)) Cx dL_law_136 (by decide) ?_
                obtain ⟨rfl, rfl⟩ := Prod.mk.inj (Option.some.inj hF)
                exact hret _ _ _ _ dL_law_137 (by rfl) hW
              · have hF := (if_neg c41).symm.trans hF
                refine q_aload_n Cx dL_law_120 rfl (lv_at hl 5 rfl) ?_
                refine q_iload Cx dL_law_121 (lv_at hl 2 rfl) ?_
                refine q_bipush (v := (11 : Int32)) Cx dL_law_123 (by decide) ?_
                refine q_ishr Cx dL_law_125 ?_
                refine q_iload_n Cx dL_law_126 rfl (lv_at hl 3 rfl) ?_
                obtain ⟨r42, e43, hF⟩ := c1_some hF
                refine q_callSI (as := [.int (r7 >>> ((11 : Int32) &&& 31)), .int x5]) (rest := [.ref (vA V 11 0)]) Cx (kL_low e43) okL_low osL_low rfl wd_369 ⟨rfl, rfl, by decide, by decide⟩ hW rfl hl.1 (Nat.le_of_ble_eq_true rfl) rfl dL_law_127 (fun H locs hW => ?_)
                obtain ⟨r44, M46, e45, hF⟩ := c2_some hF
                refine q_callSI (as := [.ref (vA V 11 0), .int r42]) (rest := []) Cx (kL_places e45) okL_places osL_places rfl wd_451 ⟨rfl, rfl, by decide, by decide⟩ hW rfl hl.1 (Nat.le_of_ble_eq_true rfl) rfl dL_law_130 (fun H locs hW => ?_)
                refine q_if_ne (tgt := 138) Cx dL_law_133 (by decide) (fun c47 => ?_) (fun c47 => ?_)
                · have hF := (if_neg c47).symm.trans hF
                  refine q_iload Cx dL_law_138 (lv_at hl 2 rfl) ?_
                  refine q_bipush (v := (15 : Int32)) Cx dL_law_140 (by decide) ?_
                  refine q_ishr Cx dL_law_142 ?_
                  refine q_iload_n Cx dL_law_143 rfl (lv_at hl 3 rfl) ?_
                  obtain ⟨r48, e49, hF⟩ := c1_some hF
                  refine q_callSI (as := [.int (r7 >>> ((15 : Int32) &&& 31)), .int x5]) (rest := []) Cx (kL_low e49) okL_low osL_low rfl wd_369 ⟨rfl, rfl, by decide, by decide⟩ hW rfl hl.1 (Nat.le_of_ble_eq_true rfl) rfl dL_law_144 (fun H locs hW => ?_)
                  refine q_istore (lv' := [(7, .int r48), (6, .int r13), (5, .int x11), (4, .int r7), (3, .int x5), (0, .ref (vSb V)), (1, .ref (vA V 11 0)), (2, .ref (vA V 12 0))]) Cx dL_law_147 hl (by decide) rfl (fun ls hl => ?_)
                  refine q_iload Cx dL_law_149 (lv_at hl 3 rfl) ?_
                  refine q_bipush (v := (19 : Int32)) Cx dL_law_151 (by decide) ?_
                  refine q_ishr Cx dL_law_153 ?_
                  refine q_iload_n Cx dL_law_154 rfl (lv_at hl 4 rfl) ?_
                  obtain ⟨r50, e51, hF⟩ := c1_some hF
                  refine q_callSI (as := [.int (r7 >>> ((19 : Int32) &&& 31)), .int x5]) (rest := []) Cx (kL_low e51) okL_low osL_low rfl wd_369 ⟨rfl, rfl, by decide, by decide⟩ hW rfl hl.1 (Nat.le_of_ble_eq_true rfl) rfl dL_law_155 (fun H locs hW => ?_)
                  refine q_istore (lv' := [(8, .int r50), (7, .int r48), (6, .int r13), (5, .int x11), (4, .int r7), (3, .int x5), (0, .ref (vSb V)), (1, .ref (vA V 11 0)), (2, .ref (vA V 12 0))]) Cx dL_law_158 hl (by decide) rfl (fun ls hl => ?_)
                  refine q_iconst (v := (1 : Int32)) Cx dL_law_160 (by decide) ?_
                  refine q_iload Cx dL_law_161 (lv_at hl 4 rfl) ?_
                  refine q_bipush (v := (23 : Int32)) Cx dL_law_163 (by decide) ?_
                  refine q_ishr Cx dL_law_165 ?_
                  refine q_bipush (v := (40 : Int32)) Cx dL_law_166 (by decide) ?_
                  obtain ⟨r52, e53, hF⟩ := c1_some hF
                  refine q_callSI (as := [.int (r7 >>> ((23 : Int32) &&& 31)), .int (40 : Int32)]) (rest := [.int (1 : Int32)]) Cx (kL_low e53) okL_low osL_low rfl wd_369 ⟨rfl, rfl, by decide, by decide⟩ hW rfl hl.1 (Nat.le_of_ble_eq_true rfl) rfl dL_law_168 (fun H locs hW => ?_)
                  refine q_iadd Cx dL_law_171 ?_
                  obtain ⟨x54, e55, hF⟩ := lt1_some hF
                  refine q_topi e55 ?_
                  refine q_istore (lv' := [(9, .int x54), (8, .int r50), (7, .int r48), (6, .int r13), (5, .int x11), (4, .int r7), (3, .int x5), (0, .ref (vSb V)), (1, .ref (vA V 11 0)), (2, .ref (vA V 12 0))]) Cx dL_law_172 hl (by decide) rfl (fun ls hl => ?_)
                  refine q_aload_n Cx dL_law_174 rfl (lv_at hl 8 rfl) ?_
                  refine q_iload Cx dL_law_175 (lv_at hl 1 rfl) ?_
                  refine q_iconst (v := (1 : Int32)) Cx dL_law_177 (by decide) ?_
                  obtain ⟨r56, M58, e57, hF⟩ := c2_some hF
                  refine q_callI (as := [.int r50, .int (1 : Int32)]) (rest := []) Cx (kX5_ofTask e57) okX5_ofTask ovX5_ofTask wd_273 ⟨rfl, rfl, by decide, by decide⟩ hW oX ic5 rfl hl.1 (Nat.le_of_ble_eq_true rfl) rfl dL_law_178 (fun H locs hW => ?_)
                  refine q_istore (lv' := [(10, .int r56), (9, .int x54), (8, .int r50), (7, .int r48), (6, .int r13), (5, .int x11), (4, .int r7), (3, .int x5), (0, .ref (vSb V)), (1, .ref (vA V 11 0)), (2, .ref (vA V 12 0))]) Cx dL_law_181 hl (by decide) rfl (fun ls hl => ?_)
                  refine q_aload_n Cx dL_law_183 rfl (lv_at hl 9 rfl) ?_
                  refine q_iload Cx dL_law_184 (lv_at hl 3 rfl) ?_
                  refine q_iload Cx dL_law_186 (lv_at hl 2 rfl) ?_
                  refine q_iload Cx dL_law_188 (lv_at hl 1 rfl) ?_
                  obtain ⟨r59, M61, e60, hF⟩ := c2_some hF
                  refine q_callI (as := [.int r48, .int r50, .int x54]) (rest := []) Cx (kX5_endIf e60) okX5_endIf ovX5_endIf wd_331 ⟨rfl, rfl, by decide, by decide⟩ hW oX ic5 rfl hl.1 (Nat.le_of_ble_eq_true rfl) rfl dL_law_190 (fun H locs hW => ?_)
                  refine q_istore (lv' := [(11, .int r59), (10, .int r56), (9, .int x54), (8, .int r50), (7, .int r48), (6, .int r13), (5, .int x11), (4, .int r7), (3, .int x5), (0, .ref (vSb V)), (1, .ref (vA V 11 0)), (2, .ref (vA V 12 0))]) Cx dL_law_193 hl (by decide) rfl (fun ls hl => ?_)
                  refine q_aload_n Cx dL_law_195 rfl (lv_at hl 10 rfl) ?_
                  refine q_iload Cx dL_law_196 (lv_at hl 3 rfl) ?_
                  refine q_iconst (v := (1 : Int32)) Cx dL_law_198 (by decide) ?_
                  obtain ⟨r62, M64, e63, hF⟩ := c2_some hF
                  refine q_callI (as := [.int r50, .int (1 : Int32)]) (rest := []) Cx (kX5_ofTask e63) okX5_ofTask ovX5_ofTask wd_273 ⟨rfl, rfl, by decide, by decide⟩ hW oX ic5 rfl hl.1 (Nat.le_of_ble_eq_true rfl) rfl dL_law_199 (fun H locs hW => ?_)
                  refine q_iload Cx dL_law_202 (lv_at hl 1 rfl) ?_
                  refine q_icmp_ne (tgt := 247) Cx dL_law_204 (by decide) (fun c65 => ?_) (fun c65 => ?_)
                  · have hF := (if_neg c65).symm.trans hF
                    refine q_iconst (v := (0 : Int32)) Cx dL_law_247 (by decide) ?_
                    obtain ⟨rfl, rfl⟩ := Prod.mk.inj (Option.some.inj hF)
                    exact hret _ _ _ _ dL_law_248 (by rfl) hW
                  · have hF := (if_pos c65).symm.trans hF
                    refine q_aload_n Cx dL_law_207 rfl (lv_at hl 10 rfl) ?_
                    refine q_iload Cx dL_law_208 (lv_at hl 3 rfl) ?_
                    refine q_iload Cx dL_law_210 (lv_at hl 2 rfl) ?_
                    obtain ⟨r66, M68, e67, hF⟩ := c2_some hF
                    refine q_callI (as := [.int r50, .int x54]) (rest := []) Cx (kX5_duration e67) okX5_duration ovX5_duration wd_241 ⟨rfl, rfl, by decide, by decide⟩ hW oX ic5 rfl hl.1 (Nat.le_of_ble_eq_true rfl) rfl dL_law_212 (fun H locs hW => ?_)
                    refine q_iload Cx dL_law_215 (lv_at hl 1 rfl) ?_
                    refine q_icmp_ne (tgt := 247) Cx dL_law_217 (by decide) (fun c69 => ?_) (fun c69 => ?_)
                    · have hF := (if_neg c69).symm.trans hF
                      refine q_iconst (v := (0 : Int32)) Cx dL_law_247 (by decide) ?_
                      obtain ⟨rfl, rfl⟩ := Prod.mk.inj (Option.some.inj hF)
                      exact hret _ _ _ _ dL_law_248 (by rfl) hW
                    · have hF := (if_pos c69).symm.trans hF
                      refine q_aload_n Cx dL_law_220 rfl (lv_at hl 10 rfl) ?_
                      refine q_iload Cx dL_law_221 (lv_at hl 4 rfl) ?_
                      refine q_iconst (v := (5 : Int32)) Cx dL_law_223 (by decide) ?_
                      obtain ⟨r70, M72, e71, hF⟩ := c2_some hF
                      refine q_callI (as := [.int r48, .int (5 : Int32)]) (rest := []) Cx (kX5_ofTask e71) okX5_ofTask ovX5_ofTask wd_273 ⟨rfl, rfl, by decide, by decide⟩ hW oX ic5 rfl hl.1 (Nat.le_of_ble_eq_true rfl) rfl dL_law_224 (fun H locs hW => ?_)
                      refine q_iload Cx dL_law_227 (lv_at hl 0 rfl) ?_
                      refine q_icmp_ne (tgt := 247) Cx dL_law_229 (by decide) (fun c73 => ?_) (fun c73 => ?_)
                      · have hF := (if_neg c73).symm.trans hF
                        refine q_iconst (v := (0 : Int32)) Cx dL_law_247 (by decide) ?_
                        obtain ⟨rfl, rfl⟩ := Prod.mk.inj (Option.some.inj hF)
                        exact hret _ _ _ _ dL_law_248 (by rfl) hW
                      · have hF := (if_pos c73).symm.trans hF
                        refine q_aload_n Cx dL_law_232 rfl (lv_at hl 10 rfl) ?_
                        refine q_iload_n Cx dL_law_233 rfl (lv_at hl 8 rfl) ?_
                        obtain ⟨r74, M76, e75, hF⟩ := c2_some hF
                        refine q_callSI (as := [.ref (vA V 11 0), .int x5]) (rest := []) Cx (kL_times e75) okL_times osL_times rfl wd_401 ⟨rfl, rfl, by decide, by decide⟩ hW rfl hl.1 (Nat.le_of_ble_eq_true rfl) rfl dL_law_234 (fun H locs hW => ?_)
                        refine q_if_eq (tgt := 247) Cx dL_law_237 (by decide) (fun c77 => ?_) (fun c77 => ?_)
                        · have hF := (if_pos c77).symm.trans hF
                          refine q_iconst (v := (0 : Int32)) Cx dL_law_247 (by decide) ?_
                          obtain ⟨rfl, rfl⟩ := Prod.mk.inj (Option.some.inj hF)
                          exact hret _ _ _ _ dL_law_248 (by rfl) hW
                        · have hF := (if_neg c77).symm.trans hF
                          refine q_aload_n Cx dL_law_240 rfl (lv_at hl 10 rfl) ?_
                          obtain ⟨r78, M80, e79, hF⟩ := c2_some hF
                          refine q_callI (as := []) (rest := []) Cx (kX5_undo e79) okX5_undo ovX5_undo wd_356 ⟨rfl, rfl, by decide, by decide⟩ hW oX ic5 rfl hl.1 (Nat.le_of_ble_eq_true rfl) rfl dL_law_241 (fun H locs hW => ?_)
                          refine q_if_ge (tgt := 249) Cx dL_law_244 (by decide) (fun c81 => ?_) (fun c81 => ?_)
                          · have hF := (if_pos c81).symm.trans hF
                            refine q_aload_n Cx dL_law_249 rfl (lv_at hl 10 rfl) ?_
                            refine q_iload_n Cx dL_law_250 rfl (lv_at hl 8 rfl) ?_
                            obtain ⟨r82, M84, e83, hF⟩ := c2_some hF
                            refine q_callSI (as := [.ref (vA V 11 0), .int x5]) (rest := []) Cx (kL_trades e83) okL_trades osL_trades rfl wd_474 ⟨rfl, rfl, by decide, by decide⟩ hW rfl hl.1 (Nat.le_of_ble_eq_true rfl) rfl dL_law_251 (fun H locs hW => ?_)
                            refine q_if_eq (tgt := 291) Cx dL_law_254 (by decide) (fun c85 => ?_) (fun c85 => ?_)
                            · have hF := (if_pos c85).symm.trans hF
                              refine q_iconst (v := (0 : Int32)) Cx dL_law_291 (by decide) ?_
                              obtain ⟨rfl, rfl⟩ := Prod.mk.inj (Option.some.inj hF)
                              exact hret _ _ _ _ dL_law_292 (by rfl) hW
                            · have hF := (if_neg c85).symm.trans hF
                              refine q_aload_n Cx dL_law_257 rfl (lv_at hl 10 rfl) ?_
                              refine q_iload_n Cx dL_law_258 rfl (lv_at hl 8 rfl) ?_
                              refine q_aload_n Cx dL_law_259 rfl (lv_at hl 11 rfl) ?_
                              obtain ⟨r86, M88, e87, hF⟩ := c2_some hF
                              refine q_callSI (as := [.ref (vA V 11 0), .int x5, .ref (vA V 12 0)]) (rest := []) Cx (kL_slacks e87) okL_slacks osL_slacks rfl wd_442 ⟨rfl, rfl, by decide, by decide⟩ hW rfl hl.1 (Nat.le_of_ble_eq_true rfl) rfl dL_law_260 (fun H locs hW => ?_)
                              refine q_if_eq (tgt := 291) Cx dL_law_263 (by decide) (fun c89 => ?_) (fun c89 => ?_)
                              · have hF := (if_pos c89).symm.trans hF
                                refine q_iconst (v := (0 : Int32)) Cx dL_law_291 (by decide) ?_
                                obtain ⟨rfl, rfl⟩ := Prod.mk.inj (Option.some.inj hF)
                                exact hret _ _ _ _ dL_law_292 (by rfl) hW
                              · have hF := (if_neg c89).symm.trans hF
                                refine q_aload_n Cx dL_law_266 rfl (lv_at hl 10 rfl) ?_
                                refine q_iload_n Cx dL_law_267 rfl (lv_at hl 8 rfl) ?_
                                refine q_aload_n Cx dL_law_268 rfl (lv_at hl 9 rfl) ?_
                                refine q_iconst (v := (2 : Int32)) Cx dL_law_269 (by decide) ?_
                                obtain ⟨r90, e91, hF⟩ := c1_some hF
                                refine q_callSI (as := [.ref (vSb V), .int (2 : Int32)]) (rest := [.int x5, .ref (vA V 11 0)]) Cx (kL_cell hX e91) okL_cell osL_cell rfl wd_364 ⟨rfl, rfl, by decide, by decide⟩ hW rfl hl.1 (Nat.le_of_ble_eq_true rfl) rfl dL_law_270 (fun H locs hW => ?_)
                                obtain ⟨r92, M94, e93, hF⟩ := c2_some hF
                                refine q_callSI (as := [.ref (vA V 11 0), .int x5, .int r90]) (rest := []) Cx (kL_refunds e93) okL_refunds osL_refunds rfl wd_569 ⟨rfl, rfl, by decide, by decide⟩ hW rfl hl.1 (Nat.le_of_ble_eq_true rfl) rfl dL_law_273 (fun H locs hW => ?_)
                                refine q_if_eq (tgt := 291) Cx dL_law_276 (by decide) (fun c95 => ?_) (fun c95 => ?_)
                                · have hF := (if_pos c95).symm.trans hF
                                  refine q_iconst (v := (0 : Int32)) Cx dL_law_291 (by decide) ?_
                                  obtain ⟨rfl, rfl⟩ := Prod.mk.inj (Option.some.inj hF)
                                  exact hret _ _ _ _ dL_law_292 (by rfl) hW
                                · have hF := (if_neg c95).symm.trans hF
                                  refine q_aload_n Cx dL_law_279 rfl (lv_at hl 10 rfl) ?_
                                  refine q_iload_n Cx dL_law_280 rfl (lv_at hl 8 rfl) ?_
                                  obtain ⟨r96, M98, e97, hF⟩ := c2_some hF
                                  refine q_callSI (as := [.ref (vA V 11 0), .int x5]) (rest := []) Cx (kL_trades2 e97) okL_trades2 osL_trades2 rfl wd_589 ⟨rfl, rfl, by decide, by decide⟩ hW rfl hl.1 (Nat.le_of_ble_eq_true rfl) rfl dL_law_281 (fun H locs hW => ?_)
                                  refine q_if_eq (tgt := 291) Cx dL_law_284 (by decide) (fun c99 => ?_) (fun c99 => ?_)
                                  · have hF := (if_pos c99).symm.trans hF
                                    refine q_iconst (v := (0 : Int32)) Cx dL_law_291 (by decide) ?_
                                    obtain ⟨rfl, rfl⟩ := Prod.mk.inj (Option.some.inj hF)
                                    exact hret _ _ _ _ dL_law_292 (by rfl) hW
                                  · have hF := (if_neg c99).symm.trans hF
                                    refine q_iconst (v := (1 : Int32)) Cx dL_law_287 (by decide) ?_
                                    refine q_goto (tgt := 292) Cx dL_law_288 (by decide) ?_
                                    obtain ⟨rfl, rfl⟩ := Prod.mk.inj (Option.some.inj hF)
                                    exact hret _ _ _ _ dL_law_292 (by rfl) hW
                          · have hF := (if_neg c81).symm.trans hF
                            refine q_iconst (v := (0 : Int32)) Cx dL_law_247 (by decide) ?_
                            obtain ⟨rfl, rfl⟩ := Prod.mk.inj (Option.some.inj hF)
                            exact hret _ _ _ _ dL_law_248 (by rfl) hW
                · have hF := (if_pos c47).symm.trans hF
                  refine q_iconst (v := (0 : Int32)) Cx dL_law_136 (by decide) ?_
                  obtain ⟨rfl, rfl⟩ := Prod.mk.inj (Option.some.inj hF)
                  exact hret _ _ _ _ dL_law_137 (by rfl) hW
        · have hF := (if_pos c29).symm.trans hF
          refine q_iconst (v := (0 : Int32)) Cx dL_law_93 (by decide) ?_
          obtain ⟨rfl, rfl⟩ := Prod.mk.inj (Option.some.inj hF)
          exact hret _ _ _ _ dL_law_94 (by rfl) hW
