set_option maxRecDepth 100000 in
theorem wd_267 : Cond.methodLink RL 13 yX5_set ∈ lw_gd := gd_of 267 rfl rfl
set_option maxRecDepth 100000 in
theorem wd_300 : Cond.methodLink RL 18 yX5_task ∈ lw_gd := gd_of 300 rfl rfl
set_option maxRecDepth 100000 in
theorem wd_337 : Cond.methodLink RL 23 yX5_duration ∈ lw_gd := gd_of 337 rfl rfl
set_option maxRecDepth 100000 in
theorem wd_345 : Cond.methodLink RL 27 yX5_move ∈ lw_gd := gd_of 345 rfl rfl
set_option maxRecDepth 100000 in
theorem wd_362 : Cond.methodLink RL 31 yX5_offer ∈ lw_gd := gd_of 362 rfl rfl
set_option maxRecDepth 100000 in
theorem wd_374 : Cond.methodLink RL 36 yX5_trade ∈ lw_gd := gd_of 374 rfl rfl
set_option maxRecDepth 100000 in
theorem wd_430 : Cond.methodLink RL 41 yX5_refund ∈ lw_gd := gd_of 430 rfl rfl
set_option maxRecDepth 100000 in
theorem wd_450 : Cond.methodLink RL 45 yX5_give ∈ lw_gd := gd_of 450 rfl rfl
set_option maxRecDepth 100000 in
theorem wd_458 : Cond.methodLink RL 49 yX5_ofTask ∈ lw_gd := gd_of 458 rfl rfl
set_option maxRecDepth 100000 in
theorem wd_499 : Cond.methodLink RL 53 yX5_due ∈ lw_gd := gd_of 499 rfl rfl
set_option maxRecDepth 100000 in
theorem wd_505 : Cond.methodLink RL 58 yX5_money ∈ lw_gd := gd_of 505 rfl rfl
set_option maxRecDepth 100000 in
theorem wd_509 : Cond.methodLink RL 63 yX5_at ∈ lw_gd := gd_of 509 rfl rfl
set_option maxRecDepth 100000 in
theorem wd_514 : Cond.methodLink RL 67 yX5_ofContract ∈ lw_gd := gd_of 514 rfl rfl
set_option maxRecDepth 100000 in
theorem wd_523 : Cond.methodLink RL 71 yX5_count ∈ lw_gd := gd_of 523 rfl rfl
set_option maxRecDepth 100000 in
theorem wd_551 : Cond.methodLink RL 75 yX5_distance ∈ lw_gd := gd_of 551 rfl rfl
set_option maxRecDepth 100000 in
theorem wd_556 : Cond.methodLink RL 79 yX5_wouldBuy ∈ lw_gd := gd_of 556 rfl rfl
set_option maxRecDepth 100000 in
theorem wd_568 : Cond.methodLink RL 83 yX5_leastMoney ∈ lw_gd := gd_of 568 rfl rfl
set_option maxRecDepth 100000 in
theorem wd_573 : Cond.methodLink RL 87 yX5_endIf ∈ lw_gd := gd_of 573 rfl rfl
set_option maxRecDepth 100000 in
theorem wd_578 : Cond.methodLink RL 91 yX5_bestPlace ∈ lw_gd := gd_of 578 rfl rfl
set_option maxRecDepth 100000 in
theorem wd_586 : Cond.methodLink RL 95 yX5_critical ∈ lw_gd := gd_of 586 rfl rfl
set_option maxRecDepth 100000 in
theorem wd_601 : Cond.methodLink RL 99 yX5_lateBehind ∈ lw_gd := gd_of 601 rfl rfl
set_option maxRecDepth 100000 in
theorem wd_606 : Cond.methodLink RL 105 yX5_put ∈ lw_gd := gd_of 606 rfl rfl
set_option maxRecDepth 100000 in
theorem wd_617 : Cond.methodLink RL 110 yX5_wipe ∈ lw_gd := gd_of 617 rfl rfl
set_option maxRecDepth 100000 in
theorem wd_625 : Cond.methodLink RL 114 yX5_fault ∈ lw_gd := gd_of 625 rfl rfl
set_option maxRecDepth 100000 in
theorem wd_677 : Cond.methodLink RL 118 yX5_carryOut ∈ lw_gd := gd_of 677 rfl rfl
set_option maxRecDepth 100000 in
theorem wd_692 : Cond.methodLink RL 122 yX5_undo ∈ lw_gd := gd_of 692 rfl rfl
set_option maxRecDepth 100000 in
theorem wd_700 : Cond.methodLink RL 126 yX5_save ∈ lw_gd := gd_of 700 rfl rfl
set_option maxRecDepth 100000 in
theorem wd_704 : Cond.methodLink RL 130 yX5_restore ∈ lw_gd := gd_of 704 rfl rfl
set_option maxRecDepth 100000 in
theorem wd_772 : Cond.methodLink RL 125 yX6_undo ∈ lw_gd := gd_of 772 rfl rfl
set_option maxRecDepth 100000 in
theorem wd_776 : Cond.methodLink RL 129 yX6_save ∈ lw_gd := gd_of 776 rfl rfl
set_option maxRecDepth 100000 in
theorem wd_783 : Cond.methodLink RL 133 yX6_restore ∈ lw_gd := gd_of 783 rfl rfl
set_option maxRecDepth 100000 in
theorem wd_791 : Cond.methodLink RL 17 yX6_set ∈ lw_gd := gd_of 791 rfl rfl
set_option maxRecDepth 100000 in
theorem wd_795 : Cond.methodLink RL 22 yX6_task ∈ lw_gd := gd_of 795 rfl rfl
set_option maxRecDepth 100000 in
theorem wd_808 : Cond.methodLink RL 26 yX6_duration ∈ lw_gd := gd_of 808 rfl rfl
set_option maxRecDepth 100000 in
theorem wd_812 : Cond.methodLink RL 30 yX6_move ∈ lw_gd := gd_of 812 rfl rfl
set_option maxRecDepth 100000 in
theorem wd_832 : Cond.methodLink RL 78 yX6_distance ∈ lw_gd := gd_of 832 rfl rfl
set_option maxRecDepth 100000 in
theorem wd_844 : Cond.methodLink RL 35 yX6_offer ∈ lw_gd := gd_of 844 rfl rfl
set_option maxRecDepth 100000 in
theorem wd_848 : Cond.methodLink RL 40 yX6_trade ∈ lw_gd := gd_of 848 rfl rfl
set_option maxRecDepth 100000 in
theorem wd_887 : Cond.methodLink RL 44 yX6_refund ∈ lw_gd := gd_of 887 rfl rfl
set_option maxRecDepth 100000 in
theorem wd_899 : Cond.methodLink RL 48 yX6_give ∈ lw_gd := gd_of 899 rfl rfl
set_option maxRecDepth 100000 in
theorem wd_903 : Cond.methodLink RL 52 yX6_ofTask ∈ lw_gd := gd_of 903 rfl rfl
set_option maxRecDepth 100000 in
theorem wd_927 : Cond.methodLink RL 57 yX6_due ∈ lw_gd := gd_of 927 rfl rfl
set_option maxRecDepth 100000 in
theorem wd_932 : Cond.methodLink RL 62 yX6_money ∈ lw_gd := gd_of 932 rfl rfl
set_option maxRecDepth 100000 in
theorem wd_936 : Cond.methodLink RL 66 yX6_at ∈ lw_gd := gd_of 936 rfl rfl
set_option maxRecDepth 100000 in
theorem wd_940 : Cond.methodLink RL 70 yX6_ofContract ∈ lw_gd := gd_of 940 rfl rfl
set_option maxRecDepth 100000 in
theorem wd_944 : Cond.methodLink RL 74 yX6_count ∈ lw_gd := gd_of 944 rfl rfl
set_option maxRecDepth 100000 in
theorem wd_964 : Cond.methodLink RL 82 yX6_wouldBuy ∈ lw_gd := gd_of 964 rfl rfl
set_option maxRecDepth 100000 in
theorem wd_976 : Cond.methodLink RL 86 yX6_leastMoney ∈ lw_gd := gd_of 976 rfl rfl
set_option maxRecDepth 100000 in
theorem wd_981 : Cond.methodLink RL 90 yX6_endIf ∈ lw_gd := gd_of 981 rfl rfl
set_option maxRecDepth 100000 in
theorem wd_985 : Cond.methodLink RL 94 yX6_bestPlace ∈ lw_gd := gd_of 985 rfl rfl
set_option maxRecDepth 100000 in
theorem wd_989 : Cond.methodLink RL 98 yX6_critical ∈ lw_gd := gd_of 989 rfl rfl
set_option maxRecDepth 100000 in
theorem wd_993 : Cond.methodLink RL 102 yX6_lateBehind ∈ lw_gd := gd_of 993 rfl rfl
set_option maxRecDepth 100000 in
theorem wd_997 : Cond.methodLink RL 109 yX6_put ∈ lw_gd := gd_of 997 rfl rfl
set_option maxRecDepth 100000 in
theorem wd_1002 : Cond.methodLink RL 113 yX6_wipe ∈ lw_gd := gd_of 1002 rfl rfl
set_option maxRecDepth 100000 in
theorem wd_1006 : Cond.methodLink RL 117 yX6_fault ∈ lw_gd := gd_of 1006 rfl rfl
set_option maxRecDepth 100000 in
theorem wd_1050 : Cond.methodLink RL 121 yX6_carryOut ∈ lw_gd := gd_of 1050 rfl rfl
set_option maxRecDepth 100000 in
theorem wd_1064 : Cond.constantLong RL 103 (4294967295 : Int64) ∈ lw_gd := gd_of 1064 rfl rfl
/-! THE LAW'S CASES: both objects are asked, their answers compared. LO_op: the pure function of it -/
theorem lg_cmp_self (x : Int64) : lg_cmp x x = 0 := by simp [lg_cmp]
theorem ite_some {α : Type} {p : Prop} {h : Decidable p} {x y : α} (q : (if p then some x else none) = some y) : p ∧ x = y := by
  by_cases hp : p
  · rw [if_pos hp] at q; exact ⟨hp, Option.some.inj q⟩
  · rw [if_neg hp] at q; cases q
theorem q_sld {E : WE} {own : String} {cc : ByteArray} {nL fr lo : Nat} (Cx : CX E own cc nL fr lo) {H : Heap} {locs : List Loc} {pc : Nat} {ls : Array Slot} {rest : List Value} {V : VT} {A : Nat → Prop} {H0 : Heap} {M : Mem} (hW : Wd V A H0 M (eS E) H locs) {b L : Nat} {xs : Nat → Int32} (hX : va_X b L xs (eS E) H0) (hbl : b < H0.size) (hbA : ¬ A b) {i : Int32} {j : Nat} (hi : i = nI j) (hj : j < L) (hL : L < 2 ^ 31) (hdg : decode cc pc = .ok (.iaload, 1)) (kk : Wq E H locs (pc + 1) ls (.int (xs j) :: rest)) : Wq E H locs pc ls (.int i :: .ref b :: rest) := by
  subst hi
  refine va_sld Cx.1 Cx.2.1 hX hbl hbA hW.2.2.2 (vp_in_nI hj hL) hdg ?_
  rw [nI_clamp (by omega)]
  exact kk
theorem q_slen {E : WE} {own : String} {cc : ByteArray} {nL fr lo : Nat} (Cx : CX E own cc nL fr lo) {H : Heap} {locs : List Loc} {pc : Nat} {ls : Array Slot} {rest : List Value} {V : VT} {A : Nat → Prop} {H0 : Heap} {M : Mem} (hW : Wd V A H0 M (eS E) H locs) {b L : Nat} {xs : Nat → Int32} (hX : va_X b L xs (eS E) H0) (hbl : b < H0.size) (hbA : ¬ A b) (hdg : decode cc pc = .ok (.arraylength, 1)) (kk : Wq E H locs (pc + 1) ls (.int (nI L) :: rest)) : Wq E H locs pc ls (.ref b :: rest) := va_slen Cx.1 Cx.2.1 hX hbl hbA hW.2.2.2 hdg kk
theorem dL_law_0 : decode cL_law 0 = .ok (.new 7, 3) := by decide +kernel
theorem dL_law_3 : decode cL_law 3 = .ok (.dup, 1) := by decide +kernel
theorem dL_law_4 : decode cL_law 4 = .ok (.invokespecial 9, 3) := by decide +kernel
theorem dL_law_7 : decode cL_law 7 = .ok (.astore_n 1, 1) := by decide +kernel
theorem dL_law_8 : decode cL_law 8 = .ok (.new 10, 3) := by decide +kernel
theorem dL_law_11 : decode cL_law 11 = .ok (.dup, 1) := by decide +kernel
theorem dL_law_12 : decode cL_law 12 = .ok (.invokespecial 12, 3) := by decide +kernel
theorem dL_law_15 : decode cL_law 15 = .ok (.astore_n 2, 1) := by decide +kernel
theorem dL_law_16 : decode cL_law 16 = .ok (.iconst 0, 1) := by decide +kernel
theorem dL_law_17 : decode cL_law 17 = .ok (.istore_n 3, 1) := by decide +kernel
theorem dL_law_18 : decode cL_law 18 = .ok (.iload_n 3, 1) := by decide +kernel
theorem dL_law_19 : decode cL_law 19 = .ok (.aload_n 0, 1) := by decide +kernel
theorem dL_law_20 : decode cL_law 20 = .ok (.arraylength, 1) := by decide +kernel
theorem dL_law_21 : decode cL_law 21 = .ok (.bipush 6, 2) := by decide +kernel
theorem dL_law_23 : decode cL_law 23 = .ok (.isub, 1) := by decide +kernel
theorem dL_law_24 : decode cL_law 24 = .ok (.if_icmp .gt 937, 3) := by decide +kernel
theorem dL_law_27 : decode cL_law 27 = .ok (.aload_n 0, 1) := by decide +kernel
theorem dL_law_28 : decode cL_law 28 = .ok (.iload_n 3, 1) := by decide +kernel
theorem dL_law_29 : decode cL_law 29 = .ok (.iaload, 1) := by decide +kernel
theorem dL_law_30 : decode cL_law 30 = .ok (.bipush 31, 2) := by decide +kernel
theorem dL_law_32 : decode cL_law 32 = .ok (.iand, 1) := by decide +kernel
theorem dL_law_33 : decode cL_law 33 = .ok (.tableswitch 922 0 27 #[127, 160, 223, 256, 289, 332, 345, 378, 421, 454, 478, 501, 534, 567, 590, 623, 656, 679, 722, 745, 758, 771, 824, 837, 850, 863, 876, 899], 127) := by decide +kernel
theorem dL_law_160 : decode cL_law 160 = .ok (.aload_n 1, 1) := by decide +kernel
theorem dL_law_161 : decode cL_law 161 = .ok (.aload_n 0, 1) := by decide +kernel
theorem dL_law_162 : decode cL_law 162 = .ok (.iload_n 3, 1) := by decide +kernel
theorem dL_law_163 : decode cL_law 163 = .ok (.iconst 1, 1) := by decide +kernel
theorem dL_law_164 : decode cL_law 164 = .ok (.iadd, 1) := by decide +kernel
theorem dL_law_165 : decode cL_law 165 = .ok (.iaload, 1) := by decide +kernel
theorem dL_law_166 : decode cL_law 166 = .ok (.aload_n 0, 1) := by decide +kernel
theorem dL_law_167 : decode cL_law 167 = .ok (.iload_n 3, 1) := by decide +kernel
theorem dL_law_168 : decode cL_law 168 = .ok (.iconst 2, 1) := by decide +kernel
theorem dL_law_169 : decode cL_law 169 = .ok (.iadd, 1) := by decide +kernel
theorem dL_law_170 : decode cL_law 170 = .ok (.iaload, 1) := by decide +kernel
theorem dL_law_171 : decode cL_law 171 = .ok (.invokevirtual 13, 3) := by decide +kernel
theorem dL_law_174 : decode cL_law 174 = .ok (.aload_n 2, 1) := by decide +kernel
theorem dL_law_175 : decode cL_law 175 = .ok (.aload_n 0, 1) := by decide +kernel
theorem dL_law_176 : decode cL_law 176 = .ok (.iload_n 3, 1) := by decide +kernel
theorem dL_law_177 : decode cL_law 177 = .ok (.iconst 1, 1) := by decide +kernel
theorem dL_law_178 : decode cL_law 178 = .ok (.iadd, 1) := by decide +kernel
theorem dL_law_179 : decode cL_law 179 = .ok (.iaload, 1) := by decide +kernel
theorem dL_law_180 : decode cL_law 180 = .ok (.aload_n 0, 1) := by decide +kernel
theorem dL_law_181 : decode cL_law 181 = .ok (.iload_n 3, 1) := by decide +kernel
theorem dL_law_182 : decode cL_law 182 = .ok (.iconst 2, 1) := by decide +kernel
theorem dL_law_183 : decode cL_law 183 = .ok (.iadd, 1) := by decide +kernel
theorem dL_law_184 : decode cL_law 184 = .ok (.iaload, 1) := by decide +kernel
theorem dL_law_185 : decode cL_law 185 = .ok (.invokevirtual 17, 3) := by decide +kernel
theorem dL_law_188 : decode cL_law 188 = .ok (.if_icmp .eq 767, 3) := by decide +kernel
theorem dL_law_191 : decode cL_law 191 = .ok (.iconst 0, 1) := by decide +kernel
theorem dL_law_192 : decode cL_law 192 = .ok (.ireturn, 1) := by decide +kernel
theorem dL_law_193 : decode cL_law 193 = .ok (.aload_n 1, 1) := by decide +kernel
theorem dL_law_194 : decode cL_law 194 = .ok (.aload_n 0, 1) := by decide +kernel
theorem dL_law_195 : decode cL_law 195 = .ok (.iload_n 3, 1) := by decide +kernel
theorem dL_law_196 : decode cL_law 196 = .ok (.iconst 1, 1) := by decide +kernel
theorem dL_law_197 : decode cL_law 197 = .ok (.iadd, 1) := by decide +kernel
theorem dL_law_198 : decode cL_law 198 = .ok (.iaload, 1) := by decide +kernel
theorem dL_law_199 : decode cL_law 199 = .ok (.aload_n 0, 1) := by decide +kernel
theorem dL_law_200 : decode cL_law 200 = .ok (.iload_n 3, 1) := by decide +kernel
theorem dL_law_201 : decode cL_law 201 = .ok (.iconst 2, 1) := by decide +kernel
theorem dL_law_202 : decode cL_law 202 = .ok (.iadd, 1) := by decide +kernel
theorem dL_law_203 : decode cL_law 203 = .ok (.iaload, 1) := by decide +kernel
theorem dL_law_204 : decode cL_law 204 = .ok (.aload_n 0, 1) := by decide +kernel
theorem dL_law_205 : decode cL_law 205 = .ok (.iload_n 3, 1) := by decide +kernel
theorem dL_law_206 : decode cL_law 206 = .ok (.iconst 3, 1) := by decide +kernel
theorem dL_law_207 : decode cL_law 207 = .ok (.iadd, 1) := by decide +kernel
theorem dL_law_208 : decode cL_law 208 = .ok (.iaload, 1) := by decide +kernel
theorem dL_law_209 : decode cL_law 209 = .ok (.aload_n 0, 1) := by decide +kernel
theorem dL_law_210 : decode cL_law 210 = .ok (.iload_n 3, 1) := by decide +kernel
theorem dL_law_211 : decode cL_law 211 = .ok (.iconst 4, 1) := by decide +kernel
theorem dL_law_212 : decode cL_law 212 = .ok (.iadd, 1) := by decide +kernel
theorem dL_law_213 : decode cL_law 213 = .ok (.iaload, 1) := by decide +kernel
theorem dL_law_214 : decode cL_law 214 = .ok (.aload_n 0, 1) := by decide +kernel
theorem dL_law_215 : decode cL_law 215 = .ok (.iload_n 3, 1) := by decide +kernel
theorem dL_law_216 : decode cL_law 216 = .ok (.iconst 5, 1) := by decide +kernel
theorem dL_law_217 : decode cL_law 217 = .ok (.iadd, 1) := by decide +kernel
theorem dL_law_218 : decode cL_law 218 = .ok (.iaload, 1) := by decide +kernel
theorem dL_law_219 : decode cL_law 219 = .ok (.invokevirtual 18, 3) := by decide +kernel
theorem dL_law_222 : decode cL_law 222 = .ok (.aload_n 2, 1) := by decide +kernel
theorem dL_law_223 : decode cL_law 223 = .ok (.aload_n 0, 1) := by decide +kernel
theorem dL_law_224 : decode cL_law 224 = .ok (.iload_n 3, 1) := by decide +kernel
theorem dL_law_225 : decode cL_law 225 = .ok (.iconst 1, 1) := by decide +kernel
theorem dL_law_226 : decode cL_law 226 = .ok (.iadd, 1) := by decide +kernel
theorem dL_law_227 : decode cL_law 227 = .ok (.iaload, 1) := by decide +kernel
theorem dL_law_228 : decode cL_law 228 = .ok (.aload_n 0, 1) := by decide +kernel
theorem dL_law_229 : decode cL_law 229 = .ok (.iload_n 3, 1) := by decide +kernel
theorem dL_law_230 : decode cL_law 230 = .ok (.iconst 2, 1) := by decide +kernel
theorem dL_law_231 : decode cL_law 231 = .ok (.iadd, 1) := by decide +kernel
theorem dL_law_232 : decode cL_law 232 = .ok (.iaload, 1) := by decide +kernel
theorem dL_law_233 : decode cL_law 233 = .ok (.aload_n 0, 1) := by decide +kernel
theorem dL_law_234 : decode cL_law 234 = .ok (.iload_n 3, 1) := by decide +kernel
theorem dL_law_235 : decode cL_law 235 = .ok (.iconst 3, 1) := by decide +kernel
theorem dL_law_236 : decode cL_law 236 = .ok (.iadd, 1) := by decide +kernel
theorem dL_law_237 : decode cL_law 237 = .ok (.iaload, 1) := by decide +kernel
theorem dL_law_238 : decode cL_law 238 = .ok (.aload_n 0, 1) := by decide +kernel
theorem dL_law_239 : decode cL_law 239 = .ok (.iload_n 3, 1) := by decide +kernel
theorem dL_law_240 : decode cL_law 240 = .ok (.iconst 4, 1) := by decide +kernel
theorem dL_law_241 : decode cL_law 241 = .ok (.iadd, 1) := by decide +kernel
theorem dL_law_242 : decode cL_law 242 = .ok (.iaload, 1) := by decide +kernel
theorem dL_law_243 : decode cL_law 243 = .ok (.aload_n 0, 1) := by decide +kernel
theorem dL_law_244 : decode cL_law 244 = .ok (.iload_n 3, 1) := by decide +kernel
theorem dL_law_245 : decode cL_law 245 = .ok (.iconst 5, 1) := by decide +kernel
theorem dL_law_246 : decode cL_law 246 = .ok (.iadd, 1) := by decide +kernel
theorem dL_law_247 : decode cL_law 247 = .ok (.iaload, 1) := by decide +kernel
theorem dL_law_248 : decode cL_law 248 = .ok (.invokevirtual 22, 3) := by decide +kernel
theorem dL_law_251 : decode cL_law 251 = .ok (.if_icmp .eq 704, 3) := by decide +kernel
theorem dL_law_254 : decode cL_law 254 = .ok (.iconst 0, 1) := by decide +kernel
theorem dL_law_255 : decode cL_law 255 = .ok (.ireturn, 1) := by decide +kernel
theorem dL_law_256 : decode cL_law 256 = .ok (.aload_n 1, 1) := by decide +kernel
theorem dL_law_257 : decode cL_law 257 = .ok (.aload_n 0, 1) := by decide +kernel
theorem dL_law_258 : decode cL_law 258 = .ok (.iload_n 3, 1) := by decide +kernel
theorem dL_law_259 : decode cL_law 259 = .ok (.iconst 1, 1) := by decide +kernel
theorem dL_law_260 : decode cL_law 260 = .ok (.iadd, 1) := by decide +kernel
theorem dL_law_261 : decode cL_law 261 = .ok (.iaload, 1) := by decide +kernel
theorem dL_law_262 : decode cL_law 262 = .ok (.aload_n 0, 1) := by decide +kernel
theorem dL_law_263 : decode cL_law 263 = .ok (.iload_n 3, 1) := by decide +kernel
theorem dL_law_264 : decode cL_law 264 = .ok (.iconst 2, 1) := by decide +kernel
theorem dL_law_265 : decode cL_law 265 = .ok (.iadd, 1) := by decide +kernel
theorem dL_law_266 : decode cL_law 266 = .ok (.iaload, 1) := by decide +kernel
theorem dL_law_267 : decode cL_law 267 = .ok (.invokevirtual 23, 3) := by decide +kernel
theorem dL_law_270 : decode cL_law 270 = .ok (.aload_n 2, 1) := by decide +kernel
theorem dL_law_271 : decode cL_law 271 = .ok (.aload_n 0, 1) := by decide +kernel
theorem dL_law_272 : decode cL_law 272 = .ok (.iload_n 3, 1) := by decide +kernel
theorem dL_law_273 : decode cL_law 273 = .ok (.iconst 1, 1) := by decide +kernel
theorem dL_law_274 : decode cL_law 274 = .ok (.iadd, 1) := by decide +kernel
theorem dL_law_275 : decode cL_law 275 = .ok (.iaload, 1) := by decide +kernel
theorem dL_law_276 : decode cL_law 276 = .ok (.aload_n 0, 1) := by decide +kernel
theorem dL_law_277 : decode cL_law 277 = .ok (.iload_n 3, 1) := by decide +kernel
theorem dL_law_278 : decode cL_law 278 = .ok (.iconst 2, 1) := by decide +kernel
theorem dL_law_279 : decode cL_law 279 = .ok (.iadd, 1) := by decide +kernel
theorem dL_law_280 : decode cL_law 280 = .ok (.iaload, 1) := by decide +kernel
theorem dL_law_281 : decode cL_law 281 = .ok (.invokevirtual 26, 3) := by decide +kernel
theorem dL_law_284 : decode cL_law 284 = .ok (.if_icmp .eq 671, 3) := by decide +kernel
theorem dL_law_287 : decode cL_law 287 = .ok (.iconst 0, 1) := by decide +kernel
theorem dL_law_288 : decode cL_law 288 = .ok (.ireturn, 1) := by decide +kernel
theorem dL_law_289 : decode cL_law 289 = .ok (.aload_n 1, 1) := by decide +kernel
theorem dL_law_290 : decode cL_law 290 = .ok (.aload_n 0, 1) := by decide +kernel
theorem dL_law_291 : decode cL_law 291 = .ok (.iload_n 3, 1) := by decide +kernel
theorem dL_law_292 : decode cL_law 292 = .ok (.iconst 1, 1) := by decide +kernel
theorem dL_law_293 : decode cL_law 293 = .ok (.iadd, 1) := by decide +kernel
theorem dL_law_294 : decode cL_law 294 = .ok (.iaload, 1) := by decide +kernel
theorem dL_law_295 : decode cL_law 295 = .ok (.aload_n 0, 1) := by decide +kernel
theorem dL_law_296 : decode cL_law 296 = .ok (.iload_n 3, 1) := by decide +kernel
theorem dL_law_297 : decode cL_law 297 = .ok (.iconst 2, 1) := by decide +kernel
theorem dL_law_298 : decode cL_law 298 = .ok (.iadd, 1) := by decide +kernel
theorem dL_law_299 : decode cL_law 299 = .ok (.iaload, 1) := by decide +kernel
theorem dL_law_300 : decode cL_law 300 = .ok (.invokevirtual 27, 3) := by decide +kernel
theorem dL_law_303 : decode cL_law 303 = .ok (.aload_n 2, 1) := by decide +kernel
theorem dL_law_304 : decode cL_law 304 = .ok (.aload_n 0, 1) := by decide +kernel
theorem dL_law_305 : decode cL_law 305 = .ok (.iload_n 3, 1) := by decide +kernel
theorem dL_law_306 : decode cL_law 306 = .ok (.iconst 1, 1) := by decide +kernel
theorem dL_law_307 : decode cL_law 307 = .ok (.iadd, 1) := by decide +kernel
theorem dL_law_308 : decode cL_law 308 = .ok (.iaload, 1) := by decide +kernel
theorem dL_law_309 : decode cL_law 309 = .ok (.aload_n 0, 1) := by decide +kernel
theorem dL_law_310 : decode cL_law 310 = .ok (.iload_n 3, 1) := by decide +kernel
theorem dL_law_311 : decode cL_law 311 = .ok (.iconst 2, 1) := by decide +kernel
theorem dL_law_312 : decode cL_law 312 = .ok (.iadd, 1) := by decide +kernel
theorem dL_law_313 : decode cL_law 313 = .ok (.iaload, 1) := by decide +kernel
theorem dL_law_314 : decode cL_law 314 = .ok (.invokevirtual 30, 3) := by decide +kernel
theorem dL_law_317 : decode cL_law 317 = .ok (.if_icmp .eq 638, 3) := by decide +kernel
theorem dL_law_320 : decode cL_law 320 = .ok (.iconst 0, 1) := by decide +kernel
theorem dL_law_321 : decode cL_law 321 = .ok (.ireturn, 1) := by decide +kernel
theorem dL_law_322 : decode cL_law 322 = .ok (.aload_n 1, 1) := by decide +kernel
theorem dL_law_323 : decode cL_law 323 = .ok (.aload_n 0, 1) := by decide +kernel
theorem dL_law_324 : decode cL_law 324 = .ok (.iload_n 3, 1) := by decide +kernel
theorem dL_law_325 : decode cL_law 325 = .ok (.iconst 1, 1) := by decide +kernel
theorem dL_law_326 : decode cL_law 326 = .ok (.iadd, 1) := by decide +kernel
theorem dL_law_327 : decode cL_law 327 = .ok (.iaload, 1) := by decide +kernel
theorem dL_law_328 : decode cL_law 328 = .ok (.aload_n 0, 1) := by decide +kernel
theorem dL_law_329 : decode cL_law 329 = .ok (.iload_n 3, 1) := by decide +kernel
theorem dL_law_330 : decode cL_law 330 = .ok (.iconst 2, 1) := by decide +kernel
theorem dL_law_331 : decode cL_law 331 = .ok (.iadd, 1) := by decide +kernel
theorem dL_law_332 : decode cL_law 332 = .ok (.iaload, 1) := by decide +kernel
theorem dL_law_333 : decode cL_law 333 = .ok (.aload_n 0, 1) := by decide +kernel
theorem dL_law_334 : decode cL_law 334 = .ok (.iload_n 3, 1) := by decide +kernel
theorem dL_law_335 : decode cL_law 335 = .ok (.iconst 3, 1) := by decide +kernel
theorem dL_law_336 : decode cL_law 336 = .ok (.iadd, 1) := by decide +kernel
theorem dL_law_337 : decode cL_law 337 = .ok (.iaload, 1) := by decide +kernel
theorem dL_law_338 : decode cL_law 338 = .ok (.invokevirtual 31, 3) := by decide +kernel
theorem dL_law_341 : decode cL_law 341 = .ok (.aload_n 2, 1) := by decide +kernel
theorem dL_law_342 : decode cL_law 342 = .ok (.aload_n 0, 1) := by decide +kernel
theorem dL_law_343 : decode cL_law 343 = .ok (.iload_n 3, 1) := by decide +kernel
theorem dL_law_344 : decode cL_law 344 = .ok (.iconst 1, 1) := by decide +kernel
theorem dL_law_345 : decode cL_law 345 = .ok (.iadd, 1) := by decide +kernel
theorem dL_law_346 : decode cL_law 346 = .ok (.iaload, 1) := by decide +kernel
theorem dL_law_347 : decode cL_law 347 = .ok (.aload_n 0, 1) := by decide +kernel
theorem dL_law_348 : decode cL_law 348 = .ok (.iload_n 3, 1) := by decide +kernel
theorem dL_law_349 : decode cL_law 349 = .ok (.iconst 2, 1) := by decide +kernel
theorem dL_law_350 : decode cL_law 350 = .ok (.iadd, 1) := by decide +kernel
theorem dL_law_351 : decode cL_law 351 = .ok (.iaload, 1) := by decide +kernel
theorem dL_law_352 : decode cL_law 352 = .ok (.aload_n 0, 1) := by decide +kernel
theorem dL_law_353 : decode cL_law 353 = .ok (.iload_n 3, 1) := by decide +kernel
theorem dL_law_354 : decode cL_law 354 = .ok (.iconst 3, 1) := by decide +kernel
theorem dL_law_355 : decode cL_law 355 = .ok (.iadd, 1) := by decide +kernel
theorem dL_law_356 : decode cL_law 356 = .ok (.iaload, 1) := by decide +kernel
theorem dL_law_357 : decode cL_law 357 = .ok (.invokevirtual 35, 3) := by decide +kernel
theorem dL_law_360 : decode cL_law 360 = .ok (.if_icmp .eq 595, 3) := by decide +kernel
theorem dL_law_363 : decode cL_law 363 = .ok (.iconst 0, 1) := by decide +kernel
theorem dL_law_364 : decode cL_law 364 = .ok (.ireturn, 1) := by decide +kernel
theorem dL_law_365 : decode cL_law 365 = .ok (.aload_n 1, 1) := by decide +kernel
theorem dL_law_366 : decode cL_law 366 = .ok (.invokevirtual 36, 3) := by decide +kernel
theorem dL_law_369 : decode cL_law 369 = .ok (.aload_n 2, 1) := by decide +kernel
theorem dL_law_370 : decode cL_law 370 = .ok (.invokevirtual 40, 3) := by decide +kernel
theorem dL_law_373 : decode cL_law 373 = .ok (.if_icmp .eq 582, 3) := by decide +kernel
theorem dL_law_376 : decode cL_law 376 = .ok (.iconst 0, 1) := by decide +kernel
theorem dL_law_377 : decode cL_law 377 = .ok (.ireturn, 1) := by decide +kernel
theorem dL_law_378 : decode cL_law 378 = .ok (.aload_n 1, 1) := by decide +kernel
theorem dL_law_379 : decode cL_law 379 = .ok (.aload_n 0, 1) := by decide +kernel
theorem dL_law_380 : decode cL_law 380 = .ok (.iload_n 3, 1) := by decide +kernel
theorem dL_law_381 : decode cL_law 381 = .ok (.iconst 1, 1) := by decide +kernel
theorem dL_law_382 : decode cL_law 382 = .ok (.iadd, 1) := by decide +kernel
theorem dL_law_383 : decode cL_law 383 = .ok (.iaload, 1) := by decide +kernel
theorem dL_law_384 : decode cL_law 384 = .ok (.aload_n 0, 1) := by decide +kernel
theorem dL_law_385 : decode cL_law 385 = .ok (.iload_n 3, 1) := by decide +kernel
theorem dL_law_386 : decode cL_law 386 = .ok (.iconst 2, 1) := by decide +kernel
theorem dL_law_387 : decode cL_law 387 = .ok (.iadd, 1) := by decide +kernel
theorem dL_law_388 : decode cL_law 388 = .ok (.iaload, 1) := by decide +kernel
theorem dL_law_389 : decode cL_law 389 = .ok (.invokevirtual 41, 3) := by decide +kernel
theorem dL_law_392 : decode cL_law 392 = .ok (.aload_n 2, 1) := by decide +kernel
theorem dL_law_393 : decode cL_law 393 = .ok (.aload_n 0, 1) := by decide +kernel
theorem dL_law_394 : decode cL_law 394 = .ok (.iload_n 3, 1) := by decide +kernel
theorem dL_law_395 : decode cL_law 395 = .ok (.iconst 1, 1) := by decide +kernel
theorem dL_law_396 : decode cL_law 396 = .ok (.iadd, 1) := by decide +kernel
theorem dL_law_397 : decode cL_law 397 = .ok (.iaload, 1) := by decide +kernel
theorem dL_law_398 : decode cL_law 398 = .ok (.aload_n 0, 1) := by decide +kernel
theorem dL_law_399 : decode cL_law 399 = .ok (.iload_n 3, 1) := by decide +kernel
theorem dL_law_400 : decode cL_law 400 = .ok (.iconst 2, 1) := by decide +kernel
theorem dL_law_401 : decode cL_law 401 = .ok (.iadd, 1) := by decide +kernel
theorem dL_law_402 : decode cL_law 402 = .ok (.iaload, 1) := by decide +kernel
theorem dL_law_403 : decode cL_law 403 = .ok (.invokevirtual 44, 3) := by decide +kernel
theorem dL_law_406 : decode cL_law 406 = .ok (.if_icmp .eq 549, 3) := by decide +kernel
theorem dL_law_409 : decode cL_law 409 = .ok (.iconst 0, 1) := by decide +kernel
theorem dL_law_410 : decode cL_law 410 = .ok (.ireturn, 1) := by decide +kernel
theorem dL_law_411 : decode cL_law 411 = .ok (.aload_n 1, 1) := by decide +kernel
theorem dL_law_412 : decode cL_law 412 = .ok (.aload_n 0, 1) := by decide +kernel
theorem dL_law_413 : decode cL_law 413 = .ok (.iload_n 3, 1) := by decide +kernel
theorem dL_law_414 : decode cL_law 414 = .ok (.iconst 1, 1) := by decide +kernel
theorem dL_law_415 : decode cL_law 415 = .ok (.iadd, 1) := by decide +kernel
theorem dL_law_416 : decode cL_law 416 = .ok (.iaload, 1) := by decide +kernel
theorem dL_law_417 : decode cL_law 417 = .ok (.aload_n 0, 1) := by decide +kernel
theorem dL_law_418 : decode cL_law 418 = .ok (.iload_n 3, 1) := by decide +kernel
theorem dL_law_419 : decode cL_law 419 = .ok (.iconst 2, 1) := by decide +kernel
theorem dL_law_420 : decode cL_law 420 = .ok (.iadd, 1) := by decide +kernel
theorem dL_law_421 : decode cL_law 421 = .ok (.iaload, 1) := by decide +kernel
theorem dL_law_422 : decode cL_law 422 = .ok (.aload_n 0, 1) := by decide +kernel
theorem dL_law_423 : decode cL_law 423 = .ok (.iload_n 3, 1) := by decide +kernel
theorem dL_law_424 : decode cL_law 424 = .ok (.iconst 3, 1) := by decide +kernel
theorem dL_law_425 : decode cL_law 425 = .ok (.iadd, 1) := by decide +kernel
theorem dL_law_426 : decode cL_law 426 = .ok (.iaload, 1) := by decide +kernel
theorem dL_law_427 : decode cL_law 427 = .ok (.invokevirtual 45, 3) := by decide +kernel
theorem dL_law_430 : decode cL_law 430 = .ok (.aload_n 2, 1) := by decide +kernel
theorem dL_law_431 : decode cL_law 431 = .ok (.aload_n 0, 1) := by decide +kernel
theorem dL_law_432 : decode cL_law 432 = .ok (.iload_n 3, 1) := by decide +kernel
theorem dL_law_433 : decode cL_law 433 = .ok (.iconst 1, 1) := by decide +kernel
theorem dL_law_434 : decode cL_law 434 = .ok (.iadd, 1) := by decide +kernel
theorem dL_law_435 : decode cL_law 435 = .ok (.iaload, 1) := by decide +kernel
theorem dL_law_436 : decode cL_law 436 = .ok (.aload_n 0, 1) := by decide +kernel
theorem dL_law_437 : decode cL_law 437 = .ok (.iload_n 3, 1) := by decide +kernel
theorem dL_law_438 : decode cL_law 438 = .ok (.iconst 2, 1) := by decide +kernel
theorem dL_law_439 : decode cL_law 439 = .ok (.iadd, 1) := by decide +kernel
theorem dL_law_440 : decode cL_law 440 = .ok (.iaload, 1) := by decide +kernel
theorem dL_law_441 : decode cL_law 441 = .ok (.aload_n 0, 1) := by decide +kernel
theorem dL_law_442 : decode cL_law 442 = .ok (.iload_n 3, 1) := by decide +kernel
theorem dL_law_443 : decode cL_law 443 = .ok (.iconst 3, 1) := by decide +kernel
theorem dL_law_444 : decode cL_law 444 = .ok (.iadd, 1) := by decide +kernel
theorem dL_law_445 : decode cL_law 445 = .ok (.iaload, 1) := by decide +kernel
theorem dL_law_446 : decode cL_law 446 = .ok (.invokevirtual 48, 3) := by decide +kernel
theorem dL_law_449 : decode cL_law 449 = .ok (.if_icmp .eq 506, 3) := by decide +kernel
theorem dL_law_452 : decode cL_law 452 = .ok (.iconst 0, 1) := by decide +kernel
theorem dL_law_453 : decode cL_law 453 = .ok (.ireturn, 1) := by decide +kernel
theorem dL_law_454 : decode cL_law 454 = .ok (.aload_n 1, 1) := by decide +kernel
theorem dL_law_455 : decode cL_law 455 = .ok (.aload_n 0, 1) := by decide +kernel
theorem dL_law_456 : decode cL_law 456 = .ok (.iload_n 3, 1) := by decide +kernel
theorem dL_law_457 : decode cL_law 457 = .ok (.iconst 1, 1) := by decide +kernel
theorem dL_law_458 : decode cL_law 458 = .ok (.iadd, 1) := by decide +kernel
theorem dL_law_459 : decode cL_law 459 = .ok (.iaload, 1) := by decide +kernel
theorem dL_law_460 : decode cL_law 460 = .ok (.aload_n 0, 1) := by decide +kernel
theorem dL_law_461 : decode cL_law 461 = .ok (.iload_n 3, 1) := by decide +kernel
theorem dL_law_462 : decode cL_law 462 = .ok (.iconst 2, 1) := by decide +kernel
theorem dL_law_463 : decode cL_law 463 = .ok (.iadd, 1) := by decide +kernel
theorem dL_law_464 : decode cL_law 464 = .ok (.iaload, 1) := by decide +kernel
theorem dL_law_465 : decode cL_law 465 = .ok (.invokevirtual 49, 3) := by decide +kernel
theorem dL_law_468 : decode cL_law 468 = .ok (.aload_n 2, 1) := by decide +kernel
theorem dL_law_469 : decode cL_law 469 = .ok (.aload_n 0, 1) := by decide +kernel
theorem dL_law_470 : decode cL_law 470 = .ok (.iload_n 3, 1) := by decide +kernel
theorem dL_law_471 : decode cL_law 471 = .ok (.iconst 1, 1) := by decide +kernel
theorem dL_law_472 : decode cL_law 472 = .ok (.iadd, 1) := by decide +kernel
theorem dL_law_473 : decode cL_law 473 = .ok (.iaload, 1) := by decide +kernel
theorem dL_law_474 : decode cL_law 474 = .ok (.aload_n 0, 1) := by decide +kernel
theorem dL_law_475 : decode cL_law 475 = .ok (.iload_n 3, 1) := by decide +kernel
theorem dL_law_476 : decode cL_law 476 = .ok (.iconst 2, 1) := by decide +kernel
theorem dL_law_477 : decode cL_law 477 = .ok (.iadd, 1) := by decide +kernel
theorem dL_law_478 : decode cL_law 478 = .ok (.iaload, 1) := by decide +kernel
theorem dL_law_479 : decode cL_law 479 = .ok (.invokevirtual 52, 3) := by decide +kernel
theorem dL_law_482 : decode cL_law 482 = .ok (.if_icmp .eq 473, 3) := by decide +kernel
theorem dL_law_485 : decode cL_law 485 = .ok (.iconst 0, 1) := by decide +kernel
theorem dL_law_486 : decode cL_law 486 = .ok (.ireturn, 1) := by decide +kernel
theorem dL_law_487 : decode cL_law 487 = .ok (.aload_n 1, 1) := by decide +kernel
theorem dL_law_488 : decode cL_law 488 = .ok (.aload_n 0, 1) := by decide +kernel
theorem dL_law_489 : decode cL_law 489 = .ok (.iload_n 3, 1) := by decide +kernel
theorem dL_law_490 : decode cL_law 490 = .ok (.iconst 1, 1) := by decide +kernel
theorem dL_law_491 : decode cL_law 491 = .ok (.iadd, 1) := by decide +kernel
theorem dL_law_492 : decode cL_law 492 = .ok (.iaload, 1) := by decide +kernel
theorem dL_law_493 : decode cL_law 493 = .ok (.invokevirtual 53, 3) := by decide +kernel
theorem dL_law_496 : decode cL_law 496 = .ok (.aload_n 2, 1) := by decide +kernel
theorem dL_law_497 : decode cL_law 497 = .ok (.aload_n 0, 1) := by decide +kernel
theorem dL_law_498 : decode cL_law 498 = .ok (.iload_n 3, 1) := by decide +kernel
theorem dL_law_499 : decode cL_law 499 = .ok (.iconst 1, 1) := by decide +kernel
theorem dL_law_500 : decode cL_law 500 = .ok (.iadd, 1) := by decide +kernel
theorem dL_law_501 : decode cL_law 501 = .ok (.iaload, 1) := by decide +kernel
theorem dL_law_502 : decode cL_law 502 = .ok (.invokevirtual 57, 3) := by decide +kernel
theorem dL_law_505 : decode cL_law 505 = .ok (.lcmp, 1) := by decide +kernel
theorem dL_law_506 : decode cL_law 506 = .ok (.ifCond .eq 449, 3) := by decide +kernel
theorem dL_law_509 : decode cL_law 509 = .ok (.iconst 0, 1) := by decide +kernel
theorem dL_law_510 : decode cL_law 510 = .ok (.ireturn, 1) := by decide +kernel
theorem dL_law_511 : decode cL_law 511 = .ok (.aload_n 1, 1) := by decide +kernel
theorem dL_law_512 : decode cL_law 512 = .ok (.aload_n 0, 1) := by decide +kernel
theorem dL_law_513 : decode cL_law 513 = .ok (.iload_n 3, 1) := by decide +kernel
theorem dL_law_514 : decode cL_law 514 = .ok (.iconst 1, 1) := by decide +kernel
theorem dL_law_515 : decode cL_law 515 = .ok (.iadd, 1) := by decide +kernel
theorem dL_law_516 : decode cL_law 516 = .ok (.iaload, 1) := by decide +kernel
theorem dL_law_517 : decode cL_law 517 = .ok (.invokevirtual 58, 3) := by decide +kernel
theorem dL_law_520 : decode cL_law 520 = .ok (.aload_n 2, 1) := by decide +kernel
theorem dL_law_521 : decode cL_law 521 = .ok (.aload_n 0, 1) := by decide +kernel
theorem dL_law_522 : decode cL_law 522 = .ok (.iload_n 3, 1) := by decide +kernel
theorem dL_law_523 : decode cL_law 523 = .ok (.iconst 1, 1) := by decide +kernel
theorem dL_law_524 : decode cL_law 524 = .ok (.iadd, 1) := by decide +kernel
theorem dL_law_525 : decode cL_law 525 = .ok (.iaload, 1) := by decide +kernel
theorem dL_law_526 : decode cL_law 526 = .ok (.invokevirtual 62, 3) := by decide +kernel
theorem dL_law_529 : decode cL_law 529 = .ok (.if_icmp .eq 426, 3) := by decide +kernel
theorem dL_law_532 : decode cL_law 532 = .ok (.iconst 0, 1) := by decide +kernel
theorem dL_law_533 : decode cL_law 533 = .ok (.ireturn, 1) := by decide +kernel
theorem dL_law_534 : decode cL_law 534 = .ok (.aload_n 1, 1) := by decide +kernel
theorem dL_law_535 : decode cL_law 535 = .ok (.aload_n 0, 1) := by decide +kernel
theorem dL_law_536 : decode cL_law 536 = .ok (.iload_n 3, 1) := by decide +kernel
theorem dL_law_537 : decode cL_law 537 = .ok (.iconst 1, 1) := by decide +kernel
theorem dL_law_538 : decode cL_law 538 = .ok (.iadd, 1) := by decide +kernel
theorem dL_law_539 : decode cL_law 539 = .ok (.iaload, 1) := by decide +kernel
theorem dL_law_540 : decode cL_law 540 = .ok (.aload_n 0, 1) := by decide +kernel
theorem dL_law_541 : decode cL_law 541 = .ok (.iload_n 3, 1) := by decide +kernel
theorem dL_law_542 : decode cL_law 542 = .ok (.iconst 2, 1) := by decide +kernel
theorem dL_law_543 : decode cL_law 543 = .ok (.iadd, 1) := by decide +kernel
theorem dL_law_544 : decode cL_law 544 = .ok (.iaload, 1) := by decide +kernel
theorem dL_law_545 : decode cL_law 545 = .ok (.invokevirtual 63, 3) := by decide +kernel
theorem dL_law_548 : decode cL_law 548 = .ok (.aload_n 2, 1) := by decide +kernel
theorem dL_law_549 : decode cL_law 549 = .ok (.aload_n 0, 1) := by decide +kernel
theorem dL_law_550 : decode cL_law 550 = .ok (.iload_n 3, 1) := by decide +kernel
theorem dL_law_551 : decode cL_law 551 = .ok (.iconst 1, 1) := by decide +kernel
theorem dL_law_552 : decode cL_law 552 = .ok (.iadd, 1) := by decide +kernel
theorem dL_law_553 : decode cL_law 553 = .ok (.iaload, 1) := by decide +kernel
theorem dL_law_554 : decode cL_law 554 = .ok (.aload_n 0, 1) := by decide +kernel
theorem dL_law_555 : decode cL_law 555 = .ok (.iload_n 3, 1) := by decide +kernel
theorem dL_law_556 : decode cL_law 556 = .ok (.iconst 2, 1) := by decide +kernel
theorem dL_law_557 : decode cL_law 557 = .ok (.iadd, 1) := by decide +kernel
theorem dL_law_558 : decode cL_law 558 = .ok (.iaload, 1) := by decide +kernel
theorem dL_law_559 : decode cL_law 559 = .ok (.invokevirtual 66, 3) := by decide +kernel
theorem dL_law_562 : decode cL_law 562 = .ok (.if_icmp .eq 393, 3) := by decide +kernel
theorem dL_law_565 : decode cL_law 565 = .ok (.iconst 0, 1) := by decide +kernel
theorem dL_law_566 : decode cL_law 566 = .ok (.ireturn, 1) := by decide +kernel
theorem dL_law_567 : decode cL_law 567 = .ok (.aload_n 1, 1) := by decide +kernel
theorem dL_law_568 : decode cL_law 568 = .ok (.aload_n 0, 1) := by decide +kernel
theorem dL_law_569 : decode cL_law 569 = .ok (.iload_n 3, 1) := by decide +kernel
theorem dL_law_570 : decode cL_law 570 = .ok (.iconst 1, 1) := by decide +kernel
theorem dL_law_571 : decode cL_law 571 = .ok (.iadd, 1) := by decide +kernel
theorem dL_law_572 : decode cL_law 572 = .ok (.iaload, 1) := by decide +kernel
theorem dL_law_573 : decode cL_law 573 = .ok (.aload_n 0, 1) := by decide +kernel
theorem dL_law_574 : decode cL_law 574 = .ok (.iload_n 3, 1) := by decide +kernel
theorem dL_law_575 : decode cL_law 575 = .ok (.iconst 2, 1) := by decide +kernel
theorem dL_law_576 : decode cL_law 576 = .ok (.iadd, 1) := by decide +kernel
theorem dL_law_577 : decode cL_law 577 = .ok (.iaload, 1) := by decide +kernel
theorem dL_law_578 : decode cL_law 578 = .ok (.invokevirtual 67, 3) := by decide +kernel
theorem dL_law_581 : decode cL_law 581 = .ok (.aload_n 2, 1) := by decide +kernel
theorem dL_law_582 : decode cL_law 582 = .ok (.aload_n 0, 1) := by decide +kernel
theorem dL_law_583 : decode cL_law 583 = .ok (.iload_n 3, 1) := by decide +kernel
theorem dL_law_584 : decode cL_law 584 = .ok (.iconst 1, 1) := by decide +kernel
theorem dL_law_585 : decode cL_law 585 = .ok (.iadd, 1) := by decide +kernel
theorem dL_law_586 : decode cL_law 586 = .ok (.iaload, 1) := by decide +kernel
theorem dL_law_587 : decode cL_law 587 = .ok (.aload_n 0, 1) := by decide +kernel
theorem dL_law_588 : decode cL_law 588 = .ok (.iload_n 3, 1) := by decide +kernel
theorem dL_law_589 : decode cL_law 589 = .ok (.iconst 2, 1) := by decide +kernel
theorem dL_law_590 : decode cL_law 590 = .ok (.iadd, 1) := by decide +kernel
theorem dL_law_591 : decode cL_law 591 = .ok (.iaload, 1) := by decide +kernel
theorem dL_law_592 : decode cL_law 592 = .ok (.invokevirtual 70, 3) := by decide +kernel
theorem dL_law_595 : decode cL_law 595 = .ok (.if_icmp .eq 360, 3) := by decide +kernel
theorem dL_law_598 : decode cL_law 598 = .ok (.iconst 0, 1) := by decide +kernel
theorem dL_law_599 : decode cL_law 599 = .ok (.ireturn, 1) := by decide +kernel
theorem dL_law_600 : decode cL_law 600 = .ok (.aload_n 1, 1) := by decide +kernel
theorem dL_law_601 : decode cL_law 601 = .ok (.aload_n 0, 1) := by decide +kernel
theorem dL_law_602 : decode cL_law 602 = .ok (.iload_n 3, 1) := by decide +kernel
theorem dL_law_603 : decode cL_law 603 = .ok (.iconst 1, 1) := by decide +kernel
theorem dL_law_604 : decode cL_law 604 = .ok (.iadd, 1) := by decide +kernel
theorem dL_law_605 : decode cL_law 605 = .ok (.iaload, 1) := by decide +kernel
theorem dL_law_606 : decode cL_law 606 = .ok (.invokevirtual 71, 3) := by decide +kernel
theorem dL_law_609 : decode cL_law 609 = .ok (.aload_n 2, 1) := by decide +kernel
theorem dL_law_610 : decode cL_law 610 = .ok (.aload_n 0, 1) := by decide +kernel
theorem dL_law_611 : decode cL_law 611 = .ok (.iload_n 3, 1) := by decide +kernel
theorem dL_law_612 : decode cL_law 612 = .ok (.iconst 1, 1) := by decide +kernel
theorem dL_law_613 : decode cL_law 613 = .ok (.iadd, 1) := by decide +kernel
theorem dL_law_614 : decode cL_law 614 = .ok (.iaload, 1) := by decide +kernel
theorem dL_law_615 : decode cL_law 615 = .ok (.invokevirtual 74, 3) := by decide +kernel
theorem dL_law_618 : decode cL_law 618 = .ok (.if_icmp .eq 337, 3) := by decide +kernel
theorem dL_law_621 : decode cL_law 621 = .ok (.iconst 0, 1) := by decide +kernel
theorem dL_law_622 : decode cL_law 622 = .ok (.ireturn, 1) := by decide +kernel
theorem dL_law_623 : decode cL_law 623 = .ok (.aload_n 1, 1) := by decide +kernel
theorem dL_law_624 : decode cL_law 624 = .ok (.aload_n 0, 1) := by decide +kernel
theorem dL_law_625 : decode cL_law 625 = .ok (.iload_n 3, 1) := by decide +kernel
theorem dL_law_626 : decode cL_law 626 = .ok (.iconst 1, 1) := by decide +kernel
theorem dL_law_627 : decode cL_law 627 = .ok (.iadd, 1) := by decide +kernel
theorem dL_law_628 : decode cL_law 628 = .ok (.iaload, 1) := by decide +kernel
theorem dL_law_629 : decode cL_law 629 = .ok (.aload_n 0, 1) := by decide +kernel
theorem dL_law_630 : decode cL_law 630 = .ok (.iload_n 3, 1) := by decide +kernel
theorem dL_law_631 : decode cL_law 631 = .ok (.iconst 2, 1) := by decide +kernel
theorem dL_law_632 : decode cL_law 632 = .ok (.iadd, 1) := by decide +kernel
theorem dL_law_633 : decode cL_law 633 = .ok (.iaload, 1) := by decide +kernel
theorem dL_law_634 : decode cL_law 634 = .ok (.invokevirtual 75, 3) := by decide +kernel
theorem dL_law_637 : decode cL_law 637 = .ok (.aload_n 2, 1) := by decide +kernel
theorem dL_law_638 : decode cL_law 638 = .ok (.aload_n 0, 1) := by decide +kernel
theorem dL_law_639 : decode cL_law 639 = .ok (.iload_n 3, 1) := by decide +kernel
theorem dL_law_640 : decode cL_law 640 = .ok (.iconst 1, 1) := by decide +kernel
theorem dL_law_641 : decode cL_law 641 = .ok (.iadd, 1) := by decide +kernel
theorem dL_law_642 : decode cL_law 642 = .ok (.iaload, 1) := by decide +kernel
theorem dL_law_643 : decode cL_law 643 = .ok (.aload_n 0, 1) := by decide +kernel
theorem dL_law_644 : decode cL_law 644 = .ok (.iload_n 3, 1) := by decide +kernel
theorem dL_law_645 : decode cL_law 645 = .ok (.iconst 2, 1) := by decide +kernel
theorem dL_law_646 : decode cL_law 646 = .ok (.iadd, 1) := by decide +kernel
theorem dL_law_647 : decode cL_law 647 = .ok (.iaload, 1) := by decide +kernel
theorem dL_law_648 : decode cL_law 648 = .ok (.invokevirtual 78, 3) := by decide +kernel
theorem dL_law_651 : decode cL_law 651 = .ok (.if_icmp .eq 304, 3) := by decide +kernel
theorem dL_law_654 : decode cL_law 654 = .ok (.iconst 0, 1) := by decide +kernel
theorem dL_law_655 : decode cL_law 655 = .ok (.ireturn, 1) := by decide +kernel
theorem dL_law_656 : decode cL_law 656 = .ok (.aload_n 1, 1) := by decide +kernel
theorem dL_law_657 : decode cL_law 657 = .ok (.aload_n 0, 1) := by decide +kernel
theorem dL_law_658 : decode cL_law 658 = .ok (.iload_n 3, 1) := by decide +kernel
theorem dL_law_659 : decode cL_law 659 = .ok (.iconst 1, 1) := by decide +kernel
theorem dL_law_660 : decode cL_law 660 = .ok (.iadd, 1) := by decide +kernel
theorem dL_law_661 : decode cL_law 661 = .ok (.iaload, 1) := by decide +kernel
theorem dL_law_662 : decode cL_law 662 = .ok (.aload_n 0, 1) := by decide +kernel
theorem dL_law_663 : decode cL_law 663 = .ok (.iload_n 3, 1) := by decide +kernel
theorem dL_law_664 : decode cL_law 664 = .ok (.iconst 2, 1) := by decide +kernel
theorem dL_law_665 : decode cL_law 665 = .ok (.iadd, 1) := by decide +kernel
theorem dL_law_666 : decode cL_law 666 = .ok (.iaload, 1) := by decide +kernel
theorem dL_law_667 : decode cL_law 667 = .ok (.invokevirtual 79, 3) := by decide +kernel
theorem dL_law_670 : decode cL_law 670 = .ok (.aload_n 2, 1) := by decide +kernel
theorem dL_law_671 : decode cL_law 671 = .ok (.aload_n 0, 1) := by decide +kernel
theorem dL_law_672 : decode cL_law 672 = .ok (.iload_n 3, 1) := by decide +kernel
theorem dL_law_673 : decode cL_law 673 = .ok (.iconst 1, 1) := by decide +kernel
theorem dL_law_674 : decode cL_law 674 = .ok (.iadd, 1) := by decide +kernel
theorem dL_law_675 : decode cL_law 675 = .ok (.iaload, 1) := by decide +kernel
theorem dL_law_676 : decode cL_law 676 = .ok (.aload_n 0, 1) := by decide +kernel
theorem dL_law_677 : decode cL_law 677 = .ok (.iload_n 3, 1) := by decide +kernel
theorem dL_law_678 : decode cL_law 678 = .ok (.iconst 2, 1) := by decide +kernel
theorem dL_law_679 : decode cL_law 679 = .ok (.iadd, 1) := by decide +kernel
theorem dL_law_680 : decode cL_law 680 = .ok (.iaload, 1) := by decide +kernel
theorem dL_law_681 : decode cL_law 681 = .ok (.invokevirtual 82, 3) := by decide +kernel
theorem dL_law_684 : decode cL_law 684 = .ok (.if_icmp .eq 271, 3) := by decide +kernel
theorem dL_law_687 : decode cL_law 687 = .ok (.iconst 0, 1) := by decide +kernel
theorem dL_law_688 : decode cL_law 688 = .ok (.ireturn, 1) := by decide +kernel
theorem dL_law_689 : decode cL_law 689 = .ok (.aload_n 1, 1) := by decide +kernel
theorem dL_law_690 : decode cL_law 690 = .ok (.aload_n 0, 1) := by decide +kernel
theorem dL_law_691 : decode cL_law 691 = .ok (.iload_n 3, 1) := by decide +kernel
theorem dL_law_692 : decode cL_law 692 = .ok (.iconst 1, 1) := by decide +kernel
theorem dL_law_693 : decode cL_law 693 = .ok (.iadd, 1) := by decide +kernel
theorem dL_law_694 : decode cL_law 694 = .ok (.iaload, 1) := by decide +kernel
theorem dL_law_695 : decode cL_law 695 = .ok (.invokevirtual 83, 3) := by decide +kernel
theorem dL_law_698 : decode cL_law 698 = .ok (.aload_n 2, 1) := by decide +kernel
theorem dL_law_699 : decode cL_law 699 = .ok (.aload_n 0, 1) := by decide +kernel
theorem dL_law_700 : decode cL_law 700 = .ok (.iload_n 3, 1) := by decide +kernel
theorem dL_law_701 : decode cL_law 701 = .ok (.iconst 1, 1) := by decide +kernel
theorem dL_law_702 : decode cL_law 702 = .ok (.iadd, 1) := by decide +kernel
theorem dL_law_703 : decode cL_law 703 = .ok (.iaload, 1) := by decide +kernel
theorem dL_law_704 : decode cL_law 704 = .ok (.invokevirtual 86, 3) := by decide +kernel
theorem dL_law_707 : decode cL_law 707 = .ok (.if_icmp .eq 248, 3) := by decide +kernel
theorem dL_law_710 : decode cL_law 710 = .ok (.iconst 0, 1) := by decide +kernel
theorem dL_law_711 : decode cL_law 711 = .ok (.ireturn, 1) := by decide +kernel
theorem dL_law_712 : decode cL_law 712 = .ok (.aload_n 1, 1) := by decide +kernel
theorem dL_law_713 : decode cL_law 713 = .ok (.aload_n 0, 1) := by decide +kernel
theorem dL_law_714 : decode cL_law 714 = .ok (.iload_n 3, 1) := by decide +kernel
theorem dL_law_715 : decode cL_law 715 = .ok (.iconst 1, 1) := by decide +kernel
theorem dL_law_716 : decode cL_law 716 = .ok (.iadd, 1) := by decide +kernel
theorem dL_law_717 : decode cL_law 717 = .ok (.iaload, 1) := by decide +kernel
theorem dL_law_718 : decode cL_law 718 = .ok (.aload_n 0, 1) := by decide +kernel
theorem dL_law_719 : decode cL_law 719 = .ok (.iload_n 3, 1) := by decide +kernel
theorem dL_law_720 : decode cL_law 720 = .ok (.iconst 2, 1) := by decide +kernel
theorem dL_law_721 : decode cL_law 721 = .ok (.iadd, 1) := by decide +kernel
theorem dL_law_722 : decode cL_law 722 = .ok (.iaload, 1) := by decide +kernel
theorem dL_law_723 : decode cL_law 723 = .ok (.aload_n 0, 1) := by decide +kernel
theorem dL_law_724 : decode cL_law 724 = .ok (.iload_n 3, 1) := by decide +kernel
theorem dL_law_725 : decode cL_law 725 = .ok (.iconst 3, 1) := by decide +kernel
theorem dL_law_726 : decode cL_law 726 = .ok (.iadd, 1) := by decide +kernel
theorem dL_law_727 : decode cL_law 727 = .ok (.iaload, 1) := by decide +kernel
theorem dL_law_728 : decode cL_law 728 = .ok (.invokevirtual 87, 3) := by decide +kernel
theorem dL_law_731 : decode cL_law 731 = .ok (.aload_n 2, 1) := by decide +kernel
theorem dL_law_732 : decode cL_law 732 = .ok (.aload_n 0, 1) := by decide +kernel
theorem dL_law_733 : decode cL_law 733 = .ok (.iload_n 3, 1) := by decide +kernel
theorem dL_law_734 : decode cL_law 734 = .ok (.iconst 1, 1) := by decide +kernel
theorem dL_law_735 : decode cL_law 735 = .ok (.iadd, 1) := by decide +kernel
theorem dL_law_736 : decode cL_law 736 = .ok (.iaload, 1) := by decide +kernel
theorem dL_law_737 : decode cL_law 737 = .ok (.aload_n 0, 1) := by decide +kernel
theorem dL_law_738 : decode cL_law 738 = .ok (.iload_n 3, 1) := by decide +kernel
theorem dL_law_739 : decode cL_law 739 = .ok (.iconst 2, 1) := by decide +kernel
theorem dL_law_740 : decode cL_law 740 = .ok (.iadd, 1) := by decide +kernel
theorem dL_law_741 : decode cL_law 741 = .ok (.iaload, 1) := by decide +kernel
theorem dL_law_742 : decode cL_law 742 = .ok (.aload_n 0, 1) := by decide +kernel
theorem dL_law_743 : decode cL_law 743 = .ok (.iload_n 3, 1) := by decide +kernel
theorem dL_law_744 : decode cL_law 744 = .ok (.iconst 3, 1) := by decide +kernel
theorem dL_law_745 : decode cL_law 745 = .ok (.iadd, 1) := by decide +kernel
theorem dL_law_746 : decode cL_law 746 = .ok (.iaload, 1) := by decide +kernel
theorem dL_law_747 : decode cL_law 747 = .ok (.invokevirtual 90, 3) := by decide +kernel
theorem dL_law_750 : decode cL_law 750 = .ok (.if_icmp .eq 205, 3) := by decide +kernel
theorem dL_law_753 : decode cL_law 753 = .ok (.iconst 0, 1) := by decide +kernel
theorem dL_law_754 : decode cL_law 754 = .ok (.ireturn, 1) := by decide +kernel
theorem dL_law_755 : decode cL_law 755 = .ok (.aload_n 1, 1) := by decide +kernel
theorem dL_law_756 : decode cL_law 756 = .ok (.aload_n 0, 1) := by decide +kernel
theorem dL_law_757 : decode cL_law 757 = .ok (.iload_n 3, 1) := by decide +kernel
theorem dL_law_758 : decode cL_law 758 = .ok (.iconst 1, 1) := by decide +kernel
theorem dL_law_759 : decode cL_law 759 = .ok (.iadd, 1) := by decide +kernel
theorem dL_law_760 : decode cL_law 760 = .ok (.iaload, 1) := by decide +kernel
theorem dL_law_761 : decode cL_law 761 = .ok (.invokevirtual 91, 3) := by decide +kernel
theorem dL_law_764 : decode cL_law 764 = .ok (.aload_n 2, 1) := by decide +kernel
theorem dL_law_765 : decode cL_law 765 = .ok (.aload_n 0, 1) := by decide +kernel
theorem dL_law_766 : decode cL_law 766 = .ok (.iload_n 3, 1) := by decide +kernel
theorem dL_law_767 : decode cL_law 767 = .ok (.iconst 1, 1) := by decide +kernel
theorem dL_law_768 : decode cL_law 768 = .ok (.iadd, 1) := by decide +kernel
theorem dL_law_769 : decode cL_law 769 = .ok (.iaload, 1) := by decide +kernel
theorem dL_law_770 : decode cL_law 770 = .ok (.invokevirtual 94, 3) := by decide +kernel
theorem dL_law_773 : decode cL_law 773 = .ok (.if_icmp .eq 182, 3) := by decide +kernel
theorem dL_law_776 : decode cL_law 776 = .ok (.iconst 0, 1) := by decide +kernel
theorem dL_law_777 : decode cL_law 777 = .ok (.ireturn, 1) := by decide +kernel
theorem dL_law_778 : decode cL_law 778 = .ok (.aload_n 1, 1) := by decide +kernel
theorem dL_law_779 : decode cL_law 779 = .ok (.invokevirtual 95, 3) := by decide +kernel
theorem dL_law_782 : decode cL_law 782 = .ok (.aload_n 2, 1) := by decide +kernel
theorem dL_law_783 : decode cL_law 783 = .ok (.invokevirtual 98, 3) := by decide +kernel
theorem dL_law_786 : decode cL_law 786 = .ok (.if_icmp .eq 169, 3) := by decide +kernel
theorem dL_law_789 : decode cL_law 789 = .ok (.iconst 0, 1) := by decide +kernel
theorem dL_law_790 : decode cL_law 790 = .ok (.ireturn, 1) := by decide +kernel
theorem dL_law_791 : decode cL_law 791 = .ok (.aload_n 1, 1) := by decide +kernel
theorem dL_law_792 : decode cL_law 792 = .ok (.invokevirtual 99, 3) := by decide +kernel
theorem dL_law_795 : decode cL_law 795 = .ok (.aload_n 2, 1) := by decide +kernel
theorem dL_law_796 : decode cL_law 796 = .ok (.invokevirtual 102, 3) := by decide +kernel
theorem dL_law_799 : decode cL_law 799 = .ok (.if_icmp .eq 156, 3) := by decide +kernel
theorem dL_law_802 : decode cL_law 802 = .ok (.iconst 0, 1) := by decide +kernel
theorem dL_law_803 : decode cL_law 803 = .ok (.ireturn, 1) := by decide +kernel
theorem dL_law_804 : decode cL_law 804 = .ok (.aload_n 1, 1) := by decide +kernel
theorem dL_law_805 : decode cL_law 805 = .ok (.aload_n 0, 1) := by decide +kernel
theorem dL_law_806 : decode cL_law 806 = .ok (.iload_n 3, 1) := by decide +kernel
theorem dL_law_807 : decode cL_law 807 = .ok (.iconst 1, 1) := by decide +kernel
theorem dL_law_808 : decode cL_law 808 = .ok (.iadd, 1) := by decide +kernel
theorem dL_law_809 : decode cL_law 809 = .ok (.iaload, 1) := by decide +kernel
theorem dL_law_810 : decode cL_law 810 = .ok (.i2l, 1) := by decide +kernel
theorem dL_law_811 : decode cL_law 811 = .ok (.bipush 32, 2) := by decide +kernel
theorem dL_law_813 : decode cL_law 813 = .ok (.lshl, 1) := by decide +kernel
theorem dL_law_814 : decode cL_law 814 = .ok (.aload_n 0, 1) := by decide +kernel
theorem dL_law_815 : decode cL_law 815 = .ok (.iload_n 3, 1) := by decide +kernel
theorem dL_law_816 : decode cL_law 816 = .ok (.iconst 2, 1) := by decide +kernel
theorem dL_law_817 : decode cL_law 817 = .ok (.iadd, 1) := by decide +kernel
theorem dL_law_818 : decode cL_law 818 = .ok (.iaload, 1) := by decide +kernel
theorem dL_law_819 : decode cL_law 819 = .ok (.i2l, 1) := by decide +kernel
theorem dL_law_820 : decode cL_law 820 = .ok (.ldc2_w 103, 3) := by decide +kernel
theorem dL_law_823 : decode cL_law 823 = .ok (.land, 1) := by decide +kernel
theorem dL_law_824 : decode cL_law 824 = .ok (.lor, 1) := by decide +kernel
theorem dL_law_825 : decode cL_law 825 = .ok (.invokevirtual 105, 3) := by decide +kernel
theorem dL_law_828 : decode cL_law 828 = .ok (.aload_n 2, 1) := by decide +kernel
theorem dL_law_829 : decode cL_law 829 = .ok (.aload_n 0, 1) := by decide +kernel
theorem dL_law_830 : decode cL_law 830 = .ok (.iload_n 3, 1) := by decide +kernel
theorem dL_law_831 : decode cL_law 831 = .ok (.iconst 1, 1) := by decide +kernel
theorem dL_law_832 : decode cL_law 832 = .ok (.iadd, 1) := by decide +kernel
theorem dL_law_833 : decode cL_law 833 = .ok (.iaload, 1) := by decide +kernel
theorem dL_law_834 : decode cL_law 834 = .ok (.i2l, 1) := by decide +kernel
theorem dL_law_835 : decode cL_law 835 = .ok (.bipush 32, 2) := by decide +kernel
theorem dL_law_837 : decode cL_law 837 = .ok (.lshl, 1) := by decide +kernel
theorem dL_law_838 : decode cL_law 838 = .ok (.aload_n 0, 1) := by decide +kernel
theorem dL_law_839 : decode cL_law 839 = .ok (.iload_n 3, 1) := by decide +kernel
theorem dL_law_840 : decode cL_law 840 = .ok (.iconst 2, 1) := by decide +kernel
theorem dL_law_841 : decode cL_law 841 = .ok (.iadd, 1) := by decide +kernel
theorem dL_law_842 : decode cL_law 842 = .ok (.iaload, 1) := by decide +kernel
theorem dL_law_843 : decode cL_law 843 = .ok (.i2l, 1) := by decide +kernel
theorem dL_law_844 : decode cL_law 844 = .ok (.ldc2_w 103, 3) := by decide +kernel
theorem dL_law_847 : decode cL_law 847 = .ok (.land, 1) := by decide +kernel
theorem dL_law_848 : decode cL_law 848 = .ok (.lor, 1) := by decide +kernel
theorem dL_law_849 : decode cL_law 849 = .ok (.invokevirtual 109, 3) := by decide +kernel
theorem dL_law_852 : decode cL_law 852 = .ok (.if_icmp .eq 103, 3) := by decide +kernel
theorem dL_law_855 : decode cL_law 855 = .ok (.iconst 0, 1) := by decide +kernel
theorem dL_law_856 : decode cL_law 856 = .ok (.ireturn, 1) := by decide +kernel
theorem dL_law_857 : decode cL_law 857 = .ok (.aload_n 1, 1) := by decide +kernel
theorem dL_law_858 : decode cL_law 858 = .ok (.invokevirtual 110, 3) := by decide +kernel
theorem dL_law_861 : decode cL_law 861 = .ok (.aload_n 2, 1) := by decide +kernel
theorem dL_law_862 : decode cL_law 862 = .ok (.invokevirtual 113, 3) := by decide +kernel
theorem dL_law_865 : decode cL_law 865 = .ok (.if_icmp .eq 90, 3) := by decide +kernel
theorem dL_law_868 : decode cL_law 868 = .ok (.iconst 0, 1) := by decide +kernel
theorem dL_law_869 : decode cL_law 869 = .ok (.ireturn, 1) := by decide +kernel
theorem dL_law_870 : decode cL_law 870 = .ok (.aload_n 1, 1) := by decide +kernel
theorem dL_law_871 : decode cL_law 871 = .ok (.invokevirtual 114, 3) := by decide +kernel
theorem dL_law_874 : decode cL_law 874 = .ok (.aload_n 2, 1) := by decide +kernel
theorem dL_law_875 : decode cL_law 875 = .ok (.invokevirtual 117, 3) := by decide +kernel
theorem dL_law_878 : decode cL_law 878 = .ok (.if_icmp .eq 77, 3) := by decide +kernel
theorem dL_law_881 : decode cL_law 881 = .ok (.iconst 0, 1) := by decide +kernel
theorem dL_law_882 : decode cL_law 882 = .ok (.ireturn, 1) := by decide +kernel
theorem dL_law_883 : decode cL_law 883 = .ok (.aload_n 1, 1) := by decide +kernel
theorem dL_law_884 : decode cL_law 884 = .ok (.invokevirtual 118, 3) := by decide +kernel
theorem dL_law_887 : decode cL_law 887 = .ok (.aload_n 2, 1) := by decide +kernel
theorem dL_law_888 : decode cL_law 888 = .ok (.invokevirtual 121, 3) := by decide +kernel
theorem dL_law_891 : decode cL_law 891 = .ok (.if_icmp .eq 64, 3) := by decide +kernel
theorem dL_law_894 : decode cL_law 894 = .ok (.iconst 0, 1) := by decide +kernel
theorem dL_law_895 : decode cL_law 895 = .ok (.ireturn, 1) := by decide +kernel
theorem dL_law_896 : decode cL_law 896 = .ok (.aload_n 1, 1) := by decide +kernel
theorem dL_law_897 : decode cL_law 897 = .ok (.invokevirtual 122, 3) := by decide +kernel
theorem dL_law_900 : decode cL_law 900 = .ok (.aload_n 2, 1) := by decide +kernel
theorem dL_law_901 : decode cL_law 901 = .ok (.invokevirtual 125, 3) := by decide +kernel
theorem dL_law_904 : decode cL_law 904 = .ok (.if_icmp .eq 51, 3) := by decide +kernel
theorem dL_law_907 : decode cL_law 907 = .ok (.iconst 0, 1) := by decide +kernel
theorem dL_law_908 : decode cL_law 908 = .ok (.ireturn, 1) := by decide +kernel
theorem dL_law_909 : decode cL_law 909 = .ok (.aload_n 1, 1) := by decide +kernel
theorem dL_law_910 : decode cL_law 910 = .ok (.aload_n 0, 1) := by decide +kernel
theorem dL_law_911 : decode cL_law 911 = .ok (.iload_n 3, 1) := by decide +kernel
theorem dL_law_912 : decode cL_law 912 = .ok (.iconst 1, 1) := by decide +kernel
theorem dL_law_913 : decode cL_law 913 = .ok (.iadd, 1) := by decide +kernel
theorem dL_law_914 : decode cL_law 914 = .ok (.iaload, 1) := by decide +kernel
theorem dL_law_915 : decode cL_law 915 = .ok (.invokevirtual 126, 3) := by decide +kernel
theorem dL_law_918 : decode cL_law 918 = .ok (.aload_n 2, 1) := by decide +kernel
theorem dL_law_919 : decode cL_law 919 = .ok (.aload_n 0, 1) := by decide +kernel
theorem dL_law_920 : decode cL_law 920 = .ok (.iload_n 3, 1) := by decide +kernel
theorem dL_law_921 : decode cL_law 921 = .ok (.iconst 1, 1) := by decide +kernel
theorem dL_law_922 : decode cL_law 922 = .ok (.iadd, 1) := by decide +kernel
theorem dL_law_923 : decode cL_law 923 = .ok (.iaload, 1) := by decide +kernel
theorem dL_law_924 : decode cL_law 924 = .ok (.invokevirtual 129, 3) := by decide +kernel
theorem dL_law_927 : decode cL_law 927 = .ok (.if_icmp .eq 28, 3) := by decide +kernel
theorem dL_law_930 : decode cL_law 930 = .ok (.iconst 0, 1) := by decide +kernel
theorem dL_law_931 : decode cL_law 931 = .ok (.ireturn, 1) := by decide +kernel
theorem dL_law_932 : decode cL_law 932 = .ok (.aload_n 1, 1) := by decide +kernel
theorem dL_law_933 : decode cL_law 933 = .ok (.aload_n 0, 1) := by decide +kernel
theorem dL_law_934 : decode cL_law 934 = .ok (.iload_n 3, 1) := by decide +kernel
theorem dL_law_935 : decode cL_law 935 = .ok (.iconst 1, 1) := by decide +kernel
theorem dL_law_936 : decode cL_law 936 = .ok (.iadd, 1) := by decide +kernel
theorem dL_law_937 : decode cL_law 937 = .ok (.iaload, 1) := by decide +kernel
theorem dL_law_938 : decode cL_law 938 = .ok (.invokevirtual 130, 3) := by decide +kernel
theorem dL_law_941 : decode cL_law 941 = .ok (.aload_n 2, 1) := by decide +kernel
theorem dL_law_942 : decode cL_law 942 = .ok (.aload_n 0, 1) := by decide +kernel
theorem dL_law_943 : decode cL_law 943 = .ok (.iload_n 3, 1) := by decide +kernel
theorem dL_law_944 : decode cL_law 944 = .ok (.iconst 1, 1) := by decide +kernel
theorem dL_law_945 : decode cL_law 945 = .ok (.iadd, 1) := by decide +kernel
theorem dL_law_946 : decode cL_law 946 = .ok (.iaload, 1) := by decide +kernel
theorem dL_law_947 : decode cL_law 947 = .ok (.invokevirtual 133, 3) := by decide +kernel
theorem dL_law_950 : decode cL_law 950 = .ok (.if_icmp .eq 5, 3) := by decide +kernel
theorem dL_law_953 : decode cL_law 953 = .ok (.iconst 0, 1) := by decide +kernel
theorem dL_law_954 : decode cL_law 954 = .ok (.ireturn, 1) := by decide +kernel
theorem dL_law_955 : decode cL_law 955 = .ok (.iinc 3 6, 3) := by decide +kernel
theorem dL_law_958 : decode cL_law 958 = .ok (.goto (-940), 3) := by decide +kernel
theorem dL_law_961 : decode cL_law 961 = .ok (.iconst 1, 1) := by decide +kernel
theorem dL_law_962 : decode cL_law 962 = .ok (.ireturn, 1) := by decide +kernel
def LO_set (M : Mem) (a1 : Int32) (a2 : Int32) : Option Mem :=
  c2 (FX5_set M a1 a2) fun r1 M1 =>
  c2 (FX6_set (M1 12) a1 a2) fun r2 Z =>
  if r1 = r2 then some (jb M1 12 Z) else none
set_option maxRecDepth 100000 in
set_option maxHeartbeats 4000000 in
theorem law_set {E : WE} {V : VT} {A : Nat → Prop} {H0 : Heap} (Cx : CX E RL cL_law 4 8 197) {H : Heap} {locs : List Loc} {ls : Array Slot} {b L i : Nat} {xs : Nat → Int32} (hX : va_X b L xs (eS E) H0) (hbl : b < H0.size) (hbA : ¬ A b) (hL : L < 2 ^ 31) (hi : i + 6 ≤ L) {M M' : Mem} (hop : LO_set M (xs (i + 1)) (xs (i + 2)) = some M') (hW : Wd V A H0 M (eS E) H locs) (hl : lv_has ls 4 [(0, .ref b), (1, .ref (vA V 11 0)), (2, .ref (vA V 12 0)), (3, .int (nI i))]) (kk : ∀ (H : Heap) (locs : List Loc), Wd V A H0 M' (eS E) H locs → Wq E H locs 955 ls []) : Wq E H locs 160 ls [] := by
  unfold LO_set at hop
  obtain ⟨r1, M1, e1, hop⟩ := c2_some hop
  obtain ⟨r2, Z, e2, hop⟩ := c2_some hop
  obtain ⟨hr, rfl⟩ := ite_some hop
  refine q_aload_n Cx dL_law_160 rfl (lv_at hl 1 rfl) ?_
  refine q_aload_n Cx dL_law_161 rfl (lv_at hl 0 rfl) ?_
  refine q_iload_n Cx dL_law_162 rfl (lv_at hl 3 rfl) ?_
  refine q_iconst (v := (1 : Int32)) Cx dL_law_163 (by decide) ?_
  refine q_iadd Cx dL_law_164 ?_
  refine q_sld Cx hW hX hbl hbA (nI_add i 1) (j := i + 1) (by omega) hL dL_law_165 ?_
  refine q_aload_n Cx dL_law_166 rfl (lv_at hl 0 rfl) ?_
  refine q_iload_n Cx dL_law_167 rfl (lv_at hl 3 rfl) ?_
  refine q_iconst (v := (2 : Int32)) Cx dL_law_168 (by decide) ?_
  refine q_iadd Cx dL_law_169 ?_
  refine q_sld Cx hW hX hbl hbA (nI_add i 2) (j := i + 2) (by omega) hL dL_law_170 ?_
  refine q_callI (as := [.int (xs (i + 1)), .int (xs (i + 2))]) (rest := []) Cx (kX5_set e1) okX5_set ovX5_set wd_267 ⟨rfl, rfl, by decide, by decide⟩ hW oX ic5 rfl hl.1 (Nat.le_of_ble_eq_true rfl) rfl dL_law_171 (fun H locs hW => ?_)
  refine q_aload_n Cx dL_law_174 rfl (lv_at hl 2 rfl) ?_
  refine q_aload_n Cx dL_law_175 rfl (lv_at hl 0 rfl) ?_
  refine q_iload_n Cx dL_law_176 rfl (lv_at hl 3 rfl) ?_
  refine q_iconst (v := (1 : Int32)) Cx dL_law_177 (by decide) ?_
  refine q_iadd Cx dL_law_178 ?_
  refine q_sld Cx hW hX hbl hbA (nI_add i 1) (j := i + 1) (by omega) hL dL_law_179 ?_
  refine q_aload_n Cx dL_law_180 rfl (lv_at hl 0 rfl) ?_
  refine q_iload_n Cx dL_law_181 rfl (lv_at hl 3 rfl) ?_
  refine q_iconst (v := (2 : Int32)) Cx dL_law_182 (by decide) ?_
  refine q_iadd Cx dL_law_183 ?_
  refine q_sld Cx hW hX hbl hbA (nI_add i 2) (j := i + 2) (by omega) hL dL_law_184 ?_
  refine q_callI (as := [.int (xs (i + 1)), .int (xs (i + 2))]) (rest := [.int r1]) Cx (met_w (kX6_set e2)) okX6_set ovX6_set wd_791 ⟨rfl, rfl, by decide, by decide⟩ hW oZ ic6 rfl hl.1 (Nat.le_of_ble_eq_true rfl) rfl dL_law_185 (fun H locs hW => ?_)
  refine q_icmp_eq (tgt := 955) Cx dL_law_188 (by decide) (fun _ => kk _ _ hW) (fun c => absurd hr c)
def LO_task (M : Mem) (a1 : Int32) (a2 : Int32) (a3 : Int32) (a4 : Int32) (a5 : Int32) : Option Mem :=
  c2 (FX5_task M a1 a2 a3 a4 a5) fun r1 M1 =>
  c2 (FX6_task (M1 12) a1 a2 a3 a4 a5) fun r2 Z =>
  if r1 = r2 then some (jb M1 12 Z) else none
set_option maxRecDepth 100000 in
set_option maxHeartbeats 4000000 in
theorem law_task {E : WE} {V : VT} {A : Nat → Prop} {H0 : Heap} (Cx : CX E RL cL_law 4 8 197) {H : Heap} {locs : List Loc} {ls : Array Slot} {b L i : Nat} {xs : Nat → Int32} (hX : va_X b L xs (eS E) H0) (hbl : b < H0.size) (hbA : ¬ A b) (hL : L < 2 ^ 31) (hi : i + 6 ≤ L) {M M' : Mem} (hop : LO_task M (xs (i + 1)) (xs (i + 2)) (xs (i + 3)) (xs (i + 4)) (xs (i + 5)) = some M') (hW : Wd V A H0 M (eS E) H locs) (hl : lv_has ls 4 [(0, .ref b), (1, .ref (vA V 11 0)), (2, .ref (vA V 12 0)), (3, .int (nI i))]) (kk : ∀ (H : Heap) (locs : List Loc), Wd V A H0 M' (eS E) H locs → Wq E H locs 955 ls []) : Wq E H locs 193 ls [] := by
  unfold LO_task at hop
  obtain ⟨r1, M1, e1, hop⟩ := c2_some hop
  obtain ⟨r2, Z, e2, hop⟩ := c2_some hop
  obtain ⟨hr, rfl⟩ := ite_some hop
  refine q_aload_n Cx dL_law_193 rfl (lv_at hl 1 rfl) ?_
  refine q_aload_n Cx dL_law_194 rfl (lv_at hl 0 rfl) ?_
  refine q_iload_n Cx dL_law_195 rfl (lv_at hl 3 rfl) ?_
  refine q_iconst (v := (1 : Int32)) Cx dL_law_196 (by decide) ?_
  refine q_iadd Cx dL_law_197 ?_
  refine q_sld Cx hW hX hbl hbA (nI_add i 1) (j := i + 1) (by omega) hL dL_law_198 ?_
  refine q_aload_n Cx dL_law_199 rfl (lv_at hl 0 rfl) ?_
  refine q_iload_n Cx dL_law_200 rfl (lv_at hl 3 rfl) ?_
  refine q_iconst (v := (2 : Int32)) Cx dL_law_201 (by decide) ?_
  refine q_iadd Cx dL_law_202 ?_
  refine q_sld Cx hW hX hbl hbA (nI_add i 2) (j := i + 2) (by omega) hL dL_law_203 ?_
  refine q_aload_n Cx dL_law_204 rfl (lv_at hl 0 rfl) ?_
  refine q_iload_n Cx dL_law_205 rfl (lv_at hl 3 rfl) ?_
  refine q_iconst (v := (3 : Int32)) Cx dL_law_206 (by decide) ?_
  refine q_iadd Cx dL_law_207 ?_
  refine q_sld Cx hW hX hbl hbA (nI_add i 3) (j := i + 3) (by omega) hL dL_law_208 ?_
  refine q_aload_n Cx dL_law_209 rfl (lv_at hl 0 rfl) ?_
  refine q_iload_n Cx dL_law_210 rfl (lv_at hl 3 rfl) ?_
  refine q_iconst (v := (4 : Int32)) Cx dL_law_211 (by decide) ?_
  refine q_iadd Cx dL_law_212 ?_
  refine q_sld Cx hW hX hbl hbA (nI_add i 4) (j := i + 4) (by omega) hL dL_law_213 ?_
  refine q_aload_n Cx dL_law_214 rfl (lv_at hl 0 rfl) ?_
  refine q_iload_n Cx dL_law_215 rfl (lv_at hl 3 rfl) ?_
  refine q_iconst (v := (5 : Int32)) Cx dL_law_216 (by decide) ?_
  refine q_iadd Cx dL_law_217 ?_
  refine q_sld Cx hW hX hbl hbA (nI_add i 5) (j := i + 5) (by omega) hL dL_law_218 ?_
  refine q_callI (as := [.int (xs (i + 1)), .int (xs (i + 2)), .int (xs (i + 3)), .int (xs (i + 4)), .int (xs (i + 5))]) (rest := []) Cx (kX5_task e1) okX5_task ovX5_task wd_300 ⟨rfl, rfl, by decide, by decide⟩ hW oX ic5 rfl hl.1 (Nat.le_of_ble_eq_true rfl) rfl dL_law_219 (fun H locs hW => ?_)
  refine q_aload_n Cx dL_law_222 rfl (lv_at hl 2 rfl) ?_
  refine q_aload_n Cx dL_law_223 rfl (lv_at hl 0 rfl) ?_
  refine q_iload_n Cx dL_law_224 rfl (lv_at hl 3 rfl) ?_
  refine q_iconst (v := (1 : Int32)) Cx dL_law_225 (by decide) ?_
  refine q_iadd Cx dL_law_226 ?_
  refine q_sld Cx hW hX hbl hbA (nI_add i 1) (j := i + 1) (by omega) hL dL_law_227 ?_
  refine q_aload_n Cx dL_law_228 rfl (lv_at hl 0 rfl) ?_
  refine q_iload_n Cx dL_law_229 rfl (lv_at hl 3 rfl) ?_
  refine q_iconst (v := (2 : Int32)) Cx dL_law_230 (by decide) ?_
  refine q_iadd Cx dL_law_231 ?_
  refine q_sld Cx hW hX hbl hbA (nI_add i 2) (j := i + 2) (by omega) hL dL_law_232 ?_
  refine q_aload_n Cx dL_law_233 rfl (lv_at hl 0 rfl) ?_
  refine q_iload_n Cx dL_law_234 rfl (lv_at hl 3 rfl) ?_
  refine q_iconst (v := (3 : Int32)) Cx dL_law_235 (by decide) ?_
  refine q_iadd Cx dL_law_236 ?_
  refine q_sld Cx hW hX hbl hbA (nI_add i 3) (j := i + 3) (by omega) hL dL_law_237 ?_
  refine q_aload_n Cx dL_law_238 rfl (lv_at hl 0 rfl) ?_
  refine q_iload_n Cx dL_law_239 rfl (lv_at hl 3 rfl) ?_
  refine q_iconst (v := (4 : Int32)) Cx dL_law_240 (by decide) ?_
  refine q_iadd Cx dL_law_241 ?_
  refine q_sld Cx hW hX hbl hbA (nI_add i 4) (j := i + 4) (by omega) hL dL_law_242 ?_
  refine q_aload_n Cx dL_law_243 rfl (lv_at hl 0 rfl) ?_
  refine q_iload_n Cx dL_law_244 rfl (lv_at hl 3 rfl) ?_
  refine q_iconst (v := (5 : Int32)) Cx dL_law_245 (by decide) ?_
  refine q_iadd Cx dL_law_246 ?_
  refine q_sld Cx hW hX hbl hbA (nI_add i 5) (j := i + 5) (by omega) hL dL_law_247 ?_
  refine q_callI (as := [.int (xs (i + 1)), .int (xs (i + 2)), .int (xs (i + 3)), .int (xs (i + 4)), .int (xs (i + 5))]) (rest := [.int r1]) Cx (met_w (kX6_task e2)) okX6_task ovX6_task wd_795 ⟨rfl, rfl, by decide, by decide⟩ hW oZ ic6 rfl hl.1 (Nat.le_of_ble_eq_true rfl) rfl dL_law_248 (fun H locs hW => ?_)
  refine q_icmp_eq (tgt := 955) Cx dL_law_251 (by decide) (fun _ => kk _ _ hW) (fun c => absurd hr c)
def LO_duration (M : Mem) (a1 : Int32) (a2 : Int32) : Option Mem :=
  c2 (FX5_duration M a1 a2) fun r1 M1 =>
  c2 (FX6_duration (M1 12) a1 a2) fun r2 Z =>
  if r1 = r2 then some (jb M1 12 Z) else none
set_option maxRecDepth 100000 in
set_option maxHeartbeats 4000000 in
theorem law_duration {E : WE} {V : VT} {A : Nat → Prop} {H0 : Heap} (Cx : CX E RL cL_law 4 8 197) {H : Heap} {locs : List Loc} {ls : Array Slot} {b L i : Nat} {xs : Nat → Int32} (hX : va_X b L xs (eS E) H0) (hbl : b < H0.size) (hbA : ¬ A b) (hL : L < 2 ^ 31) (hi : i + 6 ≤ L) {M M' : Mem} (hop : LO_duration M (xs (i + 1)) (xs (i + 2)) = some M') (hW : Wd V A H0 M (eS E) H locs) (hl : lv_has ls 4 [(0, .ref b), (1, .ref (vA V 11 0)), (2, .ref (vA V 12 0)), (3, .int (nI i))]) (kk : ∀ (H : Heap) (locs : List Loc), Wd V A H0 M' (eS E) H locs → Wq E H locs 955 ls []) : Wq E H locs 256 ls [] := by
  unfold LO_duration at hop
  obtain ⟨r1, M1, e1, hop⟩ := c2_some hop
  obtain ⟨r2, Z, e2, hop⟩ := c2_some hop
  obtain ⟨hr, rfl⟩ := ite_some hop
  refine q_aload_n Cx dL_law_256 rfl (lv_at hl 1 rfl) ?_
  refine q_aload_n Cx dL_law_257 rfl (lv_at hl 0 rfl) ?_
  refine q_iload_n Cx dL_law_258 rfl (lv_at hl 3 rfl) ?_
  refine q_iconst (v := (1 : Int32)) Cx dL_law_259 (by decide) ?_
  refine q_iadd Cx dL_law_260 ?_
  refine q_sld Cx hW hX hbl hbA (nI_add i 1) (j := i + 1) (by omega) hL dL_law_261 ?_
  refine q_aload_n Cx dL_law_262 rfl (lv_at hl 0 rfl) ?_
  refine q_iload_n Cx dL_law_263 rfl (lv_at hl 3 rfl) ?_
  refine q_iconst (v := (2 : Int32)) Cx dL_law_264 (by decide) ?_
  refine q_iadd Cx dL_law_265 ?_
  refine q_sld Cx hW hX hbl hbA (nI_add i 2) (j := i + 2) (by omega) hL dL_law_266 ?_
  refine q_callI (as := [.int (xs (i + 1)), .int (xs (i + 2))]) (rest := []) Cx (kX5_duration e1) okX5_duration ovX5_duration wd_337 ⟨rfl, rfl, by decide, by decide⟩ hW oX ic5 rfl hl.1 (Nat.le_of_ble_eq_true rfl) rfl dL_law_267 (fun H locs hW => ?_)
  refine q_aload_n Cx dL_law_270 rfl (lv_at hl 2 rfl) ?_
  refine q_aload_n Cx dL_law_271 rfl (lv_at hl 0 rfl) ?_
  refine q_iload_n Cx dL_law_272 rfl (lv_at hl 3 rfl) ?_
  refine q_iconst (v := (1 : Int32)) Cx dL_law_273 (by decide) ?_
  refine q_iadd Cx dL_law_274 ?_
  refine q_sld Cx hW hX hbl hbA (nI_add i 1) (j := i + 1) (by omega) hL dL_law_275 ?_
  refine q_aload_n Cx dL_law_276 rfl (lv_at hl 0 rfl) ?_
  refine q_iload_n Cx dL_law_277 rfl (lv_at hl 3 rfl) ?_
  refine q_iconst (v := (2 : Int32)) Cx dL_law_278 (by decide) ?_
  refine q_iadd Cx dL_law_279 ?_
  refine q_sld Cx hW hX hbl hbA (nI_add i 2) (j := i + 2) (by omega) hL dL_law_280 ?_
  refine q_callI (as := [.int (xs (i + 1)), .int (xs (i + 2))]) (rest := [.int r1]) Cx (met_w (kX6_duration e2)) okX6_duration ovX6_duration wd_808 ⟨rfl, rfl, by decide, by decide⟩ hW oZ ic6 rfl hl.1 (Nat.le_of_ble_eq_true rfl) rfl dL_law_281 (fun H locs hW => ?_)
  refine q_icmp_eq (tgt := 955) Cx dL_law_284 (by decide) (fun _ => kk _ _ hW) (fun c => absurd hr c)
def LO_move (M : Mem) (a1 : Int32) (a2 : Int32) : Option Mem :=
  c2 (FX5_move M a1 a2) fun r1 M1 =>
  c2 (FX6_move (M1 12) a1 a2) fun r2 Z =>
  if r1 = r2 then some (jb M1 12 Z) else none
set_option maxRecDepth 100000 in
set_option maxHeartbeats 4000000 in
theorem law_move {E : WE} {V : VT} {A : Nat → Prop} {H0 : Heap} (Cx : CX E RL cL_law 4 8 197) {H : Heap} {locs : List Loc} {ls : Array Slot} {b L i : Nat} {xs : Nat → Int32} (hX : va_X b L xs (eS E) H0) (hbl : b < H0.size) (hbA : ¬ A b) (hL : L < 2 ^ 31) (hi : i + 6 ≤ L) {M M' : Mem} (hop : LO_move M (xs (i + 1)) (xs (i + 2)) = some M') (hW : Wd V A H0 M (eS E) H locs) (hl : lv_has ls 4 [(0, .ref b), (1, .ref (vA V 11 0)), (2, .ref (vA V 12 0)), (3, .int (nI i))]) (kk : ∀ (H : Heap) (locs : List Loc), Wd V A H0 M' (eS E) H locs → Wq E H locs 955 ls []) : Wq E H locs 289 ls [] := by
  unfold LO_move at hop
  obtain ⟨r1, M1, e1, hop⟩ := c2_some hop
  obtain ⟨r2, Z, e2, hop⟩ := c2_some hop
  obtain ⟨hr, rfl⟩ := ite_some hop
  refine q_aload_n Cx dL_law_289 rfl (lv_at hl 1 rfl) ?_
  refine q_aload_n Cx dL_law_290 rfl (lv_at hl 0 rfl) ?_
  refine q_iload_n Cx dL_law_291 rfl (lv_at hl 3 rfl) ?_
  refine q_iconst (v := (1 : Int32)) Cx dL_law_292 (by decide) ?_
  refine q_iadd Cx dL_law_293 ?_
  refine q_sld Cx hW hX hbl hbA (nI_add i 1) (j := i + 1) (by omega) hL dL_law_294 ?_
  refine q_aload_n Cx dL_law_295 rfl (lv_at hl 0 rfl) ?_
  refine q_iload_n Cx dL_law_296 rfl (lv_at hl 3 rfl) ?_
  refine q_iconst (v := (2 : Int32)) Cx dL_law_297 (by decide) ?_
  refine q_iadd Cx dL_law_298 ?_
  refine q_sld Cx hW hX hbl hbA (nI_add i 2) (j := i + 2) (by omega) hL dL_law_299 ?_
  refine q_callI (as := [.int (xs (i + 1)), .int (xs (i + 2))]) (rest := []) Cx (kX5_move e1) okX5_move ovX5_move wd_345 ⟨rfl, rfl, by decide, by decide⟩ hW oX ic5 rfl hl.1 (Nat.le_of_ble_eq_true rfl) rfl dL_law_300 (fun H locs hW => ?_)
  refine q_aload_n Cx dL_law_303 rfl (lv_at hl 2 rfl) ?_
  refine q_aload_n Cx dL_law_304 rfl (lv_at hl 0 rfl) ?_
  refine q_iload_n Cx dL_law_305 rfl (lv_at hl 3 rfl) ?_
  refine q_iconst (v := (1 : Int32)) Cx dL_law_306 (by decide) ?_
  refine q_iadd Cx dL_law_307 ?_
  refine q_sld Cx hW hX hbl hbA (nI_add i 1) (j := i + 1) (by omega) hL dL_law_308 ?_
  refine q_aload_n Cx dL_law_309 rfl (lv_at hl 0 rfl) ?_
  refine q_iload_n Cx dL_law_310 rfl (lv_at hl 3 rfl) ?_
  refine q_iconst (v := (2 : Int32)) Cx dL_law_311 (by decide) ?_
  refine q_iadd Cx dL_law_312 ?_
  refine q_sld Cx hW hX hbl hbA (nI_add i 2) (j := i + 2) (by omega) hL dL_law_313 ?_
  refine q_callI (as := [.int (xs (i + 1)), .int (xs (i + 2))]) (rest := [.int r1]) Cx (met_w (kX6_move e2)) okX6_move ovX6_move wd_812 ⟨rfl, rfl, by decide, by decide⟩ hW oZ ic6 rfl hl.1 (Nat.le_of_ble_eq_true rfl) rfl dL_law_314 (fun H locs hW => ?_)
  refine q_icmp_eq (tgt := 955) Cx dL_law_317 (by decide) (fun _ => kk _ _ hW) (fun c => absurd hr c)
def LO_offer (M : Mem) (a1 : Int32) (a2 : Int32) (a3 : Int32) : Option Mem :=
  c2 (FX5_offer M a1 a2 a3) fun r1 M1 =>
  c2 (FX6_offer (M1 12) a1 a2 a3) fun r2 Z =>
  if r1 = r2 then some (jb M1 12 Z) else none
set_option maxRecDepth 100000 in
set_option maxHeartbeats 4000000 in
theorem law_offer {E : WE} {V : VT} {A : Nat → Prop} {H0 : Heap} (Cx : CX E RL cL_law 4 8 197) {H : Heap} {locs : List Loc} {ls : Array Slot} {b L i : Nat} {xs : Nat → Int32} (hX : va_X b L xs (eS E) H0) (hbl : b < H0.size) (hbA : ¬ A b) (hL : L < 2 ^ 31) (hi : i + 6 ≤ L) {M M' : Mem} (hop : LO_offer M (xs (i + 1)) (xs (i + 2)) (xs (i + 3)) = some M') (hW : Wd V A H0 M (eS E) H locs) (hl : lv_has ls 4 [(0, .ref b), (1, .ref (vA V 11 0)), (2, .ref (vA V 12 0)), (3, .int (nI i))]) (kk : ∀ (H : Heap) (locs : List Loc), Wd V A H0 M' (eS E) H locs → Wq E H locs 955 ls []) : Wq E H locs 322 ls [] := by
  unfold LO_offer at hop
  obtain ⟨r1, M1, e1, hop⟩ := c2_some hop
  obtain ⟨r2, Z, e2, hop⟩ := c2_some hop
  obtain ⟨hr, rfl⟩ := ite_some hop
  refine q_aload_n Cx dL_law_322 rfl (lv_at hl 1 rfl) ?_
  refine q_aload_n Cx dL_law_323 rfl (lv_at hl 0 rfl) ?_
  refine q_iload_n Cx dL_law_324 rfl (lv_at hl 3 rfl) ?_
  refine q_iconst (v := (1 : Int32)) Cx dL_law_325 (by decide) ?_
  refine q_iadd Cx dL_law_326 ?_
  refine q_sld Cx hW hX hbl hbA (nI_add i 1) (j := i + 1) (by omega) hL dL_law_327 ?_
  refine q_aload_n Cx dL_law_328 rfl (lv_at hl 0 rfl) ?_
  refine q_iload_n Cx dL_law_329 rfl (lv_at hl 3 rfl) ?_
  refine q_iconst (v := (2 : Int32)) Cx dL_law_330 (by decide) ?_
  refine q_iadd Cx dL_law_331 ?_
  refine q_sld Cx hW hX hbl hbA (nI_add i 2) (j := i + 2) (by omega) hL dL_law_332 ?_
  refine q_aload_n Cx dL_law_333 rfl (lv_at hl 0 rfl) ?_
  refine q_iload_n Cx dL_law_334 rfl (lv_at hl 3 rfl) ?_
  refine q_iconst (v := (3 : Int32)) Cx dL_law_335 (by decide) ?_
  refine q_iadd Cx dL_law_336 ?_
  refine q_sld Cx hW hX hbl hbA (nI_add i 3) (j := i + 3) (by omega) hL dL_law_337 ?_
  refine q_callI (as := [.int (xs (i + 1)), .int (xs (i + 2)), .int (xs (i + 3))]) (rest := []) Cx (kX5_offer e1) okX5_offer ovX5_offer wd_362 ⟨rfl, rfl, by decide, by decide⟩ hW oX ic5 rfl hl.1 (Nat.le_of_ble_eq_true rfl) rfl dL_law_338 (fun H locs hW => ?_)
  refine q_aload_n Cx dL_law_341 rfl (lv_at hl 2 rfl) ?_
  refine q_aload_n Cx dL_law_342 rfl (lv_at hl 0 rfl) ?_
  refine q_iload_n Cx dL_law_343 rfl (lv_at hl 3 rfl) ?_
  refine q_iconst (v := (1 : Int32)) Cx dL_law_344 (by decide) ?_
  refine q_iadd Cx dL_law_345 ?_
  refine q_sld Cx hW hX hbl hbA (nI_add i 1) (j := i + 1) (by omega) hL dL_law_346 ?_
  refine q_aload_n Cx dL_law_347 rfl (lv_at hl 0 rfl) ?_
  refine q_iload_n Cx dL_law_348 rfl (lv_at hl 3 rfl) ?_
  refine q_iconst (v := (2 : Int32)) Cx dL_law_349 (by decide) ?_
  refine q_iadd Cx dL_law_350 ?_
  refine q_sld Cx hW hX hbl hbA (nI_add i 2) (j := i + 2) (by omega) hL dL_law_351 ?_
  refine q_aload_n Cx dL_law_352 rfl (lv_at hl 0 rfl) ?_
  refine q_iload_n Cx dL_law_353 rfl (lv_at hl 3 rfl) ?_
  refine q_iconst (v := (3 : Int32)) Cx dL_law_354 (by decide) ?_
  refine q_iadd Cx dL_law_355 ?_
  refine q_sld Cx hW hX hbl hbA (nI_add i 3) (j := i + 3) (by omega) hL dL_law_356 ?_
  refine q_callI (as := [.int (xs (i + 1)), .int (xs (i + 2)), .int (xs (i + 3))]) (rest := [.int r1]) Cx (met_w (kX6_offer e2)) okX6_offer ovX6_offer wd_844 ⟨rfl, rfl, by decide, by decide⟩ hW oZ ic6 rfl hl.1 (Nat.le_of_ble_eq_true rfl) rfl dL_law_357 (fun H locs hW => ?_)
  refine q_icmp_eq (tgt := 955) Cx dL_law_360 (by decide) (fun _ => kk _ _ hW) (fun c => absurd hr c)
def LO_trade (M : Mem) : Option Mem :=
  c2 (FX5_trade M) fun r1 M1 =>
  c2 (FX6_trade (M1 12)) fun r2 Z =>
  if r1 = r2 then some (jb M1 12 Z) else none
set_option maxRecDepth 100000 in
set_option maxHeartbeats 4000000 in
theorem law_trade {E : WE} {V : VT} {A : Nat → Prop} {H0 : Heap} (Cx : CX E RL cL_law 4 8 197) {H : Heap} {locs : List Loc} {ls : Array Slot} {b L i : Nat} {xs : Nat → Int32} (hX : va_X b L xs (eS E) H0) (hbl : b < H0.size) (hbA : ¬ A b) (hL : L < 2 ^ 31) (hi : i + 6 ≤ L) {M M' : Mem} (hop : LO_trade M = some M') (hW : Wd V A H0 M (eS E) H locs) (hl : lv_has ls 4 [(0, .ref b), (1, .ref (vA V 11 0)), (2, .ref (vA V 12 0)), (3, .int (nI i))]) (kk : ∀ (H : Heap) (locs : List Loc), Wd V A H0 M' (eS E) H locs → Wq E H locs 955 ls []) : Wq E H locs 365 ls [] := by
  unfold LO_trade at hop
  obtain ⟨r1, M1, e1, hop⟩ := c2_some hop
  obtain ⟨r2, Z, e2, hop⟩ := c2_some hop
  obtain ⟨hr, rfl⟩ := ite_some hop
  refine q_aload_n Cx dL_law_365 rfl (lv_at hl 1 rfl) ?_
  refine q_callI (as := []) (rest := []) Cx (kX5_trade e1) okX5_trade ovX5_trade wd_374 ⟨rfl, rfl, by decide, by decide⟩ hW oX ic5 rfl hl.1 (Nat.le_of_ble_eq_true rfl) rfl dL_law_366 (fun H locs hW => ?_)
  refine q_aload_n Cx dL_law_369 rfl (lv_at hl 2 rfl) ?_
  refine q_callI (as := []) (rest := [.int r1]) Cx (met_w (kX6_trade e2)) okX6_trade ovX6_trade wd_848 ⟨rfl, rfl, by decide, by decide⟩ hW oZ ic6 rfl hl.1 (Nat.le_of_ble_eq_true rfl) rfl dL_law_370 (fun H locs hW => ?_)
  refine q_icmp_eq (tgt := 955) Cx dL_law_373 (by decide) (fun _ => kk _ _ hW) (fun c => absurd hr c)
def LO_refund (M : Mem) (a1 : Int32) (a2 : Int32) : Option Mem :=
  c2 (FX5_refund M a1 a2) fun r1 M1 =>
  c2 (FX6_refund (M1 12) a1 a2) fun r2 Z =>
  if r1 = r2 then some (jb M1 12 Z) else none
set_option maxRecDepth 100000 in
set_option maxHeartbeats 4000000 in
theorem law_refund {E : WE} {V : VT} {A : Nat → Prop} {H0 : Heap} (Cx : CX E RL cL_law 4 8 197) {H : Heap} {locs : List Loc} {ls : Array Slot} {b L i : Nat} {xs : Nat → Int32} (hX : va_X b L xs (eS E) H0) (hbl : b < H0.size) (hbA : ¬ A b) (hL : L < 2 ^ 31) (hi : i + 6 ≤ L) {M M' : Mem} (hop : LO_refund M (xs (i + 1)) (xs (i + 2)) = some M') (hW : Wd V A H0 M (eS E) H locs) (hl : lv_has ls 4 [(0, .ref b), (1, .ref (vA V 11 0)), (2, .ref (vA V 12 0)), (3, .int (nI i))]) (kk : ∀ (H : Heap) (locs : List Loc), Wd V A H0 M' (eS E) H locs → Wq E H locs 955 ls []) : Wq E H locs 378 ls [] := by
  unfold LO_refund at hop
  obtain ⟨r1, M1, e1, hop⟩ := c2_some hop
  obtain ⟨r2, Z, e2, hop⟩ := c2_some hop
  obtain ⟨hr, rfl⟩ := ite_some hop
  refine q_aload_n Cx dL_law_378 rfl (lv_at hl 1 rfl) ?_
  refine q_aload_n Cx dL_law_379 rfl (lv_at hl 0 rfl) ?_
  refine q_iload_n Cx dL_law_380 rfl (lv_at hl 3 rfl) ?_
  refine q_iconst (v := (1 : Int32)) Cx dL_law_381 (by decide) ?_
  refine q_iadd Cx dL_law_382 ?_
  refine q_sld Cx hW hX hbl hbA (nI_add i 1) (j := i + 1) (by omega) hL dL_law_383 ?_
  refine q_aload_n Cx dL_law_384 rfl (lv_at hl 0 rfl) ?_
  refine q_iload_n Cx dL_law_385 rfl (lv_at hl 3 rfl) ?_
  refine q_iconst (v := (2 : Int32)) Cx dL_law_386 (by decide) ?_
  refine q_iadd Cx dL_law_387 ?_
  refine q_sld Cx hW hX hbl hbA (nI_add i 2) (j := i + 2) (by omega) hL dL_law_388 ?_
  refine q_callI (as := [.int (xs (i + 1)), .int (xs (i + 2))]) (rest := []) Cx (kX5_refund e1) okX5_refund ovX5_refund wd_430 ⟨rfl, rfl, by decide, by decide⟩ hW oX ic5 rfl hl.1 (Nat.le_of_ble_eq_true rfl) rfl dL_law_389 (fun H locs hW => ?_)
  refine q_aload_n Cx dL_law_392 rfl (lv_at hl 2 rfl) ?_
  refine q_aload_n Cx dL_law_393 rfl (lv_at hl 0 rfl) ?_
  refine q_iload_n Cx dL_law_394 rfl (lv_at hl 3 rfl) ?_
  refine q_iconst (v := (1 : Int32)) Cx dL_law_395 (by decide) ?_
  refine q_iadd Cx dL_law_396 ?_
  refine q_sld Cx hW hX hbl hbA (nI_add i 1) (j := i + 1) (by omega) hL dL_law_397 ?_
  refine q_aload_n Cx dL_law_398 rfl (lv_at hl 0 rfl) ?_
  refine q_iload_n Cx dL_law_399 rfl (lv_at hl 3 rfl) ?_
  refine q_iconst (v := (2 : Int32)) Cx dL_law_400 (by decide) ?_
  refine q_iadd Cx dL_law_401 ?_
  refine q_sld Cx hW hX hbl hbA (nI_add i 2) (j := i + 2) (by omega) hL dL_law_402 ?_
  refine q_callI (as := [.int (xs (i + 1)), .int (xs (i + 2))]) (rest := [.int r1]) Cx (met_w (kX6_refund e2)) okX6_refund ovX6_refund wd_887 ⟨rfl, rfl, by decide, by decide⟩ hW oZ ic6 rfl hl.1 (Nat.le_of_ble_eq_true rfl) rfl dL_law_403 (fun H locs hW => ?_)
  refine q_icmp_eq (tgt := 955) Cx dL_law_406 (by decide) (fun _ => kk _ _ hW) (fun c => absurd hr c)
def LO_give (M : Mem) (a1 : Int32) (a2 : Int32) (a3 : Int32) : Option Mem :=
  c2 (FX5_give M a1 a2 a3) fun r1 M1 =>
  c2 (FX6_give (M1 12) a1 a2 a3) fun r2 Z =>
  if r1 = r2 then some (jb M1 12 Z) else none
set_option maxRecDepth 100000 in
set_option maxHeartbeats 4000000 in
theorem law_give {E : WE} {V : VT} {A : Nat → Prop} {H0 : Heap} (Cx : CX E RL cL_law 4 8 197) {H : Heap} {locs : List Loc} {ls : Array Slot} {b L i : Nat} {xs : Nat → Int32} (hX : va_X b L xs (eS E) H0) (hbl : b < H0.size) (hbA : ¬ A b) (hL : L < 2 ^ 31) (hi : i + 6 ≤ L) {M M' : Mem} (hop : LO_give M (xs (i + 1)) (xs (i + 2)) (xs (i + 3)) = some M') (hW : Wd V A H0 M (eS E) H locs) (hl : lv_has ls 4 [(0, .ref b), (1, .ref (vA V 11 0)), (2, .ref (vA V 12 0)), (3, .int (nI i))]) (kk : ∀ (H : Heap) (locs : List Loc), Wd V A H0 M' (eS E) H locs → Wq E H locs 955 ls []) : Wq E H locs 411 ls [] := by
  unfold LO_give at hop
  obtain ⟨r1, M1, e1, hop⟩ := c2_some hop
  obtain ⟨r2, Z, e2, hop⟩ := c2_some hop
  obtain ⟨hr, rfl⟩ := ite_some hop
  refine q_aload_n Cx dL_law_411 rfl (lv_at hl 1 rfl) ?_
  refine q_aload_n Cx dL_law_412 rfl (lv_at hl 0 rfl) ?_
  refine q_iload_n Cx dL_law_413 rfl (lv_at hl 3 rfl) ?_
  refine q_iconst (v := (1 : Int32)) Cx dL_law_414 (by decide) ?_
  refine q_iadd Cx dL_law_415 ?_
  refine q_sld Cx hW hX hbl hbA (nI_add i 1) (j := i + 1) (by omega) hL dL_law_416 ?_
  refine q_aload_n Cx dL_law_417 rfl (lv_at hl 0 rfl) ?_
  refine q_iload_n Cx dL_law_418 rfl (lv_at hl 3 rfl) ?_
  refine q_iconst (v := (2 : Int32)) Cx dL_law_419 (by decide) ?_
  refine q_iadd Cx dL_law_420 ?_
  refine q_sld Cx hW hX hbl hbA (nI_add i 2) (j := i + 2) (by omega) hL dL_law_421 ?_
  refine q_aload_n Cx dL_law_422 rfl (lv_at hl 0 rfl) ?_
  refine q_iload_n Cx dL_law_423 rfl (lv_at hl 3 rfl) ?_
  refine q_iconst (v := (3 : Int32)) Cx dL_law_424 (by decide) ?_
  refine q_iadd Cx dL_law_425 ?_
  refine q_sld Cx hW hX hbl hbA (nI_add i 3) (j := i + 3) (by omega) hL dL_law_426 ?_
  refine q_callI (as := [.int (xs (i + 1)), .int (xs (i + 2)), .int (xs (i + 3))]) (rest := []) Cx (kX5_give e1) okX5_give ovX5_give wd_450 ⟨rfl, rfl, by decide, by decide⟩ hW oX ic5 rfl hl.1 (Nat.le_of_ble_eq_true rfl) rfl dL_law_427 (fun H locs hW => ?_)
  refine q_aload_n Cx dL_law_430 rfl (lv_at hl 2 rfl) ?_
  refine q_aload_n Cx dL_law_431 rfl (lv_at hl 0 rfl) ?_
  refine q_iload_n Cx dL_law_432 rfl (lv_at hl 3 rfl) ?_
  refine q_iconst (v := (1 : Int32)) Cx dL_law_433 (by decide) ?_
  refine q_iadd Cx dL_law_434 ?_
  refine q_sld Cx hW hX hbl hbA (nI_add i 1) (j := i + 1) (by omega) hL dL_law_435 ?_
  refine q_aload_n Cx dL_law_436 rfl (lv_at hl 0 rfl) ?_
  refine q_iload_n Cx dL_law_437 rfl (lv_at hl 3 rfl) ?_
  refine q_iconst (v := (2 : Int32)) Cx dL_law_438 (by decide) ?_
  refine q_iadd Cx dL_law_439 ?_
  refine q_sld Cx hW hX hbl hbA (nI_add i 2) (j := i + 2) (by omega) hL dL_law_440 ?_
  refine q_aload_n Cx dL_law_441 rfl (lv_at hl 0 rfl) ?_
  refine q_iload_n Cx dL_law_442 rfl (lv_at hl 3 rfl) ?_
  refine q_iconst (v := (3 : Int32)) Cx dL_law_443 (by decide) ?_
  refine q_iadd Cx dL_law_444 ?_
  refine q_sld Cx hW hX hbl hbA (nI_add i 3) (j := i + 3) (by omega) hL dL_law_445 ?_
  refine q_callI (as := [.int (xs (i + 1)), .int (xs (i + 2)), .int (xs (i + 3))]) (rest := [.int r1]) Cx (met_w (kX6_give e2)) okX6_give ovX6_give wd_899 ⟨rfl, rfl, by decide, by decide⟩ hW oZ ic6 rfl hl.1 (Nat.le_of_ble_eq_true rfl) rfl dL_law_446 (fun H locs hW => ?_)
  refine q_icmp_eq (tgt := 955) Cx dL_law_449 (by decide) (fun _ => kk _ _ hW) (fun c => absurd hr c)
def LO_ofTask (M : Mem) (a1 : Int32) (a2 : Int32) : Option Mem :=
  c2 (FX5_ofTask M a1 a2) fun r1 M1 =>
  c2 (FX6_ofTask (M1 12) a1 a2) fun r2 Z =>
  if r1 = r2 then some (jb M1 12 Z) else none
set_option maxRecDepth 100000 in
set_option maxHeartbeats 4000000 in
theorem law_ofTask {E : WE} {V : VT} {A : Nat → Prop} {H0 : Heap} (Cx : CX E RL cL_law 4 8 197) {H : Heap} {locs : List Loc} {ls : Array Slot} {b L i : Nat} {xs : Nat → Int32} (hX : va_X b L xs (eS E) H0) (hbl : b < H0.size) (hbA : ¬ A b) (hL : L < 2 ^ 31) (hi : i + 6 ≤ L) {M M' : Mem} (hop : LO_ofTask M (xs (i + 1)) (xs (i + 2)) = some M') (hW : Wd V A H0 M (eS E) H locs) (hl : lv_has ls 4 [(0, .ref b), (1, .ref (vA V 11 0)), (2, .ref (vA V 12 0)), (3, .int (nI i))]) (kk : ∀ (H : Heap) (locs : List Loc), Wd V A H0 M' (eS E) H locs → Wq E H locs 955 ls []) : Wq E H locs 454 ls [] := by
  unfold LO_ofTask at hop
  obtain ⟨r1, M1, e1, hop⟩ := c2_some hop
  obtain ⟨r2, Z, e2, hop⟩ := c2_some hop
  obtain ⟨hr, rfl⟩ := ite_some hop
  refine q_aload_n Cx dL_law_454 rfl (lv_at hl 1 rfl) ?_
  refine q_aload_n Cx dL_law_455 rfl (lv_at hl 0 rfl) ?_
  refine q_iload_n Cx dL_law_456 rfl (lv_at hl 3 rfl) ?_
  refine q_iconst (v := (1 : Int32)) Cx dL_law_457 (by decide) ?_
  refine q_iadd Cx dL_law_458 ?_
  refine q_sld Cx hW hX hbl hbA (nI_add i 1) (j := i + 1) (by omega) hL dL_law_459 ?_
  refine q_aload_n Cx dL_law_460 rfl (lv_at hl 0 rfl) ?_
  refine q_iload_n Cx dL_law_461 rfl (lv_at hl 3 rfl) ?_
  refine q_iconst (v := (2 : Int32)) Cx dL_law_462 (by decide) ?_
  refine q_iadd Cx dL_law_463 ?_
  refine q_sld Cx hW hX hbl hbA (nI_add i 2) (j := i + 2) (by omega) hL dL_law_464 ?_
  refine q_callI (as := [.int (xs (i + 1)), .int (xs (i + 2))]) (rest := []) Cx (kX5_ofTask e1) okX5_ofTask ovX5_ofTask wd_458 ⟨rfl, rfl, by decide, by decide⟩ hW oX ic5 rfl hl.1 (Nat.le_of_ble_eq_true rfl) rfl dL_law_465 (fun H locs hW => ?_)
  refine q_aload_n Cx dL_law_468 rfl (lv_at hl 2 rfl) ?_
  refine q_aload_n Cx dL_law_469 rfl (lv_at hl 0 rfl) ?_
  refine q_iload_n Cx dL_law_470 rfl (lv_at hl 3 rfl) ?_
  refine q_iconst (v := (1 : Int32)) Cx dL_law_471 (by decide) ?_
  refine q_iadd Cx dL_law_472 ?_
  refine q_sld Cx hW hX hbl hbA (nI_add i 1) (j := i + 1) (by omega) hL dL_law_473 ?_
  refine q_aload_n Cx dL_law_474 rfl (lv_at hl 0 rfl) ?_
  refine q_iload_n Cx dL_law_475 rfl (lv_at hl 3 rfl) ?_
  refine q_iconst (v := (2 : Int32)) Cx dL_law_476 (by decide) ?_
  refine q_iadd Cx dL_law_477 ?_
  refine q_sld Cx hW hX hbl hbA (nI_add i 2) (j := i + 2) (by omega) hL dL_law_478 ?_
  refine q_callI (as := [.int (xs (i + 1)), .int (xs (i + 2))]) (rest := [.int r1]) Cx (met_w (kX6_ofTask e2)) okX6_ofTask ovX6_ofTask wd_903 ⟨rfl, rfl, by decide, by decide⟩ hW oZ ic6 rfl hl.1 (Nat.le_of_ble_eq_true rfl) rfl dL_law_479 (fun H locs hW => ?_)
  refine q_icmp_eq (tgt := 955) Cx dL_law_482 (by decide) (fun _ => kk _ _ hW) (fun c => absurd hr c)
def LO_due (M : Mem) (a1 : Int32) : Option Mem :=
  c1 (FX5_due M a1) fun r1 =>
  c1 (FX6_due (M 12) a1) fun r2 =>
  if r1 = r2 then some M else none
set_option maxRecDepth 100000 in
set_option maxHeartbeats 4000000 in
theorem law_due {E : WE} {V : VT} {A : Nat → Prop} {H0 : Heap} (Cx : CX E RL cL_law 4 8 197) {H : Heap} {locs : List Loc} {ls : Array Slot} {b L i : Nat} {xs : Nat → Int32} (hX : va_X b L xs (eS E) H0) (hbl : b < H0.size) (hbA : ¬ A b) (hL : L < 2 ^ 31) (hi : i + 6 ≤ L) {M M' : Mem} (hop : LO_due M (xs (i + 1)) = some M') (hW : Wd V A H0 M (eS E) H locs) (hl : lv_has ls 4 [(0, .ref b), (1, .ref (vA V 11 0)), (2, .ref (vA V 12 0)), (3, .int (nI i))]) (kk : ∀ (H : Heap) (locs : List Loc), Wd V A H0 M' (eS E) H locs → Wq E H locs 955 ls []) : Wq E H locs 487 ls [] := by
  unfold LO_due at hop
  obtain ⟨r1, e1, hop⟩ := c1_some hop
  obtain ⟨r2, e2, hop⟩ := c1_some hop
  obtain ⟨hr, rfl⟩ := ite_some hop
  refine q_aload_n Cx dL_law_487 rfl (lv_at hl 1 rfl) ?_
  refine q_aload_n Cx dL_law_488 rfl (lv_at hl 0 rfl) ?_
  refine q_iload_n Cx dL_law_489 rfl (lv_at hl 3 rfl) ?_
  refine q_iconst (v := (1 : Int32)) Cx dL_law_490 (by decide) ?_
  refine q_iadd Cx dL_law_491 ?_
  refine q_sld Cx hW hX hbl hbA (nI_add i 1) (j := i + 1) (by omega) hL dL_law_492 ?_
  refine q_callL (as := [.int (xs (i + 1))]) (rest := []) Cx (kX5_due e1) okX5_due ovX5_due wd_499 ⟨rfl, rfl, by decide, by decide⟩ hW oX ic5 rfl hl.1 (Nat.le_of_ble_eq_true rfl) rfl dL_law_493 (fun H locs hW => ?_)
  refine q_aload_n Cx dL_law_496 rfl (lv_at hl 2 rfl) ?_
  refine q_aload_n Cx dL_law_497 rfl (lv_at hl 0 rfl) ?_
  refine q_iload_n Cx dL_law_498 rfl (lv_at hl 3 rfl) ?_
  refine q_iconst (v := (1 : Int32)) Cx dL_law_499 (by decide) ?_
  refine q_iadd Cx dL_law_500 ?_
  refine q_sld Cx hW hX hbl hbA (nI_add i 1) (j := i + 1) (by omega) hL dL_law_501 ?_
  refine q_callL (as := [.int (xs (i + 1))]) (rest := [.long r1]) Cx (by have hq := kX6_due (l := eL E) (V := V) (M := M) e2; rw [jb_self] at hq; exact hq) okX6_due ovX6_due wd_927 ⟨rfl, rfl, by decide, by decide⟩ hW oZ ic6 rfl hl.1 (Nat.le_of_ble_eq_true rfl) rfl dL_law_502 (fun H locs hW => ?_)
  refine q_lcmp Cx dL_law_505 ?_
  refine q_if_eq (tgt := 955) Cx dL_law_506 (by decide) (fun _ => kk _ _ hW) (fun c => absurd (by rw [hr]; exact lg_cmp_self _) c)
def LO_money (M : Mem) (a1 : Int32) : Option Mem :=
  c1 (FX5_money M a1) fun r1 =>
  c1 (FX6_money (M 12) a1) fun r2 =>
  if r1 = r2 then some M else none
set_option maxRecDepth 100000 in
set_option maxHeartbeats 4000000 in
theorem law_money {E : WE} {V : VT} {A : Nat → Prop} {H0 : Heap} (Cx : CX E RL cL_law 4 8 197) {H : Heap} {locs : List Loc} {ls : Array Slot} {b L i : Nat} {xs : Nat → Int32} (hX : va_X b L xs (eS E) H0) (hbl : b < H0.size) (hbA : ¬ A b) (hL : L < 2 ^ 31) (hi : i + 6 ≤ L) {M M' : Mem} (hop : LO_money M (xs (i + 1)) = some M') (hW : Wd V A H0 M (eS E) H locs) (hl : lv_has ls 4 [(0, .ref b), (1, .ref (vA V 11 0)), (2, .ref (vA V 12 0)), (3, .int (nI i))]) (kk : ∀ (H : Heap) (locs : List Loc), Wd V A H0 M' (eS E) H locs → Wq E H locs 955 ls []) : Wq E H locs 511 ls [] := by
  unfold LO_money at hop
  obtain ⟨r1, e1, hop⟩ := c1_some hop
  obtain ⟨r2, e2, hop⟩ := c1_some hop
  obtain ⟨hr, rfl⟩ := ite_some hop
  refine q_aload_n Cx dL_law_511 rfl (lv_at hl 1 rfl) ?_
  refine q_aload_n Cx dL_law_512 rfl (lv_at hl 0 rfl) ?_
  refine q_iload_n Cx dL_law_513 rfl (lv_at hl 3 rfl) ?_
  refine q_iconst (v := (1 : Int32)) Cx dL_law_514 (by decide) ?_
  refine q_iadd Cx dL_law_515 ?_
  refine q_sld Cx hW hX hbl hbA (nI_add i 1) (j := i + 1) (by omega) hL dL_law_516 ?_
  refine q_callI (as := [.int (xs (i + 1))]) (rest := []) Cx (kX5_money e1) okX5_money ovX5_money wd_505 ⟨rfl, rfl, by decide, by decide⟩ hW oX ic5 rfl hl.1 (Nat.le_of_ble_eq_true rfl) rfl dL_law_517 (fun H locs hW => ?_)
  refine q_aload_n Cx dL_law_520 rfl (lv_at hl 2 rfl) ?_
  refine q_aload_n Cx dL_law_521 rfl (lv_at hl 0 rfl) ?_
  refine q_iload_n Cx dL_law_522 rfl (lv_at hl 3 rfl) ?_
  refine q_iconst (v := (1 : Int32)) Cx dL_law_523 (by decide) ?_
  refine q_iadd Cx dL_law_524 ?_
  refine q_sld Cx hW hX hbl hbA (nI_add i 1) (j := i + 1) (by omega) hL dL_law_525 ?_
  refine q_callI (as := [.int (xs (i + 1))]) (rest := [.int r1]) Cx (met_r (kX6_money e2)) okX6_money ovX6_money wd_932 ⟨rfl, rfl, by decide, by decide⟩ hW oZ ic6 rfl hl.1 (Nat.le_of_ble_eq_true rfl) rfl dL_law_526 (fun H locs hW => ?_)
  refine q_icmp_eq (tgt := 955) Cx dL_law_529 (by decide) (fun _ => kk _ _ hW) (fun c => absurd hr c)
def LO_at (M : Mem) (a1 : Int32) (a2 : Int32) : Option Mem :=
  c1 (FX5_at M a1 a2) fun r1 =>
  c1 (FX6_at (M 12) a1 a2) fun r2 =>
  if r1 = r2 then some M else none
set_option maxRecDepth 100000 in
set_option maxHeartbeats 4000000 in
theorem law_at {E : WE} {V : VT} {A : Nat → Prop} {H0 : Heap} (Cx : CX E RL cL_law 4 8 197) {H : Heap} {locs : List Loc} {ls : Array Slot} {b L i : Nat} {xs : Nat → Int32} (hX : va_X b L xs (eS E) H0) (hbl : b < H0.size) (hbA : ¬ A b) (hL : L < 2 ^ 31) (hi : i + 6 ≤ L) {M M' : Mem} (hop : LO_at M (xs (i + 1)) (xs (i + 2)) = some M') (hW : Wd V A H0 M (eS E) H locs) (hl : lv_has ls 4 [(0, .ref b), (1, .ref (vA V 11 0)), (2, .ref (vA V 12 0)), (3, .int (nI i))]) (kk : ∀ (H : Heap) (locs : List Loc), Wd V A H0 M' (eS E) H locs → Wq E H locs 955 ls []) : Wq E H locs 534 ls [] := by
  unfold LO_at at hop
  obtain ⟨r1, e1, hop⟩ := c1_some hop
  obtain ⟨r2, e2, hop⟩ := c1_some hop
  obtain ⟨hr, rfl⟩ := ite_some hop
  refine q_aload_n Cx dL_law_534 rfl (lv_at hl 1 rfl) ?_
  refine q_aload_n Cx dL_law_535 rfl (lv_at hl 0 rfl) ?_
  refine q_iload_n Cx dL_law_536 rfl (lv_at hl 3 rfl) ?_
  refine q_iconst (v := (1 : Int32)) Cx dL_law_537 (by decide) ?_
  refine q_iadd Cx dL_law_538 ?_
  refine q_sld Cx hW hX hbl hbA (nI_add i 1) (j := i + 1) (by omega) hL dL_law_539 ?_
  refine q_aload_n Cx dL_law_540 rfl (lv_at hl 0 rfl) ?_
  refine q_iload_n Cx dL_law_541 rfl (lv_at hl 3 rfl) ?_
  refine q_iconst (v := (2 : Int32)) Cx dL_law_542 (by decide) ?_
  refine q_iadd Cx dL_law_543 ?_
  refine q_sld Cx hW hX hbl hbA (nI_add i 2) (j := i + 2) (by omega) hL dL_law_544 ?_
  refine q_callI (as := [.int (xs (i + 1)), .int (xs (i + 2))]) (rest := []) Cx (kX5_at e1) okX5_at ovX5_at wd_509 ⟨rfl, rfl, by decide, by decide⟩ hW oX ic5 rfl hl.1 (Nat.le_of_ble_eq_true rfl) rfl dL_law_545 (fun H locs hW => ?_)
  refine q_aload_n Cx dL_law_548 rfl (lv_at hl 2 rfl) ?_
  refine q_aload_n Cx dL_law_549 rfl (lv_at hl 0 rfl) ?_
  refine q_iload_n Cx dL_law_550 rfl (lv_at hl 3 rfl) ?_
  refine q_iconst (v := (1 : Int32)) Cx dL_law_551 (by decide) ?_
  refine q_iadd Cx dL_law_552 ?_
  refine q_sld Cx hW hX hbl hbA (nI_add i 1) (j := i + 1) (by omega) hL dL_law_553 ?_
  refine q_aload_n Cx dL_law_554 rfl (lv_at hl 0 rfl) ?_
  refine q_iload_n Cx dL_law_555 rfl (lv_at hl 3 rfl) ?_
  refine q_iconst (v := (2 : Int32)) Cx dL_law_556 (by decide) ?_
  refine q_iadd Cx dL_law_557 ?_
  refine q_sld Cx hW hX hbl hbA (nI_add i 2) (j := i + 2) (by omega) hL dL_law_558 ?_
  refine q_callI (as := [.int (xs (i + 1)), .int (xs (i + 2))]) (rest := [.int r1]) Cx (met_r (kX6_at e2)) okX6_at ovX6_at wd_936 ⟨rfl, rfl, by decide, by decide⟩ hW oZ ic6 rfl hl.1 (Nat.le_of_ble_eq_true rfl) rfl dL_law_559 (fun H locs hW => ?_)
  refine q_icmp_eq (tgt := 955) Cx dL_law_562 (by decide) (fun _ => kk _ _ hW) (fun c => absurd hr c)
def LO_ofContract (M : Mem) (a1 : Int32) (a2 : Int32) : Option Mem :=
  c1 (FX5_ofContract M a1 a2) fun r1 =>
  c1 (FX6_ofContract (M 12) a1 a2) fun r2 =>
  if r1 = r2 then some M else none
set_option maxRecDepth 100000 in
set_option maxHeartbeats 4000000 in
theorem law_ofContract {E : WE} {V : VT} {A : Nat → Prop} {H0 : Heap} (Cx : CX E RL cL_law 4 8 197) {H : Heap} {locs : List Loc} {ls : Array Slot} {b L i : Nat} {xs : Nat → Int32} (hX : va_X b L xs (eS E) H0) (hbl : b < H0.size) (hbA : ¬ A b) (hL : L < 2 ^ 31) (hi : i + 6 ≤ L) {M M' : Mem} (hop : LO_ofContract M (xs (i + 1)) (xs (i + 2)) = some M') (hW : Wd V A H0 M (eS E) H locs) (hl : lv_has ls 4 [(0, .ref b), (1, .ref (vA V 11 0)), (2, .ref (vA V 12 0)), (3, .int (nI i))]) (kk : ∀ (H : Heap) (locs : List Loc), Wd V A H0 M' (eS E) H locs → Wq E H locs 955 ls []) : Wq E H locs 567 ls [] := by
  unfold LO_ofContract at hop
  obtain ⟨r1, e1, hop⟩ := c1_some hop
  obtain ⟨r2, e2, hop⟩ := c1_some hop
  obtain ⟨hr, rfl⟩ := ite_some hop
  refine q_aload_n Cx dL_law_567 rfl (lv_at hl 1 rfl) ?_
  refine q_aload_n Cx dL_law_568 rfl (lv_at hl 0 rfl) ?_
  refine q_iload_n Cx dL_law_569 rfl (lv_at hl 3 rfl) ?_
  refine q_iconst (v := (1 : Int32)) Cx dL_law_570 (by decide) ?_
  refine q_iadd Cx dL_law_571 ?_
  refine q_sld Cx hW hX hbl hbA (nI_add i 1) (j := i + 1) (by omega) hL dL_law_572 ?_
  refine q_aload_n Cx dL_law_573 rfl (lv_at hl 0 rfl) ?_
  refine q_iload_n Cx dL_law_574 rfl (lv_at hl 3 rfl) ?_
  refine q_iconst (v := (2 : Int32)) Cx dL_law_575 (by decide) ?_
  refine q_iadd Cx dL_law_576 ?_
  refine q_sld Cx hW hX hbl hbA (nI_add i 2) (j := i + 2) (by omega) hL dL_law_577 ?_
  refine q_callI (as := [.int (xs (i + 1)), .int (xs (i + 2))]) (rest := []) Cx (kX5_ofContract e1) okX5_ofContract ovX5_ofContract wd_514 ⟨rfl, rfl, by decide, by decide⟩ hW oX ic5 rfl hl.1 (Nat.le_of_ble_eq_true rfl) rfl dL_law_578 (fun H locs hW => ?_)
  refine q_aload_n Cx dL_law_581 rfl (lv_at hl 2 rfl) ?_
  refine q_aload_n Cx dL_law_582 rfl (lv_at hl 0 rfl) ?_
  refine q_iload_n Cx dL_law_583 rfl (lv_at hl 3 rfl) ?_
  refine q_iconst (v := (1 : Int32)) Cx dL_law_584 (by decide) ?_
  refine q_iadd Cx dL_law_585 ?_
  refine q_sld Cx hW hX hbl hbA (nI_add i 1) (j := i + 1) (by omega) hL dL_law_586 ?_
  refine q_aload_n Cx dL_law_587 rfl (lv_at hl 0 rfl) ?_
  refine q_iload_n Cx dL_law_588 rfl (lv_at hl 3 rfl) ?_
  refine q_iconst (v := (2 : Int32)) Cx dL_law_589 (by decide) ?_
  refine q_iadd Cx dL_law_590 ?_
  refine q_sld Cx hW hX hbl hbA (nI_add i 2) (j := i + 2) (by omega) hL dL_law_591 ?_
  refine q_callI (as := [.int (xs (i + 1)), .int (xs (i + 2))]) (rest := [.int r1]) Cx (met_r (kX6_ofContract e2)) okX6_ofContract ovX6_ofContract wd_940 ⟨rfl, rfl, by decide, by decide⟩ hW oZ ic6 rfl hl.1 (Nat.le_of_ble_eq_true rfl) rfl dL_law_592 (fun H locs hW => ?_)
  refine q_icmp_eq (tgt := 955) Cx dL_law_595 (by decide) (fun _ => kk _ _ hW) (fun c => absurd hr c)
def LO_count (M : Mem) (a1 : Int32) : Option Mem :=
  c1 (FX5_count M a1) fun r1 =>
  c2 (FX6_count (M 12) a1) fun r2 Z =>
  if r1 = r2 then some (jb M 12 Z) else none
set_option maxRecDepth 100000 in
set_option maxHeartbeats 4000000 in
theorem law_count {E : WE} {V : VT} {A : Nat → Prop} {H0 : Heap} (Cx : CX E RL cL_law 4 8 197) {H : Heap} {locs : List Loc} {ls : Array Slot} {b L i : Nat} {xs : Nat → Int32} (hX : va_X b L xs (eS E) H0) (hbl : b < H0.size) (hbA : ¬ A b) (hL : L < 2 ^ 31) (hi : i + 6 ≤ L) {M M' : Mem} (hop : LO_count M (xs (i + 1)) = some M') (hW : Wd V A H0 M (eS E) H locs) (hl : lv_has ls 4 [(0, .ref b), (1, .ref (vA V 11 0)), (2, .ref (vA V 12 0)), (3, .int (nI i))]) (kk : ∀ (H : Heap) (locs : List Loc), Wd V A H0 M' (eS E) H locs → Wq E H locs 955 ls []) : Wq E H locs 600 ls [] := by
  unfold LO_count at hop
  obtain ⟨r1, e1, hop⟩ := c1_some hop
  obtain ⟨r2, Z, e2, hop⟩ := c2_some hop
  obtain ⟨hr, rfl⟩ := ite_some hop
  refine q_aload_n Cx dL_law_600 rfl (lv_at hl 1 rfl) ?_
  refine q_aload_n Cx dL_law_601 rfl (lv_at hl 0 rfl) ?_
  refine q_iload_n Cx dL_law_602 rfl (lv_at hl 3 rfl) ?_
  refine q_iconst (v := (1 : Int32)) Cx dL_law_603 (by decide) ?_
  refine q_iadd Cx dL_law_604 ?_
  refine q_sld Cx hW hX hbl hbA (nI_add i 1) (j := i + 1) (by omega) hL dL_law_605 ?_
  refine q_callI (as := [.int (xs (i + 1))]) (rest := []) Cx (kX5_count e1) okX5_count ovX5_count wd_523 ⟨rfl, rfl, by decide, by decide⟩ hW oX ic5 rfl hl.1 (Nat.le_of_ble_eq_true rfl) rfl dL_law_606 (fun H locs hW => ?_)
  refine q_aload_n Cx dL_law_609 rfl (lv_at hl 2 rfl) ?_
  refine q_aload_n Cx dL_law_610 rfl (lv_at hl 0 rfl) ?_
  refine q_iload_n Cx dL_law_611 rfl (lv_at hl 3 rfl) ?_
  refine q_iconst (v := (1 : Int32)) Cx dL_law_612 (by decide) ?_
  refine q_iadd Cx dL_law_613 ?_
  refine q_sld Cx hW hX hbl hbA (nI_add i 1) (j := i + 1) (by omega) hL dL_law_614 ?_
  refine q_callI (as := [.int (xs (i + 1))]) (rest := [.int r1]) Cx (met_w (kX6_count e2)) okX6_count ovX6_count wd_944 ⟨rfl, rfl, by decide, by decide⟩ hW oZ ic6 rfl hl.1 (Nat.le_of_ble_eq_true rfl) rfl dL_law_615 (fun H locs hW => ?_)
  refine q_icmp_eq (tgt := 955) Cx dL_law_618 (by decide) (fun _ => kk _ _ hW) (fun c => absurd hr c)
def LO_distance (M : Mem) (a1 : Int32) (a2 : Int32) : Option Mem :=
  c2 (FX5_distance M a1 a2) fun r1 M1 =>
  c2 (FX6_distance (M1 12) a1 a2) fun r2 Z =>
  if r1 = r2 then some (jb M1 12 Z) else none
set_option maxRecDepth 100000 in
set_option maxHeartbeats 4000000 in
theorem law_distance {E : WE} {V : VT} {A : Nat → Prop} {H0 : Heap} (Cx : CX E RL cL_law 4 8 197) {H : Heap} {locs : List Loc} {ls : Array Slot} {b L i : Nat} {xs : Nat → Int32} (hX : va_X b L xs (eS E) H0) (hbl : b < H0.size) (hbA : ¬ A b) (hL : L < 2 ^ 31) (hi : i + 6 ≤ L) {M M' : Mem} (hop : LO_distance M (xs (i + 1)) (xs (i + 2)) = some M') (hW : Wd V A H0 M (eS E) H locs) (hl : lv_has ls 4 [(0, .ref b), (1, .ref (vA V 11 0)), (2, .ref (vA V 12 0)), (3, .int (nI i))]) (kk : ∀ (H : Heap) (locs : List Loc), Wd V A H0 M' (eS E) H locs → Wq E H locs 955 ls []) : Wq E H locs 623 ls [] := by
  unfold LO_distance at hop
  obtain ⟨r1, M1, e1, hop⟩ := c2_some hop
  obtain ⟨r2, Z, e2, hop⟩ := c2_some hop
  obtain ⟨hr, rfl⟩ := ite_some hop
  refine q_aload_n Cx dL_law_623 rfl (lv_at hl 1 rfl) ?_
  refine q_aload_n Cx dL_law_624 rfl (lv_at hl 0 rfl) ?_
  refine q_iload_n Cx dL_law_625 rfl (lv_at hl 3 rfl) ?_
  refine q_iconst (v := (1 : Int32)) Cx dL_law_626 (by decide) ?_
  refine q_iadd Cx dL_law_627 ?_
  refine q_sld Cx hW hX hbl hbA (nI_add i 1) (j := i + 1) (by omega) hL dL_law_628 ?_
  refine q_aload_n Cx dL_law_629 rfl (lv_at hl 0 rfl) ?_
  refine q_iload_n Cx dL_law_630 rfl (lv_at hl 3 rfl) ?_
  refine q_iconst (v := (2 : Int32)) Cx dL_law_631 (by decide) ?_
  refine q_iadd Cx dL_law_632 ?_
  refine q_sld Cx hW hX hbl hbA (nI_add i 2) (j := i + 2) (by omega) hL dL_law_633 ?_
  refine q_callI (as := [.int (xs (i + 1)), .int (xs (i + 2))]) (rest := []) Cx (kX5_distance e1) okX5_distance ovX5_distance wd_551 ⟨rfl, rfl, by decide, by decide⟩ hW oX ic5 rfl hl.1 (Nat.le_of_ble_eq_true rfl) rfl dL_law_634 (fun H locs hW => ?_)
  refine q_aload_n Cx dL_law_637 rfl (lv_at hl 2 rfl) ?_
  refine q_aload_n Cx dL_law_638 rfl (lv_at hl 0 rfl) ?_
  refine q_iload_n Cx dL_law_639 rfl (lv_at hl 3 rfl) ?_
  refine q_iconst (v := (1 : Int32)) Cx dL_law_640 (by decide) ?_
  refine q_iadd Cx dL_law_641 ?_
  refine q_sld Cx hW hX hbl hbA (nI_add i 1) (j := i + 1) (by omega) hL dL_law_642 ?_
  refine q_aload_n Cx dL_law_643 rfl (lv_at hl 0 rfl) ?_
  refine q_iload_n Cx dL_law_644 rfl (lv_at hl 3 rfl) ?_
  refine q_iconst (v := (2 : Int32)) Cx dL_law_645 (by decide) ?_
  refine q_iadd Cx dL_law_646 ?_
  refine q_sld Cx hW hX hbl hbA (nI_add i 2) (j := i + 2) (by omega) hL dL_law_647 ?_
  refine q_callI (as := [.int (xs (i + 1)), .int (xs (i + 2))]) (rest := [.int r1]) Cx (met_w (kX6_distance e2)) okX6_distance ovX6_distance wd_832 ⟨rfl, rfl, by decide, by decide⟩ hW oZ ic6 rfl hl.1 (Nat.le_of_ble_eq_true rfl) rfl dL_law_648 (fun H locs hW => ?_)
  refine q_icmp_eq (tgt := 955) Cx dL_law_651 (by decide) (fun _ => kk _ _ hW) (fun c => absurd hr c)
def LO_wouldBuy (M : Mem) (a1 : Int32) (a2 : Int32) : Option Mem :=
  c2 (FX5_wouldBuy M a1 a2) fun r1 M1 =>
  c2 (FX6_wouldBuy (M1 12) a1 a2) fun r2 Z =>
  if r1 = r2 then some (jb M1 12 Z) else none
set_option maxRecDepth 100000 in
set_option maxHeartbeats 4000000 in
theorem law_wouldBuy {E : WE} {V : VT} {A : Nat → Prop} {H0 : Heap} (Cx : CX E RL cL_law 4 8 197) {H : Heap} {locs : List Loc} {ls : Array Slot} {b L i : Nat} {xs : Nat → Int32} (hX : va_X b L xs (eS E) H0) (hbl : b < H0.size) (hbA : ¬ A b) (hL : L < 2 ^ 31) (hi : i + 6 ≤ L) {M M' : Mem} (hop : LO_wouldBuy M (xs (i + 1)) (xs (i + 2)) = some M') (hW : Wd V A H0 M (eS E) H locs) (hl : lv_has ls 4 [(0, .ref b), (1, .ref (vA V 11 0)), (2, .ref (vA V 12 0)), (3, .int (nI i))]) (kk : ∀ (H : Heap) (locs : List Loc), Wd V A H0 M' (eS E) H locs → Wq E H locs 955 ls []) : Wq E H locs 656 ls [] := by
  unfold LO_wouldBuy at hop
  obtain ⟨r1, M1, e1, hop⟩ := c2_some hop
  obtain ⟨r2, Z, e2, hop⟩ := c2_some hop
  obtain ⟨hr, rfl⟩ := ite_some hop
  refine q_aload_n Cx dL_law_656 rfl (lv_at hl 1 rfl) ?_
  refine q_aload_n Cx dL_law_657 rfl (lv_at hl 0 rfl) ?_
  refine q_iload_n Cx dL_law_658 rfl (lv_at hl 3 rfl) ?_
  refine q_iconst (v := (1 : Int32)) Cx dL_law_659 (by decide) ?_
  refine q_iadd Cx dL_law_660 ?_
  refine q_sld Cx hW hX hbl hbA (nI_add i 1) (j := i + 1) (by omega) hL dL_law_661 ?_
  refine q_aload_n Cx dL_law_662 rfl (lv_at hl 0 rfl) ?_
  refine q_iload_n Cx dL_law_663 rfl (lv_at hl 3 rfl) ?_
  refine q_iconst (v := (2 : Int32)) Cx dL_law_664 (by decide) ?_
  refine q_iadd Cx dL_law_665 ?_
  refine q_sld Cx hW hX hbl hbA (nI_add i 2) (j := i + 2) (by omega) hL dL_law_666 ?_
  refine q_callI (as := [.int (xs (i + 1)), .int (xs (i + 2))]) (rest := []) Cx (kX5_wouldBuy e1) okX5_wouldBuy ovX5_wouldBuy wd_556 ⟨rfl, rfl, by decide, by decide⟩ hW oX ic5 rfl hl.1 (Nat.le_of_ble_eq_true rfl) rfl dL_law_667 (fun H locs hW => ?_)
  refine q_aload_n Cx dL_law_670 rfl (lv_at hl 2 rfl) ?_
  refine q_aload_n Cx dL_law_671 rfl (lv_at hl 0 rfl) ?_
  refine q_iload_n Cx dL_law_672 rfl (lv_at hl 3 rfl) ?_
  refine q_iconst (v := (1 : Int32)) Cx dL_law_673 (by decide) ?_
  refine q_iadd Cx dL_law_674 ?_
  refine q_sld Cx hW hX hbl hbA (nI_add i 1) (j := i + 1) (by omega) hL dL_law_675 ?_
  refine q_aload_n Cx dL_law_676 rfl (lv_at hl 0 rfl) ?_
  refine q_iload_n Cx dL_law_677 rfl (lv_at hl 3 rfl) ?_
  refine q_iconst (v := (2 : Int32)) Cx dL_law_678 (by decide) ?_
  refine q_iadd Cx dL_law_679 ?_
  refine q_sld Cx hW hX hbl hbA (nI_add i 2) (j := i + 2) (by omega) hL dL_law_680 ?_
  refine q_callI (as := [.int (xs (i + 1)), .int (xs (i + 2))]) (rest := [.int r1]) Cx (met_w (kX6_wouldBuy e2)) okX6_wouldBuy ovX6_wouldBuy wd_964 ⟨rfl, rfl, by decide, by decide⟩ hW oZ ic6 rfl hl.1 (Nat.le_of_ble_eq_true rfl) rfl dL_law_681 (fun H locs hW => ?_)
  refine q_icmp_eq (tgt := 955) Cx dL_law_684 (by decide) (fun _ => kk _ _ hW) (fun c => absurd hr c)
def LO_leastMoney (M : Mem) (a1 : Int32) : Option Mem :=
  c2 (FX5_leastMoney M a1) fun r1 M1 =>
  c2 (FX6_leastMoney (M1 12) a1) fun r2 Z =>
  if r1 = r2 then some (jb M1 12 Z) else none
set_option maxRecDepth 100000 in
set_option maxHeartbeats 4000000 in
theorem law_leastMoney {E : WE} {V : VT} {A : Nat → Prop} {H0 : Heap} (Cx : CX E RL cL_law 4 8 197) {H : Heap} {locs : List Loc} {ls : Array Slot} {b L i : Nat} {xs : Nat → Int32} (hX : va_X b L xs (eS E) H0) (hbl : b < H0.size) (hbA : ¬ A b) (hL : L < 2 ^ 31) (hi : i + 6 ≤ L) {M M' : Mem} (hop : LO_leastMoney M (xs (i + 1)) = some M') (hW : Wd V A H0 M (eS E) H locs) (hl : lv_has ls 4 [(0, .ref b), (1, .ref (vA V 11 0)), (2, .ref (vA V 12 0)), (3, .int (nI i))]) (kk : ∀ (H : Heap) (locs : List Loc), Wd V A H0 M' (eS E) H locs → Wq E H locs 955 ls []) : Wq E H locs 689 ls [] := by
  unfold LO_leastMoney at hop
  obtain ⟨r1, M1, e1, hop⟩ := c2_some hop
  obtain ⟨r2, Z, e2, hop⟩ := c2_some hop
  obtain ⟨hr, rfl⟩ := ite_some hop
  refine q_aload_n Cx dL_law_689 rfl (lv_at hl 1 rfl) ?_
  refine q_aload_n Cx dL_law_690 rfl (lv_at hl 0 rfl) ?_
  refine q_iload_n Cx dL_law_691 rfl (lv_at hl 3 rfl) ?_
  refine q_iconst (v := (1 : Int32)) Cx dL_law_692 (by decide) ?_
  refine q_iadd Cx dL_law_693 ?_
  refine q_sld Cx hW hX hbl hbA (nI_add i 1) (j := i + 1) (by omega) hL dL_law_694 ?_
  refine q_callI (as := [.int (xs (i + 1))]) (rest := []) Cx (kX5_leastMoney e1) okX5_leastMoney ovX5_leastMoney wd_568 ⟨rfl, rfl, by decide, by decide⟩ hW oX ic5 rfl hl.1 (Nat.le_of_ble_eq_true rfl) rfl dL_law_695 (fun H locs hW => ?_)
  refine q_aload_n Cx dL_law_698 rfl (lv_at hl 2 rfl) ?_
  refine q_aload_n Cx dL_law_699 rfl (lv_at hl 0 rfl) ?_
  refine q_iload_n Cx dL_law_700 rfl (lv_at hl 3 rfl) ?_
  refine q_iconst (v := (1 : Int32)) Cx dL_law_701 (by decide) ?_
  refine q_iadd Cx dL_law_702 ?_
  refine q_sld Cx hW hX hbl hbA (nI_add i 1) (j := i + 1) (by omega) hL dL_law_703 ?_
  refine q_callI (as := [.int (xs (i + 1))]) (rest := [.int r1]) Cx (met_w (kX6_leastMoney e2)) okX6_leastMoney ovX6_leastMoney wd_976 ⟨rfl, rfl, by decide, by decide⟩ hW oZ ic6 rfl hl.1 (Nat.le_of_ble_eq_true rfl) rfl dL_law_704 (fun H locs hW => ?_)
  refine q_icmp_eq (tgt := 955) Cx dL_law_707 (by decide) (fun _ => kk _ _ hW) (fun c => absurd hr c)
def LO_endIf (M : Mem) (a1 : Int32) (a2 : Int32) (a3 : Int32) : Option Mem :=
  c2 (FX5_endIf M a1 a2 a3) fun r1 M1 =>
  c2 (FX6_endIf (M1 12) a1 a2 a3) fun r2 Z =>
  if r1 = r2 then some (jb M1 12 Z) else none
set_option maxRecDepth 100000 in
set_option maxHeartbeats 4000000 in
theorem law_endIf {E : WE} {V : VT} {A : Nat → Prop} {H0 : Heap} (Cx : CX E RL cL_law 4 8 197) {H : Heap} {locs : List Loc} {ls : Array Slot} {b L i : Nat} {xs : Nat → Int32} (hX : va_X b L xs (eS E) H0) (hbl : b < H0.size) (hbA : ¬ A b) (hL : L < 2 ^ 31) (hi : i + 6 ≤ L) {M M' : Mem} (hop : LO_endIf M (xs (i + 1)) (xs (i + 2)) (xs (i + 3)) = some M') (hW : Wd V A H0 M (eS E) H locs) (hl : lv_has ls 4 [(0, .ref b), (1, .ref (vA V 11 0)), (2, .ref (vA V 12 0)), (3, .int (nI i))]) (kk : ∀ (H : Heap) (locs : List Loc), Wd V A H0 M' (eS E) H locs → Wq E H locs 955 ls []) : Wq E H locs 712 ls [] := by
  unfold LO_endIf at hop
  obtain ⟨r1, M1, e1, hop⟩ := c2_some hop
  obtain ⟨r2, Z, e2, hop⟩ := c2_some hop
  obtain ⟨hr, rfl⟩ := ite_some hop
  refine q_aload_n Cx dL_law_712 rfl (lv_at hl 1 rfl) ?_
  refine q_aload_n Cx dL_law_713 rfl (lv_at hl 0 rfl) ?_
  refine q_iload_n Cx dL_law_714 rfl (lv_at hl 3 rfl) ?_
  refine q_iconst (v := (1 : Int32)) Cx dL_law_715 (by decide) ?_
  refine q_iadd Cx dL_law_716 ?_
  refine q_sld Cx hW hX hbl hbA (nI_add i 1) (j := i + 1) (by omega) hL dL_law_717 ?_
  refine q_aload_n Cx dL_law_718 rfl (lv_at hl 0 rfl) ?_
  refine q_iload_n Cx dL_law_719 rfl (lv_at hl 3 rfl) ?_
  refine q_iconst (v := (2 : Int32)) Cx dL_law_720 (by decide) ?_
  refine q_iadd Cx dL_law_721 ?_
  refine q_sld Cx hW hX hbl hbA (nI_add i 2) (j := i + 2) (by omega) hL dL_law_722 ?_
  refine q_aload_n Cx dL_law_723 rfl (lv_at hl 0 rfl) ?_
  refine q_iload_n Cx dL_law_724 rfl (lv_at hl 3 rfl) ?_
  refine q_iconst (v := (3 : Int32)) Cx dL_law_725 (by decide) ?_
  refine q_iadd Cx dL_law_726 ?_
  refine q_sld Cx hW hX hbl hbA (nI_add i 3) (j := i + 3) (by omega) hL dL_law_727 ?_
  refine q_callI (as := [.int (xs (i + 1)), .int (xs (i + 2)), .int (xs (i + 3))]) (rest := []) Cx (kX5_endIf e1) okX5_endIf ovX5_endIf wd_573 ⟨rfl, rfl, by decide, by decide⟩ hW oX ic5 rfl hl.1 (Nat.le_of_ble_eq_true rfl) rfl dL_law_728 (fun H locs hW => ?_)
  refine q_aload_n Cx dL_law_731 rfl (lv_at hl 2 rfl) ?_
  refine q_aload_n Cx dL_law_732 rfl (lv_at hl 0 rfl) ?_
  refine q_iload_n Cx dL_law_733 rfl (lv_at hl 3 rfl) ?_
  refine q_iconst (v := (1 : Int32)) Cx dL_law_734 (by decide) ?_
  refine q_iadd Cx dL_law_735 ?_
  refine q_sld Cx hW hX hbl hbA (nI_add i 1) (j := i + 1) (by omega) hL dL_law_736 ?_
  refine q_aload_n Cx dL_law_737 rfl (lv_at hl 0 rfl) ?_
  refine q_iload_n Cx dL_law_738 rfl (lv_at hl 3 rfl) ?_
  refine q_iconst (v := (2 : Int32)) Cx dL_law_739 (by decide) ?_
  refine q_iadd Cx dL_law_740 ?_
  refine q_sld Cx hW hX hbl hbA (nI_add i 2) (j := i + 2) (by omega) hL dL_law_741 ?_
  refine q_aload_n Cx dL_law_742 rfl (lv_at hl 0 rfl) ?_
  refine q_iload_n Cx dL_law_743 rfl (lv_at hl 3 rfl) ?_
  refine q_iconst (v := (3 : Int32)) Cx dL_law_744 (by decide) ?_
  refine q_iadd Cx dL_law_745 ?_
  refine q_sld Cx hW hX hbl hbA (nI_add i 3) (j := i + 3) (by omega) hL dL_law_746 ?_
  refine q_callI (as := [.int (xs (i + 1)), .int (xs (i + 2)), .int (xs (i + 3))]) (rest := [.int r1]) Cx (met_w (kX6_endIf e2)) okX6_endIf ovX6_endIf wd_981 ⟨rfl, rfl, by decide, by decide⟩ hW oZ ic6 rfl hl.1 (Nat.le_of_ble_eq_true rfl) rfl dL_law_747 (fun H locs hW => ?_)
  refine q_icmp_eq (tgt := 955) Cx dL_law_750 (by decide) (fun _ => kk _ _ hW) (fun c => absurd hr c)
def LO_bestPlace (M : Mem) (a1 : Int32) : Option Mem :=
  c2 (FX5_bestPlace M a1) fun r1 M1 =>
  c2 (FX6_bestPlace (M1 12) a1) fun r2 Z =>
  if r1 = r2 then some (jb M1 12 Z) else none
set_option maxRecDepth 100000 in
set_option maxHeartbeats 4000000 in
theorem law_bestPlace {E : WE} {V : VT} {A : Nat → Prop} {H0 : Heap} (Cx : CX E RL cL_law 4 8 197) {H : Heap} {locs : List Loc} {ls : Array Slot} {b L i : Nat} {xs : Nat → Int32} (hX : va_X b L xs (eS E) H0) (hbl : b < H0.size) (hbA : ¬ A b) (hL : L < 2 ^ 31) (hi : i + 6 ≤ L) {M M' : Mem} (hop : LO_bestPlace M (xs (i + 1)) = some M') (hW : Wd V A H0 M (eS E) H locs) (hl : lv_has ls 4 [(0, .ref b), (1, .ref (vA V 11 0)), (2, .ref (vA V 12 0)), (3, .int (nI i))]) (kk : ∀ (H : Heap) (locs : List Loc), Wd V A H0 M' (eS E) H locs → Wq E H locs 955 ls []) : Wq E H locs 755 ls [] := by
  unfold LO_bestPlace at hop
  obtain ⟨r1, M1, e1, hop⟩ := c2_some hop
  obtain ⟨r2, Z, e2, hop⟩ := c2_some hop
  obtain ⟨hr, rfl⟩ := ite_some hop
  refine q_aload_n Cx dL_law_755 rfl (lv_at hl 1 rfl) ?_
  refine q_aload_n Cx dL_law_756 rfl (lv_at hl 0 rfl) ?_
  refine q_iload_n Cx dL_law_757 rfl (lv_at hl 3 rfl) ?_
  refine q_iconst (v := (1 : Int32)) Cx dL_law_758 (by decide) ?_
  refine q_iadd Cx dL_law_759 ?_
  refine q_sld Cx hW hX hbl hbA (nI_add i 1) (j := i + 1) (by omega) hL dL_law_760 ?_
  refine q_callI (as := [.int (xs (i + 1))]) (rest := []) Cx (kX5_bestPlace e1) okX5_bestPlace ovX5_bestPlace wd_578 ⟨rfl, rfl, by decide, by decide⟩ hW oX ic5 rfl hl.1 (Nat.le_of_ble_eq_true rfl) rfl dL_law_761 (fun H locs hW => ?_)
  refine q_aload_n Cx dL_law_764 rfl (lv_at hl 2 rfl) ?_
  refine q_aload_n Cx dL_law_765 rfl (lv_at hl 0 rfl) ?_
  refine q_iload_n Cx dL_law_766 rfl (lv_at hl 3 rfl) ?_
  refine q_iconst (v := (1 : Int32)) Cx dL_law_767 (by decide) ?_
  refine q_iadd Cx dL_law_768 ?_
  refine q_sld Cx hW hX hbl hbA (nI_add i 1) (j := i + 1) (by omega) hL dL_law_769 ?_
  refine q_callI (as := [.int (xs (i + 1))]) (rest := [.int r1]) Cx (met_w (kX6_bestPlace e2)) okX6_bestPlace ovX6_bestPlace wd_985 ⟨rfl, rfl, by decide, by decide⟩ hW oZ ic6 rfl hl.1 (Nat.le_of_ble_eq_true rfl) rfl dL_law_770 (fun H locs hW => ?_)
  refine q_icmp_eq (tgt := 955) Cx dL_law_773 (by decide) (fun _ => kk _ _ hW) (fun c => absurd hr c)
def LO_critical (M : Mem) : Option Mem :=
  c1 (FX5_critical M) fun r1 =>
  c2 (FX6_critical (M 12)) fun r2 Z =>
  if r1 = r2 then some (jb M 12 Z) else none
set_option maxRecDepth 100000 in
set_option maxHeartbeats 4000000 in
theorem law_critical {E : WE} {V : VT} {A : Nat → Prop} {H0 : Heap} (Cx : CX E RL cL_law 4 8 197) {H : Heap} {locs : List Loc} {ls : Array Slot} {b L i : Nat} {xs : Nat → Int32} (hX : va_X b L xs (eS E) H0) (hbl : b < H0.size) (hbA : ¬ A b) (hL : L < 2 ^ 31) (hi : i + 6 ≤ L) {M M' : Mem} (hop : LO_critical M = some M') (hW : Wd V A H0 M (eS E) H locs) (hl : lv_has ls 4 [(0, .ref b), (1, .ref (vA V 11 0)), (2, .ref (vA V 12 0)), (3, .int (nI i))]) (kk : ∀ (H : Heap) (locs : List Loc), Wd V A H0 M' (eS E) H locs → Wq E H locs 955 ls []) : Wq E H locs 778 ls [] := by
  unfold LO_critical at hop
  obtain ⟨r1, e1, hop⟩ := c1_some hop
  obtain ⟨r2, Z, e2, hop⟩ := c2_some hop
  obtain ⟨hr, rfl⟩ := ite_some hop
  refine q_aload_n Cx dL_law_778 rfl (lv_at hl 1 rfl) ?_
  refine q_callI (as := []) (rest := []) Cx (kX5_critical e1) okX5_critical ovX5_critical wd_586 ⟨rfl, rfl, by decide, by decide⟩ hW oX ic5 rfl hl.1 (Nat.le_of_ble_eq_true rfl) rfl dL_law_779 (fun H locs hW => ?_)
  refine q_aload_n Cx dL_law_782 rfl (lv_at hl 2 rfl) ?_
  refine q_callI (as := []) (rest := [.int r1]) Cx (met_w (kX6_critical e2)) okX6_critical ovX6_critical wd_989 ⟨rfl, rfl, by decide, by decide⟩ hW oZ ic6 rfl hl.1 (Nat.le_of_ble_eq_true rfl) rfl dL_law_783 (fun H locs hW => ?_)
  refine q_icmp_eq (tgt := 955) Cx dL_law_786 (by decide) (fun _ => kk _ _ hW) (fun c => absurd hr c)
def LO_lateBehind (M : Mem) : Option Mem :=
  c2 (FX5_lateBehind M) fun r1 M1 =>
  c2 (FX6_lateBehind (M1 12)) fun r2 Z =>
  if r1 = r2 then some (jb M1 12 Z) else none
set_option maxRecDepth 100000 in
set_option maxHeartbeats 4000000 in
theorem law_lateBehind {E : WE} {V : VT} {A : Nat → Prop} {H0 : Heap} (Cx : CX E RL cL_law 4 8 197) {H : Heap} {locs : List Loc} {ls : Array Slot} {b L i : Nat} {xs : Nat → Int32} (hX : va_X b L xs (eS E) H0) (hbl : b < H0.size) (hbA : ¬ A b) (hL : L < 2 ^ 31) (hi : i + 6 ≤ L) {M M' : Mem} (hop : LO_lateBehind M = some M') (hW : Wd V A H0 M (eS E) H locs) (hl : lv_has ls 4 [(0, .ref b), (1, .ref (vA V 11 0)), (2, .ref (vA V 12 0)), (3, .int (nI i))]) (kk : ∀ (H : Heap) (locs : List Loc), Wd V A H0 M' (eS E) H locs → Wq E H locs 955 ls []) : Wq E H locs 791 ls [] := by
  unfold LO_lateBehind at hop
  obtain ⟨r1, M1, e1, hop⟩ := c2_some hop
  obtain ⟨r2, Z, e2, hop⟩ := c2_some hop
  obtain ⟨hr, rfl⟩ := ite_some hop
  refine q_aload_n Cx dL_law_791 rfl (lv_at hl 1 rfl) ?_
  refine q_callI (as := []) (rest := []) Cx (kX5_lateBehind e1) okX5_lateBehind ovX5_lateBehind wd_601 ⟨rfl, rfl, by decide, by decide⟩ hW oX ic5 rfl hl.1 (Nat.le_of_ble_eq_true rfl) rfl dL_law_792 (fun H locs hW => ?_)
  refine q_aload_n Cx dL_law_795 rfl (lv_at hl 2 rfl) ?_
  refine q_callI (as := []) (rest := [.int r1]) Cx (met_w (kX6_lateBehind e2)) okX6_lateBehind ovX6_lateBehind wd_993 ⟨rfl, rfl, by decide, by decide⟩ hW oZ ic6 rfl hl.1 (Nat.le_of_ble_eq_true rfl) rfl dL_law_796 (fun H locs hW => ?_)
  refine q_icmp_eq (tgt := 955) Cx dL_law_799 (by decide) (fun _ => kk _ _ hW) (fun c => absurd hr c)
def LO_put (M : Mem) (a1 : Int64) : Option Mem :=
  c2 (FX5_put M a1) fun r1 M1 =>
  c2 (FX6_put (M1 12) a1) fun r2 Z =>
  if r1 = r2 then some (jb M1 12 Z) else none
set_option maxRecDepth 100000 in
set_option maxHeartbeats 4000000 in
theorem law_put {E : WE} {V : VT} {A : Nat → Prop} {H0 : Heap} (Cx : CX E RL cL_law 4 8 197) {H : Heap} {locs : List Loc} {ls : Array Slot} {b L i : Nat} {xs : Nat → Int32} (hX : va_X b L xs (eS E) H0) (hbl : b < H0.size) (hbA : ¬ A b) (hL : L < 2 ^ 31) (hi : i + 6 ≤ L) {M M' : Mem} (hop : LO_put M ((xs (i + 1)).toInt64 <<< ((32 : Int32).toInt64 &&& 63) ||| (xs (i + 2)).toInt64 &&& 4294967295) = some M') (hW : Wd V A H0 M (eS E) H locs) (hl : lv_has ls 4 [(0, .ref b), (1, .ref (vA V 11 0)), (2, .ref (vA V 12 0)), (3, .int (nI i))]) (kk : ∀ (H : Heap) (locs : List Loc), Wd V A H0 M' (eS E) H locs → Wq E H locs 955 ls []) : Wq E H locs 804 ls [] := by
  unfold LO_put at hop
  obtain ⟨r1, M1, e1, hop⟩ := c2_some hop
  obtain ⟨r2, Z, e2, hop⟩ := c2_some hop
  obtain ⟨hr, rfl⟩ := ite_some hop
  refine q_aload_n Cx dL_law_804 rfl (lv_at hl 1 rfl) ?_
  refine q_aload_n Cx dL_law_805 rfl (lv_at hl 0 rfl) ?_
  refine q_iload_n Cx dL_law_806 rfl (lv_at hl 3 rfl) ?_
  refine q_iconst (v := (1 : Int32)) Cx dL_law_807 (by decide) ?_
  refine q_iadd Cx dL_law_808 ?_
  refine q_sld Cx hW hX hbl hbA (nI_add i 1) (j := i + 1) (by omega) hL dL_law_809 ?_
  refine q_i2l Cx dL_law_810 ?_
  refine q_bipush (v := (32 : Int32)) Cx dL_law_811 (by decide) ?_
  refine q_lshl Cx dL_law_813 ?_
  refine q_aload_n Cx dL_law_814 rfl (lv_at hl 0 rfl) ?_
  refine q_iload_n Cx dL_law_815 rfl (lv_at hl 3 rfl) ?_
  refine q_iconst (v := (2 : Int32)) Cx dL_law_816 (by decide) ?_
  refine q_iadd Cx dL_law_817 ?_
  refine q_sld Cx hW hX hbl hbA (nI_add i 2) (j := i + 2) (by omega) hL dL_law_818 ?_
  refine q_i2l Cx dL_law_819 ?_
  refine q_ldc2 (v := (4294967295 : Int64)) Cx dL_law_820 wd_1064 ?_
  refine q_land Cx dL_law_823 ?_
  refine q_lor Cx dL_law_824 ?_
  refine q_callI (as := [.long ((xs (i + 1)).toInt64 <<< ((32 : Int32).toInt64 &&& 63) ||| (xs (i + 2)).toInt64 &&& 4294967295)]) (rest := []) Cx (kX5_put e1) okX5_put ovX5_put wd_606 ⟨rfl, rfl, by decide, by decide⟩ hW oX ic5 rfl hl.1 (Nat.le_of_ble_eq_true rfl) rfl dL_law_825 (fun H locs hW => ?_)
  refine q_aload_n Cx dL_law_828 rfl (lv_at hl 2 rfl) ?_
  refine q_aload_n Cx dL_law_829 rfl (lv_at hl 0 rfl) ?_
  refine q_iload_n Cx dL_law_830 rfl (lv_at hl 3 rfl) ?_
  refine q_iconst (v := (1 : Int32)) Cx dL_law_831 (by decide) ?_
  refine q_iadd Cx dL_law_832 ?_
  refine q_sld Cx hW hX hbl hbA (nI_add i 1) (j := i + 1) (by omega) hL dL_law_833 ?_
  refine q_i2l Cx dL_law_834 ?_
  refine q_bipush (v := (32 : Int32)) Cx dL_law_835 (by decide) ?_
  refine q_lshl Cx dL_law_837 ?_
  refine q_aload_n Cx dL_law_838 rfl (lv_at hl 0 rfl) ?_
  refine q_iload_n Cx dL_law_839 rfl (lv_at hl 3 rfl) ?_
  refine q_iconst (v := (2 : Int32)) Cx dL_law_840 (by decide) ?_
  refine q_iadd Cx dL_law_841 ?_
  refine q_sld Cx hW hX hbl hbA (nI_add i 2) (j := i + 2) (by omega) hL dL_law_842 ?_
  refine q_i2l Cx dL_law_843 ?_
  refine q_ldc2 (v := (4294967295 : Int64)) Cx dL_law_844 wd_1064 ?_
  refine q_land Cx dL_law_847 ?_
  refine q_lor Cx dL_law_848 ?_
  refine q_callI (as := [.long ((xs (i + 1)).toInt64 <<< ((32 : Int32).toInt64 &&& 63) ||| (xs (i + 2)).toInt64 &&& 4294967295)]) (rest := [.int r1]) Cx (met_w (kX6_put e2)) okX6_put ovX6_put wd_997 ⟨rfl, rfl, by decide, by decide⟩ hW oZ ic6 rfl hl.1 (Nat.le_of_ble_eq_true rfl) rfl dL_law_849 (fun H locs hW => ?_)
  refine q_icmp_eq (tgt := 955) Cx dL_law_852 (by decide) (fun _ => kk _ _ hW) (fun c => absurd hr c)
def LO_wipe (M : Mem) : Option Mem :=
  c2 (FX5_wipe M) fun r1 M1 =>
  c2 (FX6_wipe (M1 12)) fun r2 Z =>
  if r1 = r2 then some (jb M1 12 Z) else none
set_option maxRecDepth 100000 in
set_option maxHeartbeats 4000000 in
theorem law_wipe {E : WE} {V : VT} {A : Nat → Prop} {H0 : Heap} (Cx : CX E RL cL_law 4 8 197) {H : Heap} {locs : List Loc} {ls : Array Slot} {b L i : Nat} {xs : Nat → Int32} (hX : va_X b L xs (eS E) H0) (hbl : b < H0.size) (hbA : ¬ A b) (hL : L < 2 ^ 31) (hi : i + 6 ≤ L) {M M' : Mem} (hop : LO_wipe M = some M') (hW : Wd V A H0 M (eS E) H locs) (hl : lv_has ls 4 [(0, .ref b), (1, .ref (vA V 11 0)), (2, .ref (vA V 12 0)), (3, .int (nI i))]) (kk : ∀ (H : Heap) (locs : List Loc), Wd V A H0 M' (eS E) H locs → Wq E H locs 955 ls []) : Wq E H locs 857 ls [] := by
  unfold LO_wipe at hop
  obtain ⟨r1, M1, e1, hop⟩ := c2_some hop
  obtain ⟨r2, Z, e2, hop⟩ := c2_some hop
  obtain ⟨hr, rfl⟩ := ite_some hop
  refine q_aload_n Cx dL_law_857 rfl (lv_at hl 1 rfl) ?_
  refine q_callI (as := []) (rest := []) Cx (kX5_wipe e1) okX5_wipe ovX5_wipe wd_617 ⟨rfl, rfl, by decide, by decide⟩ hW oX ic5 rfl hl.1 (Nat.le_of_ble_eq_true rfl) rfl dL_law_858 (fun H locs hW => ?_)
  refine q_aload_n Cx dL_law_861 rfl (lv_at hl 2 rfl) ?_
  refine q_callI (as := []) (rest := [.int r1]) Cx (met_w (kX6_wipe e2)) okX6_wipe ovX6_wipe wd_1002 ⟨rfl, rfl, by decide, by decide⟩ hW oZ ic6 rfl hl.1 (Nat.le_of_ble_eq_true rfl) rfl dL_law_862 (fun H locs hW => ?_)
  refine q_icmp_eq (tgt := 955) Cx dL_law_865 (by decide) (fun _ => kk _ _ hW) (fun c => absurd hr c)
def LO_fault (M : Mem) : Option Mem :=
  c2 (FX5_fault M) fun r1 M1 =>
  c2 (FX6_fault (M1 12)) fun r2 Z =>
  if r1 = r2 then some (jb M1 12 Z) else none
set_option maxRecDepth 100000 in
set_option maxHeartbeats 4000000 in
theorem law_fault {E : WE} {V : VT} {A : Nat → Prop} {H0 : Heap} (Cx : CX E RL cL_law 4 8 197) {H : Heap} {locs : List Loc} {ls : Array Slot} {b L i : Nat} {xs : Nat → Int32} (hX : va_X b L xs (eS E) H0) (hbl : b < H0.size) (hbA : ¬ A b) (hL : L < 2 ^ 31) (hi : i + 6 ≤ L) {M M' : Mem} (hop : LO_fault M = some M') (hW : Wd V A H0 M (eS E) H locs) (hl : lv_has ls 4 [(0, .ref b), (1, .ref (vA V 11 0)), (2, .ref (vA V 12 0)), (3, .int (nI i))]) (kk : ∀ (H : Heap) (locs : List Loc), Wd V A H0 M' (eS E) H locs → Wq E H locs 955 ls []) : Wq E H locs 870 ls [] := by
  unfold LO_fault at hop
  obtain ⟨r1, M1, e1, hop⟩ := c2_some hop
  obtain ⟨r2, Z, e2, hop⟩ := c2_some hop
  obtain ⟨hr, rfl⟩ := ite_some hop
  refine q_aload_n Cx dL_law_870 rfl (lv_at hl 1 rfl) ?_
  refine q_callI (as := []) (rest := []) Cx (kX5_fault e1) okX5_fault ovX5_fault wd_625 ⟨rfl, rfl, by decide, by decide⟩ hW oX ic5 rfl hl.1 (Nat.le_of_ble_eq_true rfl) rfl dL_law_871 (fun H locs hW => ?_)
  refine q_aload_n Cx dL_law_874 rfl (lv_at hl 2 rfl) ?_
  refine q_callI (as := []) (rest := [.int r1]) Cx (met_w (kX6_fault e2)) okX6_fault ovX6_fault wd_1006 ⟨rfl, rfl, by decide, by decide⟩ hW oZ ic6 rfl hl.1 (Nat.le_of_ble_eq_true rfl) rfl dL_law_875 (fun H locs hW => ?_)
  refine q_icmp_eq (tgt := 955) Cx dL_law_878 (by decide) (fun _ => kk _ _ hW) (fun c => absurd hr c)
def LO_carryOut (M : Mem) : Option Mem :=
  c2 (FX5_carryOut M) fun r1 M1 =>
  c2 (FX6_carryOut (M1 12)) fun r2 Z =>
  if r1 = r2 then some (jb M1 12 Z) else none
set_option maxRecDepth 100000 in
set_option maxHeartbeats 4000000 in
theorem law_carryOut {E : WE} {V : VT} {A : Nat → Prop} {H0 : Heap} (Cx : CX E RL cL_law 4 8 197) {H : Heap} {locs : List Loc} {ls : Array Slot} {b L i : Nat} {xs : Nat → Int32} (hX : va_X b L xs (eS E) H0) (hbl : b < H0.size) (hbA : ¬ A b) (hL : L < 2 ^ 31) (hi : i + 6 ≤ L) {M M' : Mem} (hop : LO_carryOut M = some M') (hW : Wd V A H0 M (eS E) H locs) (hl : lv_has ls 4 [(0, .ref b), (1, .ref (vA V 11 0)), (2, .ref (vA V 12 0)), (3, .int (nI i))]) (kk : ∀ (H : Heap) (locs : List Loc), Wd V A H0 M' (eS E) H locs → Wq E H locs 955 ls []) : Wq E H locs 883 ls [] := by
  unfold LO_carryOut at hop
  obtain ⟨r1, M1, e1, hop⟩ := c2_some hop
  obtain ⟨r2, Z, e2, hop⟩ := c2_some hop
  obtain ⟨hr, rfl⟩ := ite_some hop
  refine q_aload_n Cx dL_law_883 rfl (lv_at hl 1 rfl) ?_
  refine q_callI (as := []) (rest := []) Cx (kX5_carryOut e1) okX5_carryOut ovX5_carryOut wd_677 ⟨rfl, rfl, by decide, by decide⟩ hW oX ic5 rfl hl.1 (Nat.le_of_ble_eq_true rfl) rfl dL_law_884 (fun H locs hW => ?_)
  refine q_aload_n Cx dL_law_887 rfl (lv_at hl 2 rfl) ?_
  refine q_callI (as := []) (rest := [.int r1]) Cx (met_w (kX6_carryOut e2)) okX6_carryOut ovX6_carryOut wd_1050 ⟨rfl, rfl, by decide, by decide⟩ hW oZ ic6 rfl hl.1 (Nat.le_of_ble_eq_true rfl) rfl dL_law_888 (fun H locs hW => ?_)
  refine q_icmp_eq (tgt := 955) Cx dL_law_891 (by decide) (fun _ => kk _ _ hW) (fun c => absurd hr c)
def LO_undo (M : Mem) : Option Mem :=
  c2 (FX5_undo M) fun r1 M1 =>
  c2 (FX6_undo (M1 12)) fun r2 Z =>
  if r1 = r2 then some (jb M1 12 Z) else none
set_option maxRecDepth 100000 in
set_option maxHeartbeats 4000000 in
theorem law_undo {E : WE} {V : VT} {A : Nat → Prop} {H0 : Heap} (Cx : CX E RL cL_law 4 8 197) {H : Heap} {locs : List Loc} {ls : Array Slot} {b L i : Nat} {xs : Nat → Int32} (hX : va_X b L xs (eS E) H0) (hbl : b < H0.size) (hbA : ¬ A b) (hL : L < 2 ^ 31) (hi : i + 6 ≤ L) {M M' : Mem} (hop : LO_undo M = some M') (hW : Wd V A H0 M (eS E) H locs) (hl : lv_has ls 4 [(0, .ref b), (1, .ref (vA V 11 0)), (2, .ref (vA V 12 0)), (3, .int (nI i))]) (kk : ∀ (H : Heap) (locs : List Loc), Wd V A H0 M' (eS E) H locs → Wq E H locs 955 ls []) : Wq E H locs 896 ls [] := by
  unfold LO_undo at hop
  obtain ⟨r1, M1, e1, hop⟩ := c2_some hop
  obtain ⟨r2, Z, e2, hop⟩ := c2_some hop
  obtain ⟨hr, rfl⟩ := ite_some hop
  refine q_aload_n Cx dL_law_896 rfl (lv_at hl 1 rfl) ?_
  refine q_callI (as := []) (rest := []) Cx (kX5_undo e1) okX5_undo ovX5_undo wd_692 ⟨rfl, rfl, by decide, by decide⟩ hW oX ic5 rfl hl.1 (Nat.le_of_ble_eq_true rfl) rfl dL_law_897 (fun H locs hW => ?_)
  refine q_aload_n Cx dL_law_900 rfl (lv_at hl 2 rfl) ?_
  refine q_callI (as := []) (rest := [.int r1]) Cx (met_w (kX6_undo e2)) okX6_undo ovX6_undo wd_772 ⟨rfl, rfl, by decide, by decide⟩ hW oZ ic6 rfl hl.1 (Nat.le_of_ble_eq_true rfl) rfl dL_law_901 (fun H locs hW => ?_)
  refine q_icmp_eq (tgt := 955) Cx dL_law_904 (by decide) (fun _ => kk _ _ hW) (fun c => absurd hr c)
def LO_save (M : Mem) (a1 : Int32) : Option Mem :=
  c2 (FX5_save M a1) fun r1 M1 =>
  c2 (FX6_save (M1 12) a1) fun r2 Z =>
  if r1 = r2 then some (jb M1 12 Z) else none
set_option maxRecDepth 100000 in
set_option maxHeartbeats 4000000 in
theorem law_save {E : WE} {V : VT} {A : Nat → Prop} {H0 : Heap} (Cx : CX E RL cL_law 4 8 197) {H : Heap} {locs : List Loc} {ls : Array Slot} {b L i : Nat} {xs : Nat → Int32} (hX : va_X b L xs (eS E) H0) (hbl : b < H0.size) (hbA : ¬ A b) (hL : L < 2 ^ 31) (hi : i + 6 ≤ L) {M M' : Mem} (hop : LO_save M (xs (i + 1)) = some M') (hW : Wd V A H0 M (eS E) H locs) (hl : lv_has ls 4 [(0, .ref b), (1, .ref (vA V 11 0)), (2, .ref (vA V 12 0)), (3, .int (nI i))]) (kk : ∀ (H : Heap) (locs : List Loc), Wd V A H0 M' (eS E) H locs → Wq E H locs 955 ls []) : Wq E H locs 909 ls [] := by
  unfold LO_save at hop
  obtain ⟨r1, M1, e1, hop⟩ := c2_some hop
  obtain ⟨r2, Z, e2, hop⟩ := c2_some hop
  obtain ⟨hr, rfl⟩ := ite_some hop
  refine q_aload_n Cx dL_law_909 rfl (lv_at hl 1 rfl) ?_
  refine q_aload_n Cx dL_law_910 rfl (lv_at hl 0 rfl) ?_
  refine q_iload_n Cx dL_law_911 rfl (lv_at hl 3 rfl) ?_
  refine q_iconst (v := (1 : Int32)) Cx dL_law_912 (by decide) ?_
  refine q_iadd Cx dL_law_913 ?_
  refine q_sld Cx hW hX hbl hbA (nI_add i 1) (j := i + 1) (by omega) hL dL_law_914 ?_
  refine q_callI (as := [.int (xs (i + 1))]) (rest := []) Cx (kX5_save e1) okX5_save ovX5_save wd_700 ⟨rfl, rfl, by decide, by decide⟩ hW oX ic5 rfl hl.1 (Nat.le_of_ble_eq_true rfl) rfl dL_law_915 (fun H locs hW => ?_)
  refine q_aload_n Cx dL_law_918 rfl (lv_at hl 2 rfl) ?_
  refine q_aload_n Cx dL_law_919 rfl (lv_at hl 0 rfl) ?_
  refine q_iload_n Cx dL_law_920 rfl (lv_at hl 3 rfl) ?_
  refine q_iconst (v := (1 : Int32)) Cx dL_law_921 (by decide) ?_
  refine q_iadd Cx dL_law_922 ?_
  refine q_sld Cx hW hX hbl hbA (nI_add i 1) (j := i + 1) (by omega) hL dL_law_923 ?_
  refine q_callI (as := [.int (xs (i + 1))]) (rest := [.int r1]) Cx (met_w (kX6_save e2)) okX6_save ovX6_save wd_776 ⟨rfl, rfl, by decide, by decide⟩ hW oZ ic6 rfl hl.1 (Nat.le_of_ble_eq_true rfl) rfl dL_law_924 (fun H locs hW => ?_)
  refine q_icmp_eq (tgt := 955) Cx dL_law_927 (by decide) (fun _ => kk _ _ hW) (fun c => absurd hr c)
def LO_restore (M : Mem) (a1 : Int32) : Option Mem :=
  c2 (FX5_restore M a1) fun r1 M1 =>
  c2 (FX6_restore (M1 12) a1) fun r2 Z =>
  if r1 = r2 then some (jb M1 12 Z) else none
set_option maxRecDepth 100000 in
set_option maxHeartbeats 4000000 in
theorem law_restore {E : WE} {V : VT} {A : Nat → Prop} {H0 : Heap} (Cx : CX E RL cL_law 4 8 197) {H : Heap} {locs : List Loc} {ls : Array Slot} {b L i : Nat} {xs : Nat → Int32} (hX : va_X b L xs (eS E) H0) (hbl : b < H0.size) (hbA : ¬ A b) (hL : L < 2 ^ 31) (hi : i + 6 ≤ L) {M M' : Mem} (hop : LO_restore M (xs (i + 1)) = some M') (hW : Wd V A H0 M (eS E) H locs) (hl : lv_has ls 4 [(0, .ref b), (1, .ref (vA V 11 0)), (2, .ref (vA V 12 0)), (3, .int (nI i))]) (kk : ∀ (H : Heap) (locs : List Loc), Wd V A H0 M' (eS E) H locs → Wq E H locs 955 ls []) : Wq E H locs 932 ls [] := by
  unfold LO_restore at hop
  obtain ⟨r1, M1, e1, hop⟩ := c2_some hop
  obtain ⟨r2, Z, e2, hop⟩ := c2_some hop
  obtain ⟨hr, rfl⟩ := ite_some hop
  refine q_aload_n Cx dL_law_932 rfl (lv_at hl 1 rfl) ?_
  refine q_aload_n Cx dL_law_933 rfl (lv_at hl 0 rfl) ?_
  refine q_iload_n Cx dL_law_934 rfl (lv_at hl 3 rfl) ?_
  refine q_iconst (v := (1 : Int32)) Cx dL_law_935 (by decide) ?_
  refine q_iadd Cx dL_law_936 ?_
  refine q_sld Cx hW hX hbl hbA (nI_add i 1) (j := i + 1) (by omega) hL dL_law_937 ?_
  refine q_callI (as := [.int (xs (i + 1))]) (rest := []) Cx (kX5_restore e1) okX5_restore ovX5_restore wd_704 ⟨rfl, rfl, by decide, by decide⟩ hW oX ic5 rfl hl.1 (Nat.le_of_ble_eq_true rfl) rfl dL_law_938 (fun H locs hW => ?_)
  refine q_aload_n Cx dL_law_941 rfl (lv_at hl 2 rfl) ?_
  refine q_aload_n Cx dL_law_942 rfl (lv_at hl 0 rfl) ?_
  refine q_iload_n Cx dL_law_943 rfl (lv_at hl 3 rfl) ?_
  refine q_iconst (v := (1 : Int32)) Cx dL_law_944 (by decide) ?_
  refine q_iadd Cx dL_law_945 ?_
  refine q_sld Cx hW hX hbl hbA (nI_add i 1) (j := i + 1) (by omega) hL dL_law_946 ?_
  refine q_callI (as := [.int (xs (i + 1))]) (rest := [.int r1]) Cx (met_w (kX6_restore e2)) okX6_restore ovX6_restore wd_783 ⟨rfl, rfl, by decide, by decide⟩ hW oZ ic6 rfl hl.1 (Nat.le_of_ble_eq_true rfl) rfl dL_law_947 (fun H locs hW => ?_)
  refine q_icmp_eq (tgt := 955) Cx dL_law_950 (by decide) (fun _ => kk _ _ hW) (fun c => absurd hr c)
/-- what the pure part owes: from memories of an invariant every case goes on, to one of the invariant -/
def StepOK (Inv : Mem → Prop) : Prop := (∀ (M : Mem) (a1 : Int32) (a2 : Int32), Inv M → ∃ M' : Mem, LO_set M a1 a2 = some M' ∧ Inv M') ∧
  (∀ (M : Mem) (a1 : Int32) (a2 : Int32) (a3 : Int32) (a4 : Int32) (a5 : Int32), Inv M → ∃ M' : Mem, LO_task M a1 a2 a3 a4 a5 = some M' ∧ Inv M') ∧
  (∀ (M : Mem) (a1 : Int32) (a2 : Int32), Inv M → ∃ M' : Mem, LO_duration M a1 a2 = some M' ∧ Inv M') ∧
  (∀ (M : Mem) (a1 : Int32) (a2 : Int32), Inv M → ∃ M' : Mem, LO_move M a1 a2 = some M' ∧ Inv M') ∧
  (∀ (M : Mem) (a1 : Int32) (a2 : Int32) (a3 : Int32), Inv M → ∃ M' : Mem, LO_offer M a1 a2 a3 = some M' ∧ Inv M') ∧
  (∀ (M : Mem), Inv M → ∃ M' : Mem, LO_trade M = some M' ∧ Inv M') ∧
  (∀ (M : Mem) (a1 : Int32) (a2 : Int32), Inv M → ∃ M' : Mem, LO_refund M a1 a2 = some M' ∧ Inv M') ∧
  (∀ (M : Mem) (a1 : Int32) (a2 : Int32) (a3 : Int32), Inv M → ∃ M' : Mem, LO_give M a1 a2 a3 = some M' ∧ Inv M') ∧
  (∀ (M : Mem) (a1 : Int32) (a2 : Int32), Inv M → ∃ M' : Mem, LO_ofTask M a1 a2 = some M' ∧ Inv M') ∧
  (∀ (M : Mem) (a1 : Int32), Inv M → ∃ M' : Mem, LO_due M a1 = some M' ∧ Inv M') ∧
  (∀ (M : Mem) (a1 : Int32), Inv M → ∃ M' : Mem, LO_money M a1 = some M' ∧ Inv M') ∧
  (∀ (M : Mem) (a1 : Int32) (a2 : Int32), Inv M → ∃ M' : Mem, LO_at M a1 a2 = some M' ∧ Inv M') ∧
  (∀ (M : Mem) (a1 : Int32) (a2 : Int32), Inv M → ∃ M' : Mem, LO_ofContract M a1 a2 = some M' ∧ Inv M') ∧
  (∀ (M : Mem) (a1 : Int32), Inv M → ∃ M' : Mem, LO_count M a1 = some M' ∧ Inv M') ∧
  (∀ (M : Mem) (a1 : Int32) (a2 : Int32), Inv M → ∃ M' : Mem, LO_distance M a1 a2 = some M' ∧ Inv M') ∧
  (∀ (M : Mem) (a1 : Int32) (a2 : Int32), Inv M → ∃ M' : Mem, LO_wouldBuy M a1 a2 = some M' ∧ Inv M') ∧
  (∀ (M : Mem) (a1 : Int32), Inv M → ∃ M' : Mem, LO_leastMoney M a1 = some M' ∧ Inv M') ∧
  (∀ (M : Mem) (a1 : Int32) (a2 : Int32) (a3 : Int32), Inv M → ∃ M' : Mem, LO_endIf M a1 a2 a3 = some M' ∧ Inv M') ∧
  (∀ (M : Mem) (a1 : Int32), Inv M → ∃ M' : Mem, LO_bestPlace M a1 = some M' ∧ Inv M') ∧
  (∀ (M : Mem), Inv M → ∃ M' : Mem, LO_critical M = some M' ∧ Inv M') ∧
  (∀ (M : Mem), Inv M → ∃ M' : Mem, LO_lateBehind M = some M' ∧ Inv M') ∧
  (∀ (M : Mem) (a1 : Int64), Inv M → ∃ M' : Mem, LO_put M a1 = some M' ∧ Inv M') ∧
  (∀ (M : Mem), Inv M → ∃ M' : Mem, LO_wipe M = some M' ∧ Inv M') ∧
  (∀ (M : Mem), Inv M → ∃ M' : Mem, LO_fault M = some M' ∧ Inv M') ∧
  (∀ (M : Mem), Inv M → ∃ M' : Mem, LO_carryOut M = some M' ∧ Inv M') ∧
  (∀ (M : Mem), Inv M → ∃ M' : Mem, LO_undo M = some M' ∧ Inv M') ∧
  (∀ (M : Mem) (a1 : Int32), Inv M → ∃ M' : Mem, LO_save M a1 = some M' ∧ Inv M') ∧
  (∀ (M : Mem) (a1 : Int32), Inv M → ∃ M' : Mem, LO_restore M a1 = some M' ∧ Inv M')
