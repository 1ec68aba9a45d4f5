/-! the words of the tables that the rows use -/
set_option maxRecDepth 100000 in
theorem wd_0 : Cond.selects RX4 yX4_scheduleRow yX4_scheduleRow ∈ lw_gd := gd_of 0 rfl rfl
set_option maxRecDepth 100000 in
theorem wd_1 : Cond.selects RX2 yX2_slackOf yX2_slackOf ∈ lw_gd := gd_of 1 rfl rfl
set_option maxRecDepth 100000 in
theorem wd_2 : Cond.selects RX2 yX2_lowerLatestEnd yX2_lowerLatestEnd ∈ lw_gd := gd_of 2 rfl rfl
set_option maxRecDepth 100000 in
theorem wd_3 : Cond.selects RX4 yX4_waitedFor yX4_waitedFor ∈ lw_gd := gd_of 3 rfl rfl
set_option maxRecDepth 100000 in
theorem wd_4 : Cond.selects RX2 yX2_setOffer yX2_setOffer ∈ lw_gd := gd_of 4 rfl rfl
set_option maxRecDepth 100000 in
theorem wd_5 : Cond.selects RX2 yX2_offers yX2_offers ∈ lw_gd := gd_of 5 rfl rfl
set_option maxRecDepth 100000 in
theorem wd_6 : Cond.selects RX2 yX2_lateTasks yX2_lateTasks ∈ lw_gd := gd_of 6 rfl rfl
set_option maxRecDepth 100000 in
theorem wd_7 : Cond.selects RX2 yX2_allMoney yX2_allMoney ∈ lw_gd := gd_of 7 rfl rfl
set_option maxRecDepth 100000 in
theorem wd_8 : Cond.selects RX2 yX2_latestExcept yX2_latestExcept ∈ lw_gd := gd_of 8 rfl rfl
set_option maxRecDepth 100000 in
theorem wd_9 : Cond.selects RX4 yX4_linkFrom yX4_linkFrom ∈ lw_gd := gd_of 9 rfl rfl
set_option maxRecDepth 100000 in
theorem wd_10 : Cond.selects RX2 yX2_bestSellerExcept yX2_bestSellerExcept ∈ lw_gd := gd_of 10 rfl rfl
set_option maxRecDepth 100000 in
theorem wd_11 : Cond.selects RX2 yX2_isInReach yX2_isInReach ∈ lw_gd := gd_of 11 rfl rfl
set_option maxRecDepth 100000 in
theorem wd_12 : Cond.selects RX2 yX2_isBetterSeller yX2_isBetterSeller ∈ lw_gd := gd_of 12 rfl rfl
set_option maxRecDepth 100000 in
theorem wd_13 : Cond.selects RX2 yX2_buyFrom yX2_buyFrom ∈ lw_gd := gd_of 13 rfl rfl
set_option maxRecDepth 100000 in
theorem wd_14 : Cond.selects RX0 yX0_remove yX0_remove ∈ lw_gd := gd_of 14 rfl rfl
set_option maxRecDepth 100000 in
theorem wd_15 : Cond.initialized RL ∈ lw_gd := gd_of 15 rfl rfl
set_option maxRecDepth 100000 in
theorem wd_16 : Cond.initialized RX5 ∈ lw_gd := gd_of 16 rfl rfl
set_option maxRecDepth 100000 in
theorem wd_17 : Cond.initialized RX2 ∈ lw_gd := gd_of 17 rfl rfl
set_option maxRecDepth 100000 in
theorem wd_18 : Cond.initialized RX4 ∈ lw_gd := gd_of 18 rfl rfl
set_option maxRecDepth 100000 in
theorem wd_19 : Cond.initialized RX0 ∈ lw_gd := gd_of 19 rfl rfl
set_option maxRecDepth 100000 in
theorem wd_20 : Cond.initialized RX1 ∈ lw_gd := gd_of 20 rfl rfl
set_option maxRecDepth 100000 in
theorem wd_22 : Cond.initialized "java/lang/System" ∈ lw_gd := gd_of 22 rfl rfl
set_option maxRecDepth 100000 in
theorem wd_23 : Cond.initialized "java/lang/Math" ∈ lw_gd := gd_of 23 rfl rfl
set_option maxRecDepth 100000 in
theorem wd_44 : Cond.fieldLink RX4 39 (TX4 0).1 (TX4 0).2.1 (TX4 0).2.2.1 ∈ lw_gd := gd_of 44 rfl rfl
set_option maxRecDepth 100000 in
theorem wd_45 : Cond.fieldLink RX2 66 (TX4 0).1 (TX4 0).2.1 (TX4 0).2.2.1 ∈ lw_gd := gd_of 45 rfl rfl
set_option maxRecDepth 100000 in
theorem wd_46 : Cond.fieldLink RX4 9 (TX4 1).1 (TX4 1).2.1 (TX4 1).2.2.1 ∈ lw_gd := gd_of 46 rfl rfl
set_option maxRecDepth 100000 in
theorem wd_47 : Cond.fieldLink RX2 83 (TX4 1).1 (TX4 1).2.1 (TX4 1).2.2.1 ∈ lw_gd := gd_of 47 rfl rfl
set_option maxRecDepth 100000 in
theorem wd_48 : Cond.fieldLink RX4 15 (TX4 2).1 (TX4 2).2.1 (TX4 2).2.2.1 ∈ lw_gd := gd_of 48 rfl rfl
set_option maxRecDepth 100000 in
theorem wd_49 : Cond.fieldLink RX2 77 (TX4 2).1 (TX4 2).2.1 (TX4 2).2.2.1 ∈ lw_gd := gd_of 49 rfl rfl
set_option maxRecDepth 100000 in
theorem wd_50 : Cond.fieldLink RX4 18 (TX4 3).1 (TX4 3).2.1 (TX4 3).2.2.1 ∈ lw_gd := gd_of 50 rfl rfl
set_option maxRecDepth 100000 in
theorem wd_51 : Cond.fieldLink RX2 174 (TX4 3).1 (TX4 3).2.1 (TX4 3).2.2.1 ∈ lw_gd := gd_of 51 rfl rfl
set_option maxRecDepth 100000 in
theorem wd_52 : Cond.fieldLink RX4 21 (TX4 4).1 (TX4 4).2.1 (TX4 4).2.2.1 ∈ lw_gd := gd_of 52 rfl rfl
set_option maxRecDepth 100000 in
theorem wd_53 : Cond.fieldLink RX2 108 (TX4 4).1 (TX4 4).2.1 (TX4 4).2.2.1 ∈ lw_gd := gd_of 53 rfl rfl
set_option maxRecDepth 100000 in
theorem wd_54 : Cond.fieldLink RX4 24 (TX4 5).1 (TX4 5).2.1 (TX4 5).2.2.1 ∈ lw_gd := gd_of 54 rfl rfl
set_option maxRecDepth 100000 in
theorem wd_55 : Cond.fieldLink RX2 165 (TX4 5).1 (TX4 5).2.1 (TX4 5).2.2.1 ∈ lw_gd := gd_of 55 rfl rfl
set_option maxRecDepth 100000 in
theorem wd_56 : Cond.fieldLink RX4 27 (TX4 6).1 (TX4 6).2.1 (TX4 6).2.2.1 ∈ lw_gd := gd_of 56 rfl rfl
set_option maxRecDepth 100000 in
theorem wd_57 : Cond.fieldLink RX4 30 (TX4 7).1 (TX4 7).2.1 (TX4 7).2.2.1 ∈ lw_gd := gd_of 57 rfl rfl
set_option maxRecDepth 100000 in
theorem wd_58 : Cond.fieldLink RX2 80 (TX4 7).1 (TX4 7).2.1 (TX4 7).2.2.1 ∈ lw_gd := gd_of 58 rfl rfl
set_option maxRecDepth 100000 in
theorem wd_59 : Cond.fieldLink RX4 33 (TX4 8).1 (TX4 8).2.1 (TX4 8).2.2.1 ∈ lw_gd := gd_of 59 rfl rfl
set_option maxRecDepth 100000 in
theorem wd_60 : Cond.fieldLink RX4 36 (TX4 9).1 (TX4 9).2.1 (TX4 9).2.2.1 ∈ lw_gd := gd_of 60 rfl rfl
set_option maxRecDepth 100000 in
theorem wd_61 : Cond.fieldLink RX2 144 (TX4 9).1 (TX4 9).2.1 (TX4 9).2.2.1 ∈ lw_gd := gd_of 61 rfl rfl
set_option maxRecDepth 100000 in
theorem wd_62 : Cond.fieldLink RX5 125 (TX4 9).1 (TX4 9).2.1 (TX4 9).2.2.1 ∈ lw_gd := gd_of 62 rfl rfl
set_option maxRecDepth 100000 in
theorem wd_91 : Cond.fieldLink RX0 24 (TX0 0).1 (TX0 0).2.1 (TX0 0).2.2.1 ∈ lw_gd := gd_of 91 rfl rfl
set_option maxRecDepth 100000 in
theorem wd_92 : Cond.fieldLink RX2 115 (TX0 0).1 (TX0 0).2.1 (TX0 0).2.2.1 ∈ lw_gd := gd_of 92 rfl rfl
set_option maxRecDepth 100000 in
theorem wd_93 : Cond.fieldLink RX5 137 (TX0 0).1 (TX0 0).2.1 (TX0 0).2.2.1 ∈ lw_gd := gd_of 93 rfl rfl
set_option maxRecDepth 100000 in
theorem wd_94 : Cond.fieldLink RX0 9 (TX0 1).1 (TX0 1).2.1 (TX0 1).2.2.1 ∈ lw_gd := gd_of 94 rfl rfl
set_option maxRecDepth 100000 in
theorem wd_95 : Cond.fieldLink RX2 101 (TX0 1).1 (TX0 1).2.1 (TX0 1).2.2.1 ∈ lw_gd := gd_of 95 rfl rfl
set_option maxRecDepth 100000 in
theorem wd_96 : Cond.fieldLink RX0 15 (TX0 2).1 (TX0 2).2.1 (TX0 2).2.2.1 ∈ lw_gd := gd_of 96 rfl rfl
set_option maxRecDepth 100000 in
theorem wd_97 : Cond.fieldLink RX2 104 (TX0 2).1 (TX0 2).2.1 (TX0 2).2.2.1 ∈ lw_gd := gd_of 97 rfl rfl
set_option maxRecDepth 100000 in
theorem wd_98 : Cond.fieldLink RX0 18 (TX0 3).1 (TX0 3).2.1 (TX0 3).2.2.1 ∈ lw_gd := gd_of 98 rfl rfl
set_option maxRecDepth 100000 in
theorem wd_99 : Cond.fieldLink RX2 98 (TX0 3).1 (TX0 3).2.1 (TX0 3).2.2.1 ∈ lw_gd := gd_of 99 rfl rfl
set_option maxRecDepth 100000 in
theorem wd_100 : Cond.fieldLink RX0 21 (TX0 4).1 (TX0 4).2.1 (TX0 4).2.2.1 ∈ lw_gd := gd_of 100 rfl rfl
set_option maxRecDepth 100000 in
theorem wd_101 : Cond.fieldLink RX2 107 (TX0 4).1 (TX0 4).2.1 (TX0 4).2.2.1 ∈ lw_gd := gd_of 101 rfl rfl
set_option maxRecDepth 100000 in
theorem wd_113 : Cond.fieldLink RX2 12 (TX2 0).1 (TX2 0).2.1 (TX2 0).2.2.1 ∈ lw_gd := gd_of 113 rfl rfl
set_option maxRecDepth 100000 in
theorem wd_114 : Cond.fieldLink RX5 80 (TX2 0).1 (TX2 0).2.1 (TX2 0).2.2.1 ∈ lw_gd := gd_of 114 rfl rfl
set_option maxRecDepth 100000 in
theorem wd_115 : Cond.fieldLink RX2 21 (TX2 1).1 (TX2 1).2.1 (TX2 1).2.2.1 ∈ lw_gd := gd_of 115 rfl rfl
set_option maxRecDepth 100000 in
theorem wd_116 : Cond.fieldLink RX5 102 (TX2 1).1 (TX2 1).2.1 (TX2 1).2.2.1 ∈ lw_gd := gd_of 116 rfl rfl
set_option maxRecDepth 100000 in
theorem wd_117 : Cond.fieldLink RX2 25 (TX2 2).1 (TX2 2).2.1 (TX2 2).2.2.1 ∈ lw_gd := gd_of 117 rfl rfl
set_option maxRecDepth 100000 in
theorem wd_118 : Cond.fieldLink RX2 29 (TX2 3).1 (TX2 3).2.1 (TX2 3).2.2.1 ∈ lw_gd := gd_of 118 rfl rfl
set_option maxRecDepth 100000 in
theorem wd_119 : Cond.fieldLink RX2 32 (TX2 4).1 (TX2 4).2.1 (TX2 4).2.2.1 ∈ lw_gd := gd_of 119 rfl rfl
set_option maxRecDepth 100000 in
theorem wd_120 : Cond.fieldLink RX5 90 (TX2 4).1 (TX2 4).2.1 (TX2 4).2.2.1 ∈ lw_gd := gd_of 120 rfl rfl
set_option maxRecDepth 100000 in
theorem wd_121 : Cond.fieldLink RX2 36 (TX2 5).1 (TX2 5).2.1 (TX2 5).2.2.1 ∈ lw_gd := gd_of 121 rfl rfl
set_option maxRecDepth 100000 in
theorem wd_122 : Cond.fieldLink RX5 96 (TX2 5).1 (TX2 5).2.1 (TX2 5).2.2.1 ∈ lw_gd := gd_of 122 rfl rfl
set_option maxRecDepth 100000 in
theorem wd_123 : Cond.fieldLink RX2 39 (TX2 6).1 (TX2 6).2.1 (TX2 6).2.2.1 ∈ lw_gd := gd_of 123 rfl rfl
set_option maxRecDepth 100000 in
theorem wd_124 : Cond.fieldLink RX2 42 (TX2 7).1 (TX2 7).2.1 (TX2 7).2.2.1 ∈ lw_gd := gd_of 124 rfl rfl
set_option maxRecDepth 100000 in
theorem wd_125 : Cond.fieldLink RX2 45 (TX2 8).1 (TX2 8).2.1 (TX2 8).2.2.1 ∈ lw_gd := gd_of 125 rfl rfl
set_option maxRecDepth 100000 in
theorem wd_154 : Cond.fieldLink RX1 11 (TX1 0).1 (TX1 0).2.1 (TX1 0).2.2.1 ∈ lw_gd := gd_of 154 rfl rfl
set_option maxRecDepth 100000 in
theorem wd_155 : Cond.fieldLink RX1 18 (TX1 1).1 (TX1 1).2.1 (TX1 1).2.2.1 ∈ lw_gd := gd_of 155 rfl rfl
set_option maxRecDepth 100000 in
theorem wd_156 : Cond.fieldLink RX1 22 (TX1 2).1 (TX1 2).2.1 (TX1 2).2.2.1 ∈ lw_gd := gd_of 156 rfl rfl
set_option maxRecDepth 100000 in
theorem wd_157 : Cond.fieldLink RX5 115 (TX1 2).1 (TX1 2).2.1 (TX1 2).2.2.1 ∈ lw_gd := gd_of 157 rfl rfl
set_option maxRecDepth 100000 in
theorem wd_172 : Cond.fieldLink RX5 111 (TX3 1).1 (TX3 1).2.1 (TX3 1).2.2.1 ∈ lw_gd := gd_of 172 rfl rfl
set_option maxRecDepth 100000 in
theorem wd_189 : Cond.fieldLink RX5 12 (TX5 0).1 (TX5 0).2.1 (TX5 0).2.2.1 ∈ lw_gd := gd_of 189 rfl rfl
set_option maxRecDepth 100000 in
theorem wd_190 : Cond.fieldLink RX5 16 (TX5 1).1 (TX5 1).2.1 (TX5 1).2.2.1 ∈ lw_gd := gd_of 190 rfl rfl
set_option maxRecDepth 100000 in
theorem wd_191 : Cond.fieldLink RX5 22 (TX5 2).1 (TX5 2).2.1 (TX5 2).2.2.1 ∈ lw_gd := gd_of 191 rfl rfl
set_option maxRecDepth 100000 in
theorem wd_194 : Cond.fieldLink RX5 37 (TX5 5).1 (TX5 5).2.1 (TX5 5).2.2.1 ∈ lw_gd := gd_of 194 rfl rfl
set_option maxRecDepth 100000 in
theorem wd_209 : Cond.instanceMethod yX5_set ∈ lw_gd := gd_of 209 rfl rfl
set_option maxRecDepth 100000 in
theorem wd_210 : Cond.selects RX5 yX5_set yX5_set ∈ lw_gd := gd_of 210 rfl rfl
set_option maxRecDepth 100000 in
theorem wd_211 : Cond.code yX5_set cX5_set 3 (some .int) ∈ lw_gd := gd_of 211 rfl rfl
set_option maxRecDepth 100000 in
theorem wd_212 : Cond.methodLink RX5 41 yX1_prepare ∈ lw_gd := gd_of 212 rfl rfl
set_option maxRecDepth 100000 in
theorem wd_213 : Cond.instanceMethod yX1_prepare ∈ lw_gd := gd_of 213 rfl rfl
set_option maxRecDepth 100000 in
theorem wd_214 : Cond.selects RX1 yX1_prepare yX1_prepare ∈ lw_gd := gd_of 214 rfl rfl
set_option maxRecDepth 100000 in
theorem wd_215 : Cond.code yX1_prepare cX1_prepare 3 (none) ∈ lw_gd := gd_of 215 rfl rfl
set_option maxRecDepth 100000 in
theorem wd_216 : Cond.methodLink RX1 25 yX2_copyFrom ∈ lw_gd := gd_of 216 rfl rfl
set_option maxRecDepth 100000 in
theorem wd_217 : Cond.instanceMethod yX2_copyFrom ∈ lw_gd := gd_of 217 rfl rfl
set_option maxRecDepth 100000 in
theorem wd_218 : Cond.selects RX2 yX2_copyFrom yX2_copyFrom ∈ lw_gd := gd_of 218 rfl rfl
set_option maxRecDepth 100000 in
theorem wd_219 : Cond.code yX2_copyFrom cX2_copyFrom 2 (none) ∈ lw_gd := gd_of 219 rfl rfl
set_option maxRecDepth 100000 in
theorem wd_220 : Cond.methodLink RX2 48 yX4_copyFrom ∈ lw_gd := gd_of 220 rfl rfl
set_option maxRecDepth 100000 in
theorem wd_221 : Cond.instanceMethod yX4_copyFrom ∈ lw_gd := gd_of 221 rfl rfl
set_option maxRecDepth 100000 in
theorem wd_222 : Cond.selects RX4 yX4_copyFrom yX4_copyFrom ∈ lw_gd := gd_of 222 rfl rfl
set_option maxRecDepth 100000 in
theorem wd_223 : Cond.code yX4_copyFrom cX4_copyFrom 2 (none) ∈ lw_gd := gd_of 223 rfl rfl
set_option maxRecDepth 100000 in
theorem wd_224 : Cond.methodLink RX4 43 arraycopyName ∈ lw_gd := gd_of 224 rfl rfl
set_option maxRecDepth 100000 in
theorem wd_225 : Cond.static arraycopyName ∈ lw_gd := gd_of 225 rfl rfl
set_option maxRecDepth 100000 in
theorem wd_226 : Cond.native arraycopyName ∈ lw_gd := gd_of 226 rfl rfl
set_option maxRecDepth 100000 in
theorem wd_227 : Cond.methodLink RX2 52 yX0_copyFrom ∈ lw_gd := gd_of 227 rfl rfl
set_option maxRecDepth 100000 in
theorem wd_228 : Cond.instanceMethod yX0_copyFrom ∈ lw_gd := gd_of 228 rfl rfl
set_option maxRecDepth 100000 in
theorem wd_229 : Cond.selects RX0 yX0_copyFrom yX0_copyFrom ∈ lw_gd := gd_of 229 rfl rfl
set_option maxRecDepth 100000 in
theorem wd_230 : Cond.code yX0_copyFrom cX0_copyFrom 2 (none) ∈ lw_gd := gd_of 230 rfl rfl
set_option maxRecDepth 100000 in
theorem wd_231 : Cond.methodLink RX0 28 arraycopyName ∈ lw_gd := gd_of 231 rfl rfl
set_option maxRecDepth 100000 in
theorem wd_232 : Cond.methodLink RX2 55 arraycopyName ∈ lw_gd := gd_of 232 rfl rfl
set_option maxRecDepth 100000 in
theorem wd_233 : Cond.methodLink RX5 45 yX2_changeSetting ∈ lw_gd := gd_of 233 rfl rfl
set_option maxRecDepth 100000 in
theorem wd_234 : Cond.instanceMethod yX2_changeSetting ∈ lw_gd := gd_of 234 rfl rfl
set_option maxRecDepth 100000 in
theorem wd_235 : Cond.selects RX2 yX2_changeSetting yX2_changeSetting ∈ lw_gd := gd_of 235 rfl rfl
set_option maxRecDepth 100000 in
theorem wd_236 : Cond.code yX2_changeSetting cX2_changeSetting 4 (some .int) ∈ lw_gd := gd_of 236 rfl rfl
set_option maxRecDepth 100000 in
theorem wd_237 : Cond.methodLink RX5 49 yX1_record ∈ lw_gd := gd_of 237 rfl rfl
set_option maxRecDepth 100000 in
theorem wd_238 : Cond.instanceMethod yX1_record ∈ lw_gd := gd_of 238 rfl rfl
set_option maxRecDepth 100000 in
theorem wd_239 : Cond.selects RX1 yX1_record yX1_record ∈ lw_gd := gd_of 239 rfl rfl
set_option maxRecDepth 100000 in
theorem wd_240 : Cond.code yX1_record cX1_record 2 (some .int) ∈ lw_gd := gd_of 240 rfl rfl
set_option maxRecDepth 100000 in
theorem wd_242 : Cond.instanceMethod yX5_duration ∈ lw_gd := gd_of 242 rfl rfl
set_option maxRecDepth 100000 in
theorem wd_243 : Cond.selects RX5 yX5_duration yX5_duration ∈ lw_gd := gd_of 243 rfl rfl
set_option maxRecDepth 100000 in
theorem wd_244 : Cond.code yX5_duration cX5_duration 3 (some .int) ∈ lw_gd := gd_of 244 rfl rfl
set_option maxRecDepth 100000 in
theorem wd_245 : Cond.methodLink RX5 57 yX2_changeDuration ∈ lw_gd := gd_of 245 rfl rfl
set_option maxRecDepth 100000 in
theorem wd_246 : Cond.instanceMethod yX2_changeDuration ∈ lw_gd := gd_of 246 rfl rfl
set_option maxRecDepth 100000 in
theorem wd_247 : Cond.selects RX2 yX2_changeDuration yX2_changeDuration ∈ lw_gd := gd_of 247 rfl rfl
set_option maxRecDepth 100000 in
theorem wd_248 : Cond.code yX2_changeDuration cX2_changeDuration 4 (some .int) ∈ lw_gd := gd_of 248 rfl rfl
set_option maxRecDepth 100000 in
theorem wd_249 : Cond.methodLink RX2 61 yX4_has ∈ lw_gd := gd_of 249 rfl rfl
set_option maxRecDepth 100000 in
theorem wd_250 : Cond.instanceMethod yX4_has ∈ lw_gd := gd_of 250 rfl rfl
set_option maxRecDepth 100000 in
theorem wd_251 : Cond.selects RX4 yX4_has yX4_has ∈ lw_gd := gd_of 251 rfl rfl
set_option maxRecDepth 100000 in
theorem wd_252 : Cond.code yX4_has cX4_has 2 (some .boolean) ∈ lw_gd := gd_of 252 rfl rfl
set_option maxRecDepth 100000 in
theorem wd_253 : Cond.methodLink RX2 73 yX4_schedule ∈ lw_gd := gd_of 253 rfl rfl
set_option maxRecDepth 100000 in
theorem wd_254 : Cond.instanceMethod yX4_schedule ∈ lw_gd := gd_of 254 rfl rfl
set_option maxRecDepth 100000 in
theorem wd_255 : Cond.selects RX4 yX4_schedule yX4_schedule ∈ lw_gd := gd_of 255 rfl rfl
set_option maxRecDepth 100000 in
theorem wd_256 : Cond.code yX4_schedule cX4_schedule 4 (some .boolean) ∈ lw_gd := gd_of 256 rfl rfl
set_option maxRecDepth 100000 in
theorem wd_257 : Cond.methodLink RX4 62 yX4_scheduleRow ∈ lw_gd := gd_of 257 rfl rfl
set_option maxRecDepth 100000 in
theorem wd_259 : Cond.instanceMethod yX4_scheduleRow ∈ lw_gd := gd_of 259 rfl rfl
set_option maxRecDepth 100000 in
theorem wd_260 : Cond.code yX4_scheduleRow cX4_scheduleRow 6 (some .int) ∈ lw_gd := gd_of 260 rfl rfl
set_option maxRecDepth 100000 in
theorem wd_261 : Cond.methodLink RX4 49 yX4_inRow ∈ lw_gd := gd_of 261 rfl rfl
set_option maxRecDepth 100000 in
theorem wd_262 : Cond.instanceMethod yX4_inRow ∈ lw_gd := gd_of 262 rfl rfl
set_option maxRecDepth 100000 in
theorem wd_263 : Cond.selects RX4 yX4_inRow yX4_inRow ∈ lw_gd := gd_of 263 rfl rfl
set_option maxRecDepth 100000 in
theorem wd_264 : Cond.code yX4_inRow cX4_inRow 3 (some .int) ∈ lw_gd := gd_of 264 rfl rfl
set_option maxRecDepth 100000 in
theorem wd_265 : Cond.methodLink RX4 65 yX4_endOf ∈ lw_gd := gd_of 265 rfl rfl
set_option maxRecDepth 100000 in
theorem wd_266 : Cond.instanceMethod yX4_endOf ∈ lw_gd := gd_of 266 rfl rfl
set_option maxRecDepth 100000 in
theorem wd_267 : Cond.selects RX4 yX4_endOf yX4_endOf ∈ lw_gd := gd_of 267 rfl rfl
set_option maxRecDepth 100000 in
theorem wd_268 : Cond.code yX4_endOf cX4_endOf 2 (some .int) ∈ lw_gd := gd_of 268 rfl rfl
set_option maxRecDepth 100000 in
theorem wd_269 : Cond.methodLink RX4 68 yX4_has ∈ lw_gd := gd_of 269 rfl rfl
set_option maxRecDepth 100000 in
theorem wd_270 : Cond.methodLink RX4 57 Lib.Math.max.name ∈ lw_gd := gd_of 270 rfl rfl
set_option maxRecDepth 100000 in
theorem wd_271 : Cond.static Lib.Math.max.name ∈ lw_gd := gd_of 271 rfl rfl
set_option maxRecDepth 100000 in
theorem wd_272 : Cond.code Lib.Math.max.name Lib.Math.max.code 2 (some .int) ∈ lw_gd := gd_of 272 rfl rfl
set_option maxRecDepth 100000 in
theorem wd_273 : Cond.methodLink RL 26 yX5_ofTask ∈ lw_gd := gd_of 273 rfl rfl
set_option maxRecDepth 100000 in
theorem wd_274 : Cond.instanceMethod yX5_ofTask ∈ lw_gd := gd_of 274 rfl rfl
set_option maxRecDepth 100000 in
theorem wd_275 : Cond.selects RX5 yX5_ofTask yX5_ofTask ∈ lw_gd := gd_of 275 rfl rfl
set_option maxRecDepth 100000 in
theorem wd_276 : Cond.code yX5_ofTask cX5_ofTask 3 (some .int) ∈ lw_gd := gd_of 276 rfl rfl
set_option maxRecDepth 100000 in
theorem wd_277 : Cond.methodLink RX5 77 yX2_tellOfTask ∈ lw_gd := gd_of 277 rfl rfl
set_option maxRecDepth 100000 in
theorem wd_278 : Cond.instanceMethod yX2_tellOfTask ∈ lw_gd := gd_of 278 rfl rfl
set_option maxRecDepth 100000 in
theorem wd_279 : Cond.selects RX2 yX2_tellOfTask yX2_tellOfTask ∈ lw_gd := gd_of 279 rfl rfl
set_option maxRecDepth 100000 in
theorem wd_280 : Cond.code yX2_tellOfTask cX2_tellOfTask 3 (some .int) ∈ lw_gd := gd_of 280 rfl rfl
set_option maxRecDepth 100000 in
theorem wd_281 : Cond.methodLink RX2 86 yX4_placeOf ∈ lw_gd := gd_of 281 rfl rfl
set_option maxRecDepth 100000 in
theorem wd_282 : Cond.instanceMethod yX4_placeOf ∈ lw_gd := gd_of 282 rfl rfl
set_option maxRecDepth 100000 in
theorem wd_283 : Cond.selects RX4 yX4_placeOf yX4_placeOf ∈ lw_gd := gd_of 283 rfl rfl
set_option maxRecDepth 100000 in
theorem wd_284 : Cond.code yX4_placeOf cX4_placeOf 4 (some .int) ∈ lw_gd := gd_of 284 rfl rfl
set_option maxRecDepth 100000 in
theorem wd_285 : Cond.methodLink RX2 177 yX4_startOf ∈ lw_gd := gd_of 285 rfl rfl
set_option maxRecDepth 100000 in
theorem wd_286 : Cond.instanceMethod yX4_startOf ∈ lw_gd := gd_of 286 rfl rfl
set_option maxRecDepth 100000 in
theorem wd_287 : Cond.selects RX4 yX4_startOf yX4_startOf ∈ lw_gd := gd_of 287 rfl rfl
set_option maxRecDepth 100000 in
theorem wd_288 : Cond.code yX4_startOf cX4_startOf 2 (some .int) ∈ lw_gd := gd_of 288 rfl rfl
set_option maxRecDepth 100000 in
theorem wd_289 : Cond.methodLink RX2 180 yX4_endOf ∈ lw_gd := gd_of 289 rfl rfl
set_option maxRecDepth 100000 in
theorem wd_290 : Cond.methodLink RX2 125 yX2_lateOf ∈ lw_gd := gd_of 290 rfl rfl
set_option maxRecDepth 100000 in
theorem wd_291 : Cond.instanceMethod yX2_lateOf ∈ lw_gd := gd_of 291 rfl rfl
set_option maxRecDepth 100000 in
theorem wd_292 : Cond.selects RX2 yX2_lateOf yX2_lateOf ∈ lw_gd := gd_of 292 rfl rfl
set_option maxRecDepth 100000 in
theorem wd_293 : Cond.code yX2_lateOf cX2_lateOf 2 (some .int) ∈ lw_gd := gd_of 293 rfl rfl
set_option maxRecDepth 100000 in
theorem wd_294 : Cond.methodLink RX2 158 Lib.Math.max.name ∈ lw_gd := gd_of 294 rfl rfl
set_option maxRecDepth 100000 in
theorem wd_295 : Cond.methodLink RX2 147 yX2_spareOf ∈ lw_gd := gd_of 295 rfl rfl
set_option maxRecDepth 100000 in
theorem wd_296 : Cond.instanceMethod yX2_spareOf ∈ lw_gd := gd_of 296 rfl rfl
set_option maxRecDepth 100000 in
theorem wd_297 : Cond.selects RX2 yX2_spareOf yX2_spareOf ∈ lw_gd := gd_of 297 rfl rfl
set_option maxRecDepth 100000 in
theorem wd_298 : Cond.code yX2_spareOf cX2_spareOf 2 (some .int) ∈ lw_gd := gd_of 298 rfl rfl
set_option maxRecDepth 100000 in
theorem wd_299 : Cond.methodLink RX2 183 yX2_slackOf ∈ lw_gd := gd_of 299 rfl rfl
set_option maxRecDepth 100000 in
theorem wd_301 : Cond.instanceMethod yX2_slackOf ∈ lw_gd := gd_of 301 rfl rfl
set_option maxRecDepth 100000 in
theorem wd_302 : Cond.code yX2_slackOf cX2_slackOf 5 (some .int) ∈ lw_gd := gd_of 302 rfl rfl
set_option maxRecDepth 100000 in
theorem wd_303 : Cond.methodLink RX2 161 yX2_lateTogether ∈ lw_gd := gd_of 303 rfl rfl
set_option maxRecDepth 100000 in
theorem wd_304 : Cond.instanceMethod yX2_lateTogether ∈ lw_gd := gd_of 304 rfl rfl
set_option maxRecDepth 100000 in
theorem wd_305 : Cond.selects RX2 yX2_lateTogether yX2_lateTogether ∈ lw_gd := gd_of 305 rfl rfl
set_option maxRecDepth 100000 in
theorem wd_306 : Cond.code yX2_lateTogether cX2_lateTogether 3 (some .int) ∈ lw_gd := gd_of 306 rfl rfl
set_option maxRecDepth 100000 in
theorem wd_307 : Cond.methodLink RX2 168 yX4_inFrontOf ∈ lw_gd := gd_of 307 rfl rfl
set_option maxRecDepth 100000 in
theorem wd_308 : Cond.instanceMethod yX4_inFrontOf ∈ lw_gd := gd_of 308 rfl rfl
set_option maxRecDepth 100000 in
theorem wd_309 : Cond.selects RX4 yX4_inFrontOf yX4_inFrontOf ∈ lw_gd := gd_of 309 rfl rfl
set_option maxRecDepth 100000 in
theorem wd_310 : Cond.code yX4_inFrontOf cX4_inFrontOf 2 (some .int) ∈ lw_gd := gd_of 310 rfl rfl
set_option maxRecDepth 100000 in
theorem wd_311 : Cond.methodLink RX4 53 yX4_placeOf ∈ lw_gd := gd_of 311 rfl rfl
set_option maxRecDepth 100000 in
theorem wd_312 : Cond.methodLink RX2 171 yX2_lowerLatestEnd ∈ lw_gd := gd_of 312 rfl rfl
set_option maxRecDepth 100000 in
theorem wd_314 : Cond.instanceMethod yX2_lowerLatestEnd ∈ lw_gd := gd_of 314 rfl rfl
set_option maxRecDepth 100000 in
theorem wd_315 : Cond.code yX2_lowerLatestEnd cX2_lowerLatestEnd 3 (none) ∈ lw_gd := gd_of 315 rfl rfl
set_option maxRecDepth 100000 in
theorem wd_316 : Cond.methodLink RX2 150 Lib.Math.min.name ∈ lw_gd := gd_of 316 rfl rfl
set_option maxRecDepth 100000 in
theorem wd_317 : Cond.static Lib.Math.min.name ∈ lw_gd := gd_of 317 rfl rfl
set_option maxRecDepth 100000 in
theorem wd_318 : Cond.code Lib.Math.min.name Lib.Math.min.code 2 (some .int) ∈ lw_gd := gd_of 318 rfl rfl
set_option maxRecDepth 100000 in
theorem wd_319 : Cond.methodLink RX2 186 yX0_soldBy ∈ lw_gd := gd_of 319 rfl rfl
set_option maxRecDepth 100000 in
theorem wd_320 : Cond.instanceMethod yX0_soldBy ∈ lw_gd := gd_of 320 rfl rfl
set_option maxRecDepth 100000 in
theorem wd_321 : Cond.selects RX0 yX0_soldBy yX0_soldBy ∈ lw_gd := gd_of 321 rfl rfl
set_option maxRecDepth 100000 in
theorem wd_322 : Cond.code yX0_soldBy cX0_soldBy 4 (some .int) ∈ lw_gd := gd_of 322 rfl rfl
set_option maxRecDepth 100000 in
theorem wd_323 : Cond.methodLink RX2 189 yX0_boughtBy ∈ lw_gd := gd_of 323 rfl rfl
set_option maxRecDepth 100000 in
theorem wd_324 : Cond.instanceMethod yX0_boughtBy ∈ lw_gd := gd_of 324 rfl rfl
set_option maxRecDepth 100000 in
theorem wd_325 : Cond.selects RX0 yX0_boughtBy yX0_boughtBy ∈ lw_gd := gd_of 325 rfl rfl
set_option maxRecDepth 100000 in
theorem wd_326 : Cond.code yX0_boughtBy cX0_boughtBy 4 (some .int) ∈ lw_gd := gd_of 326 rfl rfl
set_option maxRecDepth 100000 in
theorem wd_327 : Cond.methodLink RX2 192 yX4_followersOf ∈ lw_gd := gd_of 327 rfl rfl
set_option maxRecDepth 100000 in
theorem wd_328 : Cond.instanceMethod yX4_followersOf ∈ lw_gd := gd_of 328 rfl rfl
set_option maxRecDepth 100000 in
theorem wd_329 : Cond.selects RX4 yX4_followersOf yX4_followersOf ∈ lw_gd := gd_of 329 rfl rfl
set_option maxRecDepth 100000 in
theorem wd_330 : Cond.code yX4_followersOf cX4_followersOf 5 (some .int) ∈ lw_gd := gd_of 330 rfl rfl
set_option maxRecDepth 100000 in
theorem wd_332 : Cond.instanceMethod yX5_endIf ∈ lw_gd := gd_of 332 rfl rfl
set_option maxRecDepth 100000 in
theorem wd_333 : Cond.selects RX5 yX5_endIf yX5_endIf ∈ lw_gd := gd_of 333 rfl rfl
set_option maxRecDepth 100000 in
theorem wd_334 : Cond.code yX5_endIf cX5_endIf 5 (some .int) ∈ lw_gd := gd_of 334 rfl rfl
set_option maxRecDepth 100000 in
theorem wd_335 : Cond.methodLink RX5 84 yX4_has ∈ lw_gd := gd_of 335 rfl rfl
set_option maxRecDepth 100000 in
theorem wd_336 : Cond.methodLink RX5 128 yX2_copyFrom ∈ lw_gd := gd_of 336 rfl rfl
set_option maxRecDepth 100000 in
theorem wd_337 : Cond.methodLink RX5 144 yX4_endOf ∈ lw_gd := gd_of 337 rfl rfl
set_option maxRecDepth 100000 in
theorem wd_338 : Cond.methodLink RL 52 yX5_critical ∈ lw_gd := gd_of 338 rfl rfl
set_option maxRecDepth 100000 in
theorem wd_339 : Cond.instanceMethod yX5_critical ∈ lw_gd := gd_of 339 rfl rfl
set_option maxRecDepth 100000 in
theorem wd_340 : Cond.selects RX5 yX5_critical yX5_critical ∈ lw_gd := gd_of 340 rfl rfl
set_option maxRecDepth 100000 in
theorem wd_341 : Cond.code yX5_critical cX5_critical 1 (some .int) ∈ lw_gd := gd_of 341 rfl rfl
set_option maxRecDepth 100000 in
theorem wd_342 : Cond.methodLink RX5 150 yX4_longestChain ∈ lw_gd := gd_of 342 rfl rfl
set_option maxRecDepth 100000 in
theorem wd_343 : Cond.instanceMethod yX4_longestChain ∈ lw_gd := gd_of 343 rfl rfl
set_option maxRecDepth 100000 in
theorem wd_344 : Cond.selects RX4 yX4_longestChain yX4_longestChain ∈ lw_gd := gd_of 344 rfl rfl
set_option maxRecDepth 100000 in
theorem wd_345 : Cond.code yX4_longestChain cX4_longestChain 5 (some .int) ∈ lw_gd := gd_of 345 rfl rfl
set_option maxRecDepth 100000 in
theorem wd_346 : Cond.methodLink RX4 72 yX4_endOfAll ∈ lw_gd := gd_of 346 rfl rfl
set_option maxRecDepth 100000 in
theorem wd_347 : Cond.instanceMethod yX4_endOfAll ∈ lw_gd := gd_of 347 rfl rfl
set_option maxRecDepth 100000 in
theorem wd_348 : Cond.selects RX4 yX4_endOfAll yX4_endOfAll ∈ lw_gd := gd_of 348 rfl rfl
set_option maxRecDepth 100000 in
theorem wd_349 : Cond.code yX4_endOfAll cX4_endOfAll 3 (some .int) ∈ lw_gd := gd_of 349 rfl rfl
set_option maxRecDepth 100000 in
theorem wd_350 : Cond.methodLink RX4 76 yX4_waitedFor ∈ lw_gd := gd_of 350 rfl rfl
set_option maxRecDepth 100000 in
theorem wd_352 : Cond.instanceMethod yX4_waitedFor ∈ lw_gd := gd_of 352 rfl rfl
set_option maxRecDepth 100000 in
theorem wd_353 : Cond.code yX4_waitedFor cX4_waitedFor 6 (some .int) ∈ lw_gd := gd_of 353 rfl rfl
set_option maxRecDepth 100000 in
theorem wd_354 : Cond.methodLink RX4 79 yX4_startOf ∈ lw_gd := gd_of 354 rfl rfl
set_option maxRecDepth 100000 in
theorem wd_355 : Cond.methodLink RX4 82 yX4_inFrontOf ∈ lw_gd := gd_of 355 rfl rfl
set_option maxRecDepth 100000 in
theorem wd_356 : Cond.methodLink RL 59 yX5_undo ∈ lw_gd := gd_of 356 rfl rfl
set_option maxRecDepth 100000 in
theorem wd_357 : Cond.instanceMethod yX5_undo ∈ lw_gd := gd_of 357 rfl rfl
set_option maxRecDepth 100000 in
theorem wd_358 : Cond.selects RX5 yX5_undo yX5_undo ∈ lw_gd := gd_of 358 rfl rfl
set_option maxRecDepth 100000 in
theorem wd_359 : Cond.code yX5_undo cX5_undo 1 (some .int) ∈ lw_gd := gd_of 359 rfl rfl
set_option maxRecDepth 100000 in
theorem wd_360 : Cond.methodLink RX5 188 yX1_takeBack ∈ lw_gd := gd_of 360 rfl rfl
set_option maxRecDepth 100000 in
theorem wd_361 : Cond.instanceMethod yX1_takeBack ∈ lw_gd := gd_of 361 rfl rfl
set_option maxRecDepth 100000 in
theorem wd_362 : Cond.selects RX1 yX1_takeBack yX1_takeBack ∈ lw_gd := gd_of 362 rfl rfl
set_option maxRecDepth 100000 in
theorem wd_363 : Cond.code yX1_takeBack cX1_takeBack 2 (some .int) ∈ lw_gd := gd_of 363 rfl rfl
set_option maxRecDepth 100000 in
theorem wd_364 : Cond.methodLink RL 10 yL_cell ∈ lw_gd := gd_of 364 rfl rfl
set_option maxRecDepth 100000 in
theorem wd_365 : Cond.static yL_cell ∈ lw_gd := gd_of 365 rfl rfl
set_option maxRecDepth 100000 in
theorem wd_366 : Cond.code yL_cell cL_cell 2 (some .int) ∈ lw_gd := gd_of 366 rfl rfl
set_option maxRecDepth 100000 in
theorem wd_367 : Cond.constant RL 7 (32452867 : Int32) ∈ lw_gd := gd_of 367 rfl rfl
set_option maxRecDepth 100000 in
theorem wd_368 : Cond.constant RL 8 (15485863 : Int32) ∈ lw_gd := gd_of 368 rfl rfl
set_option maxRecDepth 100000 in
theorem wd_369 : Cond.methodLink RL 16 yL_low ∈ lw_gd := gd_of 369 rfl rfl
set_option maxRecDepth 100000 in
theorem wd_370 : Cond.static yL_low ∈ lw_gd := gd_of 370 rfl rfl
set_option maxRecDepth 100000 in
theorem wd_371 : Cond.code yL_low cL_low 2 (some .int) ∈ lw_gd := gd_of 371 rfl rfl
set_option maxRecDepth 100000 in
theorem wd_372 : Cond.constant RL 9 (2147483647 : Int32) ∈ lw_gd := gd_of 372 rfl rfl
set_option maxRecDepth 100000 in
theorem wd_374 : Cond.static yL_build ∈ lw_gd := gd_of 374 rfl rfl
set_option maxRecDepth 100000 in
theorem wd_375 : Cond.code yL_build cL_build 9 (some .boolean) ∈ lw_gd := gd_of 375 rfl rfl
set_option maxRecDepth 100000 in
theorem wd_376 : Cond.methodLink RL 22 yX5_task ∈ lw_gd := gd_of 376 rfl rfl
set_option maxRecDepth 100000 in
theorem wd_377 : Cond.instanceMethod yX5_task ∈ lw_gd := gd_of 377 rfl rfl
set_option maxRecDepth 100000 in
theorem wd_378 : Cond.selects RX5 yX5_task yX5_task ∈ lw_gd := gd_of 378 rfl rfl
set_option maxRecDepth 100000 in
theorem wd_379 : Cond.code yX5_task cX5_task 6 (some .int) ∈ lw_gd := gd_of 379 rfl rfl
set_option maxRecDepth 100000 in
theorem wd_380 : Cond.methodLink RX5 53 yX2_addTask ∈ lw_gd := gd_of 380 rfl rfl
set_option maxRecDepth 100000 in
theorem wd_381 : Cond.instanceMethod yX2_addTask ∈ lw_gd := gd_of 381 rfl rfl
set_option maxRecDepth 100000 in
theorem wd_382 : Cond.selects RX2 yX2_addTask yX2_addTask ∈ lw_gd := gd_of 382 rfl rfl
set_option maxRecDepth 100000 in
theorem wd_383 : Cond.code yX2_addTask cX2_addTask 7 (some .int) ∈ lw_gd := gd_of 383 rfl rfl
set_option maxRecDepth 100000 in
theorem wd_384 : Cond.constant RX2 65 (100000 : Int32) ∈ lw_gd := gd_of 384 rfl rfl
set_option maxRecDepth 100000 in
theorem wd_385 : Cond.methodLink RX2 69 yX4_append ∈ lw_gd := gd_of 385 rfl rfl
set_option maxRecDepth 100000 in
theorem wd_386 : Cond.instanceMethod yX4_append ∈ lw_gd := gd_of 386 rfl rfl
set_option maxRecDepth 100000 in
theorem wd_387 : Cond.selects RX4 yX4_append yX4_append ∈ lw_gd := gd_of 387 rfl rfl
set_option maxRecDepth 100000 in
theorem wd_388 : Cond.code yX4_append cX4_append 5 (none) ∈ lw_gd := gd_of 388 rfl rfl
set_option maxRecDepth 100000 in
theorem wd_389 : Cond.methodLink RL 29 yX5_offer ∈ lw_gd := gd_of 389 rfl rfl
set_option maxRecDepth 100000 in
theorem wd_390 : Cond.instanceMethod yX5_offer ∈ lw_gd := gd_of 390 rfl rfl
set_option maxRecDepth 100000 in
theorem wd_391 : Cond.selects RX5 yX5_offer yX5_offer ∈ lw_gd := gd_of 391 rfl rfl
set_option maxRecDepth 100000 in
theorem wd_392 : Cond.code yX5_offer cX5_offer 4 (some .int) ∈ lw_gd := gd_of 392 rfl rfl
set_option maxRecDepth 100000 in
theorem wd_393 : Cond.methodLink RX5 63 yX2_makeOffer ∈ lw_gd := gd_of 393 rfl rfl
set_option maxRecDepth 100000 in
theorem wd_394 : Cond.instanceMethod yX2_makeOffer ∈ lw_gd := gd_of 394 rfl rfl
set_option maxRecDepth 100000 in
theorem wd_395 : Cond.selects RX2 yX2_makeOffer yX2_makeOffer ∈ lw_gd := gd_of 395 rfl rfl
set_option maxRecDepth 100000 in
theorem wd_396 : Cond.code yX2_makeOffer cX2_makeOffer 5 (some .int) ∈ lw_gd := gd_of 396 rfl rfl
set_option maxRecDepth 100000 in
theorem wd_397 : Cond.methodLink RX2 94 yX2_setOffer ∈ lw_gd := gd_of 397 rfl rfl
set_option maxRecDepth 100000 in
theorem wd_399 : Cond.instanceMethod yX2_setOffer ∈ lw_gd := gd_of 399 rfl rfl
set_option maxRecDepth 100000 in
theorem wd_400 : Cond.code yX2_setOffer cX2_setOffer 4 (none) ∈ lw_gd := gd_of 400 rfl rfl
set_option maxRecDepth 100000 in
theorem wd_401 : Cond.methodLink RL 93 yL_times ∈ lw_gd := gd_of 401 rfl rfl
set_option maxRecDepth 100000 in
theorem wd_402 : Cond.static yL_times ∈ lw_gd := gd_of 402 rfl rfl
set_option maxRecDepth 100000 in
theorem wd_403 : Cond.code yL_times cL_times 13 (some .boolean) ∈ lw_gd := gd_of 403 rfl rfl
set_option maxRecDepth 100000 in
theorem wd_404 : Cond.methodLink RL 36 yL_before ∈ lw_gd := gd_of 404 rfl rfl
set_option maxRecDepth 100000 in
theorem wd_405 : Cond.static yL_before ∈ lw_gd := gd_of 405 rfl rfl
set_option maxRecDepth 100000 in
theorem wd_406 : Cond.code yL_before cL_before 3 (some .int) ∈ lw_gd := gd_of 406 rfl rfl
set_option maxRecDepth 100000 in
theorem wd_407 : Cond.methodLink RL 33 yX5_at ∈ lw_gd := gd_of 407 rfl rfl
set_option maxRecDepth 100000 in
theorem wd_408 : Cond.instanceMethod yX5_at ∈ lw_gd := gd_of 408 rfl rfl
set_option maxRecDepth 100000 in
theorem wd_409 : Cond.selects RX5 yX5_at yX5_at ∈ lw_gd := gd_of 409 rfl rfl
set_option maxRecDepth 100000 in
theorem wd_410 : Cond.code yX5_at cX5_at 3 (some .int) ∈ lw_gd := gd_of 410 rfl rfl
set_option maxRecDepth 100000 in
theorem wd_411 : Cond.methodLink RX5 99 yX4_inRow ∈ lw_gd := gd_of 411 rfl rfl
set_option maxRecDepth 100000 in
theorem wd_412 : Cond.methodLink RL 40 yX5_due ∈ lw_gd := gd_of 412 rfl rfl
set_option maxRecDepth 100000 in
theorem wd_413 : Cond.instanceMethod yX5_due ∈ lw_gd := gd_of 413 rfl rfl
set_option maxRecDepth 100000 in
theorem wd_414 : Cond.selects RX5 yX5_due yX5_due ∈ lw_gd := gd_of 414 rfl rfl
set_option maxRecDepth 100000 in
theorem wd_415 : Cond.code yX5_due cX5_due 2 (some .long) ∈ lw_gd := gd_of 415 rfl rfl
set_option maxRecDepth 100000 in
theorem wd_416 : Cond.constantLong RX5 94 (-1 : Int64) ∈ lw_gd := gd_of 416 rfl rfl
set_option maxRecDepth 100000 in
theorem wd_417 : Cond.methodLink RL 44 yX5_count ∈ lw_gd := gd_of 417 rfl rfl
set_option maxRecDepth 100000 in
theorem wd_418 : Cond.instanceMethod yX5_count ∈ lw_gd := gd_of 418 rfl rfl
set_option maxRecDepth 100000 in
theorem wd_419 : Cond.selects RX5 yX5_count yX5_count ∈ lw_gd := gd_of 419 rfl rfl
set_option maxRecDepth 100000 in
theorem wd_420 : Cond.code yX5_count cX5_count 2 (some .int) ∈ lw_gd := gd_of 420 rfl rfl
set_option maxRecDepth 100000 in
theorem wd_421 : Cond.methodLink RX5 118 yX2_tellOfAll ∈ lw_gd := gd_of 421 rfl rfl
set_option maxRecDepth 100000 in
theorem wd_422 : Cond.instanceMethod yX2_tellOfAll ∈ lw_gd := gd_of 422 rfl rfl
set_option maxRecDepth 100000 in
theorem wd_423 : Cond.selects RX2 yX2_tellOfAll yX2_tellOfAll ∈ lw_gd := gd_of 423 rfl rfl
set_option maxRecDepth 100000 in
theorem wd_424 : Cond.code yX2_tellOfAll cX2_tellOfAll 2 (some .int) ∈ lw_gd := gd_of 424 rfl rfl
set_option maxRecDepth 100000 in
theorem wd_425 : Cond.methodLink RX2 195 yX2_offers ∈ lw_gd := gd_of 425 rfl rfl
set_option maxRecDepth 100000 in
theorem wd_427 : Cond.instanceMethod yX2_offers ∈ lw_gd := gd_of 427 rfl rfl
set_option maxRecDepth 100000 in
theorem wd_428 : Cond.code yX2_offers cX2_offers 3 (some .int) ∈ lw_gd := gd_of 428 rfl rfl
set_option maxRecDepth 100000 in
theorem wd_429 : Cond.methodLink RX2 198 yX2_lateTasks ∈ lw_gd := gd_of 429 rfl rfl
set_option maxRecDepth 100000 in
theorem wd_431 : Cond.instanceMethod yX2_lateTasks ∈ lw_gd := gd_of 431 rfl rfl
set_option maxRecDepth 100000 in
theorem wd_432 : Cond.code yX2_lateTasks cX2_lateTasks 3 (some .int) ∈ lw_gd := gd_of 432 rfl rfl
set_option maxRecDepth 100000 in
theorem wd_433 : Cond.methodLink RX2 201 yX4_endOfAll ∈ lw_gd := gd_of 433 rfl rfl
set_option maxRecDepth 100000 in
theorem wd_434 : Cond.methodLink RX2 204 yX2_allMoney ∈ lw_gd := gd_of 434 rfl rfl
set_option maxRecDepth 100000 in
theorem wd_436 : Cond.instanceMethod yX2_allMoney ∈ lw_gd := gd_of 436 rfl rfl
set_option maxRecDepth 100000 in
theorem wd_437 : Cond.code yX2_allMoney cX2_allMoney 3 (some .int) ∈ lw_gd := gd_of 437 rfl rfl
set_option maxRecDepth 100000 in
theorem wd_438 : Cond.methodLink RX2 207 yX0_allHours ∈ lw_gd := gd_of 438 rfl rfl
set_option maxRecDepth 100000 in
theorem wd_439 : Cond.instanceMethod yX0_allHours ∈ lw_gd := gd_of 439 rfl rfl
set_option maxRecDepth 100000 in
theorem wd_440 : Cond.selects RX0 yX0_allHours yX0_allHours ∈ lw_gd := gd_of 440 rfl rfl
set_option maxRecDepth 100000 in
theorem wd_441 : Cond.code yX0_allHours cX0_allHours 3 (some .int) ∈ lw_gd := gd_of 441 rfl rfl
set_option maxRecDepth 100000 in
theorem wd_443 : Cond.static yL_slacks ∈ lw_gd := gd_of 443 rfl rfl
set_option maxRecDepth 100000 in
theorem wd_444 : Cond.code yL_slacks cL_slacks 6 (some .boolean) ∈ lw_gd := gd_of 444 rfl rfl
set_option maxRecDepth 100000 in
theorem wd_445 : Cond.methodLink RL 48 yL_canBeHeld ∈ lw_gd := gd_of 445 rfl rfl
set_option maxRecDepth 100000 in
theorem wd_446 : Cond.static yL_canBeHeld ∈ lw_gd := gd_of 446 rfl rfl
set_option maxRecDepth 100000 in
theorem wd_447 : Cond.code yL_canBeHeld cL_canBeHeld 10 (some .boolean) ∈ lw_gd := gd_of 447 rfl rfl
set_option maxRecDepth 100000 in
theorem wd_449 : Cond.static yL_chain ∈ lw_gd := gd_of 449 rfl rfl
set_option maxRecDepth 100000 in
theorem wd_450 : Cond.code yL_chain cL_chain 8 (some .boolean) ∈ lw_gd := gd_of 450 rfl rfl
set_option maxRecDepth 100000 in
theorem wd_452 : Cond.static yL_places ∈ lw_gd := gd_of 452 rfl rfl
set_option maxRecDepth 100000 in
theorem wd_453 : Cond.code yL_places cL_places 9 (some .boolean) ∈ lw_gd := gd_of 453 rfl rfl
set_option maxRecDepth 100000 in
theorem wd_454 : Cond.methodLink RL 56 yX5_move ∈ lw_gd := gd_of 454 rfl rfl
set_option maxRecDepth 100000 in
theorem wd_455 : Cond.instanceMethod yX5_move ∈ lw_gd := gd_of 455 rfl rfl
set_option maxRecDepth 100000 in
theorem wd_456 : Cond.selects RX5 yX5_move yX5_move ∈ lw_gd := gd_of 456 rfl rfl
set_option maxRecDepth 100000 in
theorem wd_457 : Cond.code yX5_move cX5_move 3 (some .int) ∈ lw_gd := gd_of 457 rfl rfl
set_option maxRecDepth 100000 in
theorem wd_458 : Cond.methodLink RX5 60 yX2_moveTask ∈ lw_gd := gd_of 458 rfl rfl
set_option maxRecDepth 100000 in
theorem wd_459 : Cond.instanceMethod yX2_moveTask ∈ lw_gd := gd_of 459 rfl rfl
set_option maxRecDepth 100000 in
theorem wd_460 : Cond.selects RX2 yX2_moveTask yX2_moveTask ∈ lw_gd := gd_of 460 rfl rfl
set_option maxRecDepth 100000 in
theorem wd_461 : Cond.code yX2_moveTask cX2_moveTask 4 (some .int) ∈ lw_gd := gd_of 461 rfl rfl
set_option maxRecDepth 100000 in
theorem wd_462 : Cond.methodLink RX2 90 yX4_shift ∈ lw_gd := gd_of 462 rfl rfl
set_option maxRecDepth 100000 in
theorem wd_463 : Cond.instanceMethod yX4_shift ∈ lw_gd := gd_of 463 rfl rfl
set_option maxRecDepth 100000 in
theorem wd_464 : Cond.selects RX4 yX4_shift yX4_shift ∈ lw_gd := gd_of 464 rfl rfl
set_option maxRecDepth 100000 in
theorem wd_465 : Cond.code yX4_shift cX4_shift 6 (none) ∈ lw_gd := gd_of 465 rfl rfl
set_option maxRecDepth 100000 in
theorem wd_466 : Cond.methodLink RL 62 yX5_bestPlace ∈ lw_gd := gd_of 466 rfl rfl
set_option maxRecDepth 100000 in
theorem wd_467 : Cond.instanceMethod yX5_bestPlace ∈ lw_gd := gd_of 467 rfl rfl
set_option maxRecDepth 100000 in
theorem wd_468 : Cond.selects RX5 yX5_bestPlace yX5_bestPlace ∈ lw_gd := gd_of 468 rfl rfl
set_option maxRecDepth 100000 in
theorem wd_469 : Cond.code yX5_bestPlace cX5_bestPlace 2 (some .int) ∈ lw_gd := gd_of 469 rfl rfl
set_option maxRecDepth 100000 in
theorem wd_470 : Cond.methodLink RX5 147 yX2_findBestPlace ∈ lw_gd := gd_of 470 rfl rfl
set_option maxRecDepth 100000 in
theorem wd_471 : Cond.instanceMethod yX2_findBestPlace ∈ lw_gd := gd_of 471 rfl rfl
set_option maxRecDepth 100000 in
theorem wd_472 : Cond.selects RX2 yX2_findBestPlace yX2_findBestPlace ∈ lw_gd := gd_of 472 rfl rfl
set_option maxRecDepth 100000 in
theorem wd_473 : Cond.code yX2_findBestPlace cX2_findBestPlace 5 (some .int) ∈ lw_gd := gd_of 473 rfl rfl
set_option maxRecDepth 100000 in
theorem wd_475 : Cond.static yL_trades ∈ lw_gd := gd_of 475 rfl rfl
set_option maxRecDepth 100000 in
theorem wd_476 : Cond.code yL_trades cL_trades 18 (some .boolean) ∈ lw_gd := gd_of 476 rfl rfl
set_option maxRecDepth 100000 in
theorem wd_477 : Cond.methodLink RL 65 yL_dues ∈ lw_gd := gd_of 477 rfl rfl
set_option maxRecDepth 100000 in
theorem wd_478 : Cond.static yL_dues ∈ lw_gd := gd_of 478 rfl rfl
set_option maxRecDepth 100000 in
theorem wd_479 : Cond.code yL_dues cL_dues 5 (some .long) ∈ lw_gd := gd_of 479 rfl rfl
set_option maxRecDepth 100000 in
theorem wd_480 : Cond.methodLink RL 69 yX5_lateBehind ∈ lw_gd := gd_of 480 rfl rfl
set_option maxRecDepth 100000 in
theorem wd_481 : Cond.instanceMethod yX5_lateBehind ∈ lw_gd := gd_of 481 rfl rfl
set_option maxRecDepth 100000 in
theorem wd_482 : Cond.selects RX5 yX5_lateBehind yX5_lateBehind ∈ lw_gd := gd_of 482 rfl rfl
set_option maxRecDepth 100000 in
theorem wd_483 : Cond.code yX5_lateBehind cX5_lateBehind 1 (some .int) ∈ lw_gd := gd_of 483 rfl rfl
set_option maxRecDepth 100000 in
theorem wd_484 : Cond.methodLink RX5 67 yX2_tradeAll ∈ lw_gd := gd_of 484 rfl rfl
set_option maxRecDepth 100000 in
theorem wd_485 : Cond.instanceMethod yX2_tradeAll ∈ lw_gd := gd_of 485 rfl rfl
set_option maxRecDepth 100000 in
theorem wd_486 : Cond.selects RX2 yX2_tradeAll yX2_tradeAll ∈ lw_gd := gd_of 486 rfl rfl
set_option maxRecDepth 100000 in
theorem wd_487 : Cond.code yX2_tradeAll cX2_tradeAll 5 (some .int) ∈ lw_gd := gd_of 487 rfl rfl
set_option maxRecDepth 100000 in
theorem wd_488 : Cond.methodLink RX2 118 yX2_latestExcept ∈ lw_gd := gd_of 488 rfl rfl
set_option maxRecDepth 100000 in
theorem wd_490 : Cond.instanceMethod yX2_latestExcept ∈ lw_gd := gd_of 490 rfl rfl
set_option maxRecDepth 100000 in
theorem wd_491 : Cond.code yX2_latestExcept cX2_latestExcept 4 (some .int) ∈ lw_gd := gd_of 491 rfl rfl
set_option maxRecDepth 100000 in
theorem wd_492 : Cond.methodLink RX2 121 yX2_buyFor ∈ lw_gd := gd_of 492 rfl rfl
set_option maxRecDepth 100000 in
theorem wd_493 : Cond.instanceMethod yX2_buyFor ∈ lw_gd := gd_of 493 rfl rfl
set_option maxRecDepth 100000 in
theorem wd_494 : Cond.selects RX2 yX2_buyFor yX2_buyFor ∈ lw_gd := gd_of 494 rfl rfl
set_option maxRecDepth 100000 in
theorem wd_495 : Cond.code yX2_buyFor cX2_buyFor 5 (none) ∈ lw_gd := gd_of 495 rfl rfl
set_option maxRecDepth 100000 in
theorem wd_496 : Cond.methodLink RX2 128 yX4_measureFrom ∈ lw_gd := gd_of 496 rfl rfl
set_option maxRecDepth 100000 in
theorem wd_497 : Cond.instanceMethod yX4_measureFrom ∈ lw_gd := gd_of 497 rfl rfl
set_option maxRecDepth 100000 in
theorem wd_498 : Cond.selects RX4 yX4_measureFrom yX4_measureFrom ∈ lw_gd := gd_of 498 rfl rfl
set_option maxRecDepth 100000 in
theorem wd_499 : Cond.code yX4_measureFrom cX4_measureFrom 4 (none) ∈ lw_gd := gd_of 499 rfl rfl
set_option maxRecDepth 100000 in
theorem wd_500 : Cond.methodLink RX4 85 yX4_linkFrom ∈ lw_gd := gd_of 500 rfl rfl
set_option maxRecDepth 100000 in
theorem wd_502 : Cond.instanceMethod yX4_linkFrom ∈ lw_gd := gd_of 502 rfl rfl
set_option maxRecDepth 100000 in
theorem wd_503 : Cond.code yX4_linkFrom cX4_linkFrom 4 (none) ∈ lw_gd := gd_of 503 rfl rfl
set_option maxRecDepth 100000 in
theorem wd_504 : Cond.methodLink RX2 131 yX2_bestSellerExcept ∈ lw_gd := gd_of 504 rfl rfl
set_option maxRecDepth 100000 in
theorem wd_506 : Cond.instanceMethod yX2_bestSellerExcept ∈ lw_gd := gd_of 506 rfl rfl
set_option maxRecDepth 100000 in
theorem wd_507 : Cond.code yX2_bestSellerExcept cX2_bestSellerExcept 4 (some .int) ∈ lw_gd := gd_of 507 rfl rfl
set_option maxRecDepth 100000 in
theorem wd_508 : Cond.methodLink RX2 137 yX2_isInReach ∈ lw_gd := gd_of 508 rfl rfl
set_option maxRecDepth 100000 in
theorem wd_510 : Cond.instanceMethod yX2_isInReach ∈ lw_gd := gd_of 510 rfl rfl
set_option maxRecDepth 100000 in
theorem wd_511 : Cond.code yX2_isInReach cX2_isInReach 3 (some .boolean) ∈ lw_gd := gd_of 511 rfl rfl
set_option maxRecDepth 100000 in
theorem wd_512 : Cond.methodLink RX2 140 yX2_isBetterSeller ∈ lw_gd := gd_of 512 rfl rfl
set_option maxRecDepth 100000 in
theorem wd_514 : Cond.instanceMethod yX2_isBetterSeller ∈ lw_gd := gd_of 514 rfl rfl
set_option maxRecDepth 100000 in
theorem wd_515 : Cond.code yX2_isBetterSeller cX2_isBetterSeller 3 (some .boolean) ∈ lw_gd := gd_of 515 rfl rfl
set_option maxRecDepth 100000 in
theorem wd_516 : Cond.methodLink RX2 134 yX2_buyFrom ∈ lw_gd := gd_of 516 rfl rfl
set_option maxRecDepth 100000 in
theorem wd_518 : Cond.instanceMethod yX2_buyFrom ∈ lw_gd := gd_of 518 rfl rfl
set_option maxRecDepth 100000 in
theorem wd_519 : Cond.code yX2_buyFrom cX2_buyFrom 5 (none) ∈ lw_gd := gd_of 519 rfl rfl
set_option maxRecDepth 100000 in
theorem wd_520 : Cond.methodLink RX2 155 yX0_append ∈ lw_gd := gd_of 520 rfl rfl
set_option maxRecDepth 100000 in
theorem wd_521 : Cond.instanceMethod yX0_append ∈ lw_gd := gd_of 521 rfl rfl
set_option maxRecDepth 100000 in
theorem wd_522 : Cond.selects RX0 yX0_append yX0_append ∈ lw_gd := gd_of 522 rfl rfl
set_option maxRecDepth 100000 in
theorem wd_523 : Cond.code yX0_append cX0_append 5 (some .boolean) ∈ lw_gd := gd_of 523 rfl rfl
set_option maxRecDepth 100000 in
theorem wd_524 : Cond.methodLink RX5 153 yX2_lateTogether ∈ lw_gd := gd_of 524 rfl rfl
set_option maxRecDepth 100000 in
theorem wd_525 : Cond.methodLink RL 72 yL_latest ∈ lw_gd := gd_of 525 rfl rfl
set_option maxRecDepth 100000 in
theorem wd_526 : Cond.static yL_latest ∈ lw_gd := gd_of 526 rfl rfl
set_option maxRecDepth 100000 in
theorem wd_527 : Cond.code yL_latest cL_latest 5 (some .int) ∈ lw_gd := gd_of 527 rfl rfl
set_option maxRecDepth 100000 in
theorem wd_528 : Cond.methodLink RL 75 yX5_wouldBuy ∈ lw_gd := gd_of 528 rfl rfl
set_option maxRecDepth 100000 in
theorem wd_529 : Cond.instanceMethod yX5_wouldBuy ∈ lw_gd := gd_of 529 rfl rfl
set_option maxRecDepth 100000 in
theorem wd_530 : Cond.selects RX5 yX5_wouldBuy yX5_wouldBuy ∈ lw_gd := gd_of 530 rfl rfl
set_option maxRecDepth 100000 in
theorem wd_531 : Cond.code yX5_wouldBuy cX5_wouldBuy 3 (some .int) ∈ lw_gd := gd_of 531 rfl rfl
set_option maxRecDepth 100000 in
theorem wd_532 : Cond.methodLink RX5 131 yX2_buyFor ∈ lw_gd := gd_of 532 rfl rfl
set_option maxRecDepth 100000 in
theorem wd_533 : Cond.methodLink RX5 134 yX2_lateOf ∈ lw_gd := gd_of 533 rfl rfl
set_option maxRecDepth 100000 in
theorem wd_534 : Cond.methodLink RX5 140 yX0_sellersSince ∈ lw_gd := gd_of 534 rfl rfl
set_option maxRecDepth 100000 in
theorem wd_535 : Cond.instanceMethod yX0_sellersSince ∈ lw_gd := gd_of 535 rfl rfl
set_option maxRecDepth 100000 in
theorem wd_536 : Cond.selects RX0 yX0_sellersSince yX0_sellersSince ∈ lw_gd := gd_of 536 rfl rfl
set_option maxRecDepth 100000 in
theorem wd_537 : Cond.code yX0_sellersSince cX0_sellersSince 4 (some .int) ∈ lw_gd := gd_of 537 rfl rfl
set_option maxRecDepth 100000 in
theorem wd_538 : Cond.methodLink RX0 42 Lib.Math.max.name ∈ lw_gd := gd_of 538 rfl rfl
set_option maxRecDepth 100000 in
theorem wd_539 : Cond.methodLink RL 78 yX5_leastMoney ∈ lw_gd := gd_of 539 rfl rfl
set_option maxRecDepth 100000 in
theorem wd_540 : Cond.instanceMethod yX5_leastMoney ∈ lw_gd := gd_of 540 rfl rfl
set_option maxRecDepth 100000 in
theorem wd_541 : Cond.selects RX5 yX5_leastMoney yX5_leastMoney ∈ lw_gd := gd_of 541 rfl rfl
set_option maxRecDepth 100000 in
theorem wd_542 : Cond.code yX5_leastMoney cX5_leastMoney 2 (some .int) ∈ lw_gd := gd_of 542 rfl rfl
set_option maxRecDepth 100000 in
theorem wd_543 : Cond.constant RX5 143 (100000000 : Int32) ∈ lw_gd := gd_of 543 rfl rfl
set_option maxRecDepth 100000 in
theorem wd_544 : Cond.methodLink RL 81 yX5_money ∈ lw_gd := gd_of 544 rfl rfl
set_option maxRecDepth 100000 in
theorem wd_545 : Cond.instanceMethod yX5_money ∈ lw_gd := gd_of 545 rfl rfl
set_option maxRecDepth 100000 in
theorem wd_546 : Cond.selects RX5 yX5_money yX5_money ∈ lw_gd := gd_of 546 rfl rfl
set_option maxRecDepth 100000 in
theorem wd_547 : Cond.code yX5_money cX5_money 2 (some .int) ∈ lw_gd := gd_of 547 rfl rfl
set_option maxRecDepth 100000 in
theorem wd_548 : Cond.methodLink RL 84 yX5_trade ∈ lw_gd := gd_of 548 rfl rfl
set_option maxRecDepth 100000 in
theorem wd_549 : Cond.instanceMethod yX5_trade ∈ lw_gd := gd_of 549 rfl rfl
set_option maxRecDepth 100000 in
theorem wd_550 : Cond.selects RX5 yX5_trade yX5_trade ∈ lw_gd := gd_of 550 rfl rfl
set_option maxRecDepth 100000 in
theorem wd_551 : Cond.code yX5_trade cX5_trade 1 (some .int) ∈ lw_gd := gd_of 551 rfl rfl
set_option maxRecDepth 100000 in
theorem wd_552 : Cond.methodLink RL 87 yX5_ofContract ∈ lw_gd := gd_of 552 rfl rfl
set_option maxRecDepth 100000 in
theorem wd_553 : Cond.instanceMethod yX5_ofContract ∈ lw_gd := gd_of 553 rfl rfl
set_option maxRecDepth 100000 in
theorem wd_554 : Cond.selects RX5 yX5_ofContract yX5_ofContract ∈ lw_gd := gd_of 554 rfl rfl
set_option maxRecDepth 100000 in
theorem wd_555 : Cond.code yX5_ofContract cX5_ofContract 3 (some .int) ∈ lw_gd := gd_of 555 rfl rfl
set_option maxRecDepth 100000 in
theorem wd_556 : Cond.methodLink RX5 106 yX0_tell ∈ lw_gd := gd_of 556 rfl rfl
set_option maxRecDepth 100000 in
theorem wd_557 : Cond.instanceMethod yX0_tell ∈ lw_gd := gd_of 557 rfl rfl
set_option maxRecDepth 100000 in
theorem wd_558 : Cond.selects RX0 yX0_tell yX0_tell ∈ lw_gd := gd_of 558 rfl rfl
set_option maxRecDepth 100000 in
theorem wd_559 : Cond.code yX0_tell cX0_tell 3 (some .int) ∈ lw_gd := gd_of 559 rfl rfl
set_option maxRecDepth 100000 in
theorem wd_560 : Cond.methodLink RX0 34 yX0_has ∈ lw_gd := gd_of 560 rfl rfl
set_option maxRecDepth 100000 in
theorem wd_561 : Cond.instanceMethod yX0_has ∈ lw_gd := gd_of 561 rfl rfl
set_option maxRecDepth 100000 in
theorem wd_562 : Cond.selects RX0 yX0_has yX0_has ∈ lw_gd := gd_of 562 rfl rfl
set_option maxRecDepth 100000 in
theorem wd_563 : Cond.code yX0_has cX0_has 2 (some .boolean) ∈ lw_gd := gd_of 563 rfl rfl
set_option maxRecDepth 100000 in
theorem wd_564 : Cond.methodLink RL 90 yX5_distance ∈ lw_gd := gd_of 564 rfl rfl
set_option maxRecDepth 100000 in
theorem wd_565 : Cond.instanceMethod yX5_distance ∈ lw_gd := gd_of 565 rfl rfl
set_option maxRecDepth 100000 in
theorem wd_566 : Cond.selects RX5 yX5_distance yX5_distance ∈ lw_gd := gd_of 566 rfl rfl
set_option maxRecDepth 100000 in
theorem wd_567 : Cond.code yX5_distance cX5_distance 3 (some .int) ∈ lw_gd := gd_of 567 rfl rfl
set_option maxRecDepth 100000 in
theorem wd_568 : Cond.methodLink RX5 121 yX4_measureFrom ∈ lw_gd := gd_of 568 rfl rfl
set_option maxRecDepth 100000 in
theorem wd_570 : Cond.static yL_refunds ∈ lw_gd := gd_of 570 rfl rfl
set_option maxRecDepth 100000 in
theorem wd_571 : Cond.code yL_refunds cL_refunds 18 (some .boolean) ∈ lw_gd := gd_of 571 rfl rfl
set_option maxRecDepth 100000 in
theorem wd_572 : Cond.methodLink RL 97 yX5_refund ∈ lw_gd := gd_of 572 rfl rfl
set_option maxRecDepth 100000 in
theorem wd_573 : Cond.instanceMethod yX5_refund ∈ lw_gd := gd_of 573 rfl rfl
set_option maxRecDepth 100000 in
theorem wd_574 : Cond.selects RX5 yX5_refund yX5_refund ∈ lw_gd := gd_of 574 rfl rfl
set_option maxRecDepth 100000 in
theorem wd_575 : Cond.code yX5_refund cX5_refund 3 (some .int) ∈ lw_gd := gd_of 575 rfl rfl
set_option maxRecDepth 100000 in
theorem wd_576 : Cond.methodLink RX5 71 yX2_giveBack ∈ lw_gd := gd_of 576 rfl rfl
set_option maxRecDepth 100000 in
theorem wd_577 : Cond.instanceMethod yX2_giveBack ∈ lw_gd := gd_of 577 rfl rfl
set_option maxRecDepth 100000 in
theorem wd_578 : Cond.selects RX2 yX2_giveBack yX2_giveBack ∈ lw_gd := gd_of 578 rfl rfl
set_option maxRecDepth 100000 in
theorem wd_579 : Cond.code yX2_giveBack cX2_giveBack 6 (some .int) ∈ lw_gd := gd_of 579 rfl rfl
set_option maxRecDepth 100000 in
theorem wd_580 : Cond.methodLink RX2 97 yX0_has ∈ lw_gd := gd_of 580 rfl rfl
set_option maxRecDepth 100000 in
theorem wd_581 : Cond.methodLink RX2 111 yX0_lessen ∈ lw_gd := gd_of 581 rfl rfl
set_option maxRecDepth 100000 in
theorem wd_582 : Cond.instanceMethod yX0_lessen ∈ lw_gd := gd_of 582 rfl rfl
set_option maxRecDepth 100000 in
theorem wd_583 : Cond.selects RX0 yX0_lessen yX0_lessen ∈ lw_gd := gd_of 583 rfl rfl
set_option maxRecDepth 100000 in
theorem wd_584 : Cond.code yX0_lessen cX0_lessen 4 (some .int) ∈ lw_gd := gd_of 584 rfl rfl
set_option maxRecDepth 100000 in
theorem wd_585 : Cond.methodLink RX0 38 yX0_remove ∈ lw_gd := gd_of 585 rfl rfl
set_option maxRecDepth 100000 in
theorem wd_587 : Cond.instanceMethod yX0_remove ∈ lw_gd := gd_of 587 rfl rfl
set_option maxRecDepth 100000 in
theorem wd_588 : Cond.code yX0_remove cX0_remove 3 (none) ∈ lw_gd := gd_of 588 rfl rfl
set_option maxRecDepth 100000 in
theorem wd_590 : Cond.static yL_trades2 ∈ lw_gd := gd_of 590 rfl rfl
set_option maxRecDepth 100000 in
theorem wd_591 : Cond.code yL_trades2 cL_trades2 6 (some .boolean) ∈ lw_gd := gd_of 591 rfl rfl
