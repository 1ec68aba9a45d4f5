/-! the words of the tables that the rows use -/
set_option maxRecDepth 100000 in
theorem wd_0 : Cond.selects RX4 yX4_scheduleRow yX4_scheduleRow ∈ lw_gd := gd_of 0 rfl rfl
set_option maxRecDepth 100000 in
theorem wd_1 : Cond.selects RX2 yX2_setOffer yX2_setOffer ∈ lw_gd := gd_of 1 rfl rfl
set_option maxRecDepth 100000 in
theorem wd_2 : Cond.selects RX2 yX2_latestExcept yX2_latestExcept ∈ lw_gd := gd_of 2 rfl rfl
set_option maxRecDepth 100000 in
theorem wd_3 : Cond.selects RX4 yX4_linkFrom yX4_linkFrom ∈ lw_gd := gd_of 3 rfl rfl
set_option maxRecDepth 100000 in
theorem wd_4 : Cond.selects RX2 yX2_bestSellerExcept yX2_bestSellerExcept ∈ lw_gd := gd_of 4 rfl rfl
set_option maxRecDepth 100000 in
theorem wd_5 : Cond.selects RX2 yX2_isInReach yX2_isInReach ∈ lw_gd := gd_of 5 rfl rfl
set_option maxRecDepth 100000 in
theorem wd_6 : Cond.selects RX2 yX2_isBetterSeller yX2_isBetterSeller ∈ lw_gd := gd_of 6 rfl rfl
set_option maxRecDepth 100000 in
theorem wd_7 : Cond.selects RX2 yX2_buyFrom yX2_buyFrom ∈ lw_gd := gd_of 7 rfl rfl
set_option maxRecDepth 100000 in
theorem wd_8 : Cond.selects RX0 yX0_remove yX0_remove ∈ lw_gd := gd_of 8 rfl rfl
set_option maxRecDepth 100000 in
theorem wd_9 : Cond.selects RX2 yX2_slackOf yX2_slackOf ∈ lw_gd := gd_of 9 rfl rfl
set_option maxRecDepth 100000 in
theorem wd_10 : Cond.selects RX2 yX2_lowerLatestEnd yX2_lowerLatestEnd ∈ lw_gd := gd_of 10 rfl rfl
set_option maxRecDepth 100000 in
theorem wd_11 : Cond.selects RX2 yX2_offers yX2_offers ∈ lw_gd := gd_of 11 rfl rfl
set_option maxRecDepth 100000 in
theorem wd_12 : Cond.selects RX2 yX2_lateTasks yX2_lateTasks ∈ lw_gd := gd_of 12 rfl rfl
set_option maxRecDepth 100000 in
theorem wd_13 : Cond.selects RX2 yX2_allMoney yX2_allMoney ∈ lw_gd := gd_of 13 rfl rfl
set_option maxRecDepth 100000 in
theorem wd_14 : Cond.selects RX4 yX4_waitedFor yX4_waitedFor ∈ lw_gd := gd_of 14 rfl rfl
set_option maxRecDepth 100000 in
theorem wd_15 : Cond.selects RX3 yX3_here yX3_here ∈ lw_gd := gd_of 15 rfl rfl
set_option maxRecDepth 100000 in
theorem wd_16 : Cond.selects RX3 yX3_readSign yX3_readSign ∈ lw_gd := gd_of 16 rfl rfl
set_option maxRecDepth 100000 in
theorem wd_17 : Cond.selects RX3 yX3_readTask yX3_readTask ∈ lw_gd := gd_of 17 rfl rfl
set_option maxRecDepth 100000 in
theorem wd_18 : Cond.selects RX3 yX3_readDigit yX3_readDigit ∈ lw_gd := gd_of 18 rfl rfl
set_option maxRecDepth 100000 in
theorem wd_19 : Cond.selects RX3 yX3_isDigit yX3_isDigit ∈ lw_gd := gd_of 19 rfl rfl
set_option maxRecDepth 100000 in
theorem wd_20 : Cond.selects RX3 yX3_keep yX3_keep ∈ lw_gd := gd_of 20 rfl rfl
set_option maxRecDepth 100000 in
theorem wd_21 : Cond.selects RX3 yX3_readNumber yX3_readNumber ∈ lw_gd := gd_of 21 rfl rfl
set_option maxRecDepth 100000 in
theorem wd_22 : Cond.selects RX3 yX3_readPair yX3_readPair ∈ lw_gd := gd_of 22 rfl rfl
set_option maxRecDepth 100000 in
theorem wd_23 : Cond.selects RX5 yX5_carryOrders yX5_carryOrders ∈ lw_gd := gd_of 23 rfl rfl
set_option maxRecDepth 100000 in
theorem wd_24 : Cond.selects RX5 yX5_carryOrder yX5_carryOrder ∈ lw_gd := gd_of 24 rfl rfl
set_option maxRecDepth 100000 in
theorem wd_25 : Cond.selects RX6 yX6_record yX6_record ∈ lw_gd := gd_of 25 rfl rfl
set_option maxRecDepth 100000 in
theorem wd_26 : Cond.selects RX6 yX6_isTask yX6_isTask ∈ lw_gd := gd_of 26 rfl rfl
set_option maxRecDepth 100000 in
theorem wd_27 : Cond.selects RX6 yX6_manyOn yX6_manyOn ∈ lw_gd := gd_of 27 rfl rfl
set_option maxRecDepth 100000 in
theorem wd_28 : Cond.selects RX6 yX6_putAt yX6_putAt ∈ lw_gd := gd_of 28 rfl rfl
set_option maxRecDepth 100000 in
theorem wd_29 : Cond.selects RX6 yX6_reckon yX6_reckon ∈ lw_gd := gd_of 29 rfl rfl
set_option maxRecDepth 100000 in
theorem wd_30 : Cond.selects RX6 yX6_endOf yX6_endOf ∈ lw_gd := gd_of 30 rfl rfl
set_option maxRecDepth 100000 in
theorem wd_31 : Cond.selects RX6 yX6_taskAt yX6_taskAt ∈ lw_gd := gd_of 31 rfl rfl
set_option maxRecDepth 100000 in
theorem wd_32 : Cond.selects RX6 yX6_measure yX6_measure ∈ lw_gd := gd_of 32 rfl rfl
set_option maxRecDepth 100000 in
theorem wd_33 : Cond.selects RX6 yX6_areLinked yX6_areLinked ∈ lw_gd := gd_of 33 rfl rfl
set_option maxRecDepth 100000 in
theorem wd_34 : Cond.selects RX6 yX6_tradeAll yX6_tradeAll ∈ lw_gd := gd_of 34 rfl rfl
set_option maxRecDepth 100000 in
theorem wd_35 : Cond.selects RX6 yX6_late yX6_late ∈ lw_gd := gd_of 35 rfl rfl
set_option maxRecDepth 100000 in
theorem wd_36 : Cond.selects RX6 yX6_buys yX6_buys ∈ lw_gd := gd_of 36 rfl rfl
set_option maxRecDepth 100000 in
theorem wd_37 : Cond.selects RX6 yX6_nextOffer yX6_nextOffer ∈ lw_gd := gd_of 37 rfl rfl
set_option maxRecDepth 100000 in
theorem wd_38 : Cond.selects RX6 yX6_isSooner yX6_isSooner ∈ lw_gd := gd_of 38 rfl rfl
set_option maxRecDepth 100000 in
theorem wd_39 : Cond.selects RX6 yX6_hoursOf yX6_hoursOf ∈ lw_gd := gd_of 39 rfl rfl
set_option maxRecDepth 100000 in
theorem wd_40 : Cond.selects RX6 yX6_spared yX6_spared ∈ lw_gd := gd_of 40 rfl rfl
set_option maxRecDepth 100000 in
theorem wd_41 : Cond.selects RX6 yX6_agree yX6_agree ∈ lw_gd := gd_of 41 rfl rfl
set_option maxRecDepth 100000 in
theorem wd_42 : Cond.selects RX6 yX6_isContract yX6_isContract ∈ lw_gd := gd_of 42 rfl rfl
set_option maxRecDepth 100000 in
theorem wd_43 : Cond.selects RX6 yX6_dropContract yX6_dropContract ∈ lw_gd := gd_of 43 rfl rfl
set_option maxRecDepth 100000 in
theorem wd_44 : Cond.selects RX6 yX6_slack yX6_slack ∈ lw_gd := gd_of 44 rfl rfl
set_option maxRecDepth 100000 in
theorem wd_45 : Cond.selects RX6 yX6_canBeHeld yX6_canBeHeld ∈ lw_gd := gd_of 45 rfl rfl
set_option maxRecDepth 100000 in
theorem wd_46 : Cond.selects RX6 yX6_lateTogether yX6_lateTogether ∈ lw_gd := gd_of 46 rfl rfl
set_option maxRecDepth 100000 in
theorem wd_47 : Cond.selects RX6 yX6_hoursBy yX6_hoursBy ∈ lw_gd := gd_of 47 rfl rfl
set_option maxRecDepth 100000 in
theorem wd_48 : Cond.selects RX6 yX6_behind yX6_behind ∈ lw_gd := gd_of 48 rfl rfl
set_option maxRecDepth 100000 in
theorem wd_49 : Cond.selects RX6 yX6_offers yX6_offers ∈ lw_gd := gd_of 49 rfl rfl
set_option maxRecDepth 100000 in
theorem wd_50 : Cond.selects RX6 yX6_lateSet yX6_lateSet ∈ lw_gd := gd_of 50 rfl rfl
set_option maxRecDepth 100000 in
theorem wd_51 : Cond.selects RX6 yX6_endOfAll yX6_endOfAll ∈ lw_gd := gd_of 51 rfl rfl
set_option maxRecDepth 100000 in
theorem wd_52 : Cond.selects RX6 yX6_sumOf yX6_sumOf ∈ lw_gd := gd_of 52 rfl rfl
set_option maxRecDepth 100000 in
theorem wd_53 : Cond.selects RX6 yX6_putAside yX6_putAside ∈ lw_gd := gd_of 53 rfl rfl
set_option maxRecDepth 100000 in
theorem wd_54 : Cond.selects RX6 yX6_bringBack yX6_bringBack ∈ lw_gd := gd_of 54 rfl rfl
set_option maxRecDepth 100000 in
theorem wd_55 : Cond.selects RX6 yX6_readPad yX6_readPad ∈ lw_gd := gd_of 55 rfl rfl
set_option maxRecDepth 100000 in
theorem wd_56 : Cond.selects RX6 yX6_readOrder yX6_readOrder ∈ lw_gd := gd_of 56 rfl rfl
set_option maxRecDepth 100000 in
theorem wd_57 : Cond.selects RX6 yX6_letter yX6_letter ∈ lw_gd := gd_of 57 rfl rfl
set_option maxRecDepth 100000 in
theorem wd_58 : Cond.selects RX6 yX6_readTask yX6_readTask ∈ lw_gd := gd_of 58 rfl rfl
set_option maxRecDepth 100000 in
theorem wd_59 : Cond.selects RX6 yX6_takesMachine yX6_takesMachine ∈ lw_gd := gd_of 59 rfl rfl
set_option maxRecDepth 100000 in
theorem wd_60 : Cond.selects RX6 yX6_fail yX6_fail ∈ lw_gd := gd_of 60 rfl rfl
set_option maxRecDepth 100000 in
theorem wd_61 : Cond.selects RX6 yX6_takes yX6_takes ∈ lw_gd := gd_of 61 rfl rfl
set_option maxRecDepth 100000 in
theorem wd_62 : Cond.selects RX6 yX6_takesNumber yX6_takesNumber ∈ lw_gd := gd_of 62 rfl rfl
set_option maxRecDepth 100000 in
theorem wd_63 : Cond.selects RX6 yX6_isDigit yX6_isDigit ∈ lw_gd := gd_of 63 rfl rfl
set_option maxRecDepth 100000 in
theorem wd_64 : Cond.selects RX6 yX6_readTwo yX6_readTwo ∈ lw_gd := gd_of 64 rfl rfl
set_option maxRecDepth 100000 in
theorem wd_65 : Cond.selects RX6 yX6_does yX6_does ∈ lw_gd := gd_of 65 rfl rfl
set_option maxRecDepth 100000 in
theorem wd_67 : Cond.initialized RX5 ∈ lw_gd := gd_of 67 rfl rfl
set_option maxRecDepth 100000 in
theorem wd_68 : Cond.initialized RX2 ∈ lw_gd := gd_of 68 rfl rfl
set_option maxRecDepth 100000 in
theorem wd_69 : Cond.initialized RX4 ∈ lw_gd := gd_of 69 rfl rfl
set_option maxRecDepth 100000 in
theorem wd_70 : Cond.initialized RX0 ∈ lw_gd := gd_of 70 rfl rfl
set_option maxRecDepth 100000 in
theorem wd_71 : Cond.initialized RX1 ∈ lw_gd := gd_of 71 rfl rfl
set_option maxRecDepth 100000 in
theorem wd_72 : Cond.initialized RX3 ∈ lw_gd := gd_of 72 rfl rfl
set_option maxRecDepth 100000 in
theorem wd_73 : Cond.initialized RX6 ∈ lw_gd := gd_of 73 rfl rfl
set_option maxRecDepth 100000 in
theorem wd_74 : Cond.initialized "java/lang/System" ∈ lw_gd := gd_of 74 rfl rfl
set_option maxRecDepth 100000 in
theorem wd_75 : Cond.initialized "java/lang/Math" ∈ lw_gd := gd_of 75 rfl rfl
set_option maxRecDepth 100000 in
theorem wd_96 : Cond.fieldLink RX4 39 (TX4 0).1 (TX4 0).2.1 (TX4 0).2.2.1 ∈ lw_gd := gd_of 96 rfl rfl
set_option maxRecDepth 100000 in
theorem wd_97 : Cond.fieldLink RX2 66 (TX4 0).1 (TX4 0).2.1 (TX4 0).2.2.1 ∈ lw_gd := gd_of 97 rfl rfl
set_option maxRecDepth 100000 in
theorem wd_98 : Cond.fieldLink RX5 192 (TX4 0).1 (TX4 0).2.1 (TX4 0).2.2.1 ∈ lw_gd := gd_of 98 rfl rfl
set_option maxRecDepth 100000 in
theorem wd_99 : Cond.fieldLink RX4 9 (TX4 1).1 (TX4 1).2.1 (TX4 1).2.2.1 ∈ lw_gd := gd_of 99 rfl rfl
set_option maxRecDepth 100000 in
theorem wd_100 : Cond.fieldLink RX2 83 (TX4 1).1 (TX4 1).2.1 (TX4 1).2.2.1 ∈ lw_gd := gd_of 100 rfl rfl
set_option maxRecDepth 100000 in
theorem wd_101 : Cond.fieldLink RX4 15 (TX4 2).1 (TX4 2).2.1 (TX4 2).2.2.1 ∈ lw_gd := gd_of 101 rfl rfl
set_option maxRecDepth 100000 in
theorem wd_102 : Cond.fieldLink RX2 77 (TX4 2).1 (TX4 2).2.1 (TX4 2).2.2.1 ∈ lw_gd := gd_of 102 rfl rfl
set_option maxRecDepth 100000 in
theorem wd_103 : Cond.fieldLink RX4 18 (TX4 3).1 (TX4 3).2.1 (TX4 3).2.2.1 ∈ lw_gd := gd_of 103 rfl rfl
set_option maxRecDepth 100000 in
theorem wd_104 : Cond.fieldLink RX2 174 (TX4 3).1 (TX4 3).2.1 (TX4 3).2.2.1 ∈ lw_gd := gd_of 104 rfl rfl
set_option maxRecDepth 100000 in
theorem wd_105 : Cond.fieldLink RX4 21 (TX4 4).1 (TX4 4).2.1 (TX4 4).2.2.1 ∈ lw_gd := gd_of 105 rfl rfl
set_option maxRecDepth 100000 in
theorem wd_106 : Cond.fieldLink RX2 108 (TX4 4).1 (TX4 4).2.1 (TX4 4).2.2.1 ∈ lw_gd := gd_of 106 rfl rfl
set_option maxRecDepth 100000 in
theorem wd_107 : Cond.fieldLink RX4 24 (TX4 5).1 (TX4 5).2.1 (TX4 5).2.2.1 ∈ lw_gd := gd_of 107 rfl rfl
set_option maxRecDepth 100000 in
theorem wd_108 : Cond.fieldLink RX2 165 (TX4 5).1 (TX4 5).2.1 (TX4 5).2.2.1 ∈ lw_gd := gd_of 108 rfl rfl
set_option maxRecDepth 100000 in
theorem wd_109 : Cond.fieldLink RX4 27 (TX4 6).1 (TX4 6).2.1 (TX4 6).2.2.1 ∈ lw_gd := gd_of 109 rfl rfl
set_option maxRecDepth 100000 in
theorem wd_110 : Cond.fieldLink RX4 30 (TX4 7).1 (TX4 7).2.1 (TX4 7).2.2.1 ∈ lw_gd := gd_of 110 rfl rfl
set_option maxRecDepth 100000 in
theorem wd_111 : Cond.fieldLink RX2 80 (TX4 7).1 (TX4 7).2.1 (TX4 7).2.2.1 ∈ lw_gd := gd_of 111 rfl rfl
set_option maxRecDepth 100000 in
theorem wd_112 : Cond.fieldLink RX4 33 (TX4 8).1 (TX4 8).2.1 (TX4 8).2.2.1 ∈ lw_gd := gd_of 112 rfl rfl
set_option maxRecDepth 100000 in
theorem wd_113 : Cond.fieldLink RX4 36 (TX4 9).1 (TX4 9).2.1 (TX4 9).2.2.1 ∈ lw_gd := gd_of 113 rfl rfl
set_option maxRecDepth 100000 in
theorem wd_114 : Cond.fieldLink RX2 144 (TX4 9).1 (TX4 9).2.1 (TX4 9).2.2.1 ∈ lw_gd := gd_of 114 rfl rfl
set_option maxRecDepth 100000 in
theorem wd_115 : Cond.fieldLink RX5 125 (TX4 9).1 (TX4 9).2.1 (TX4 9).2.2.1 ∈ lw_gd := gd_of 115 rfl rfl
set_option maxRecDepth 100000 in
theorem wd_144 : Cond.fieldLink RX0 24 (TX0 0).1 (TX0 0).2.1 (TX0 0).2.2.1 ∈ lw_gd := gd_of 144 rfl rfl
set_option maxRecDepth 100000 in
theorem wd_145 : Cond.fieldLink RX2 115 (TX0 0).1 (TX0 0).2.1 (TX0 0).2.2.1 ∈ lw_gd := gd_of 145 rfl rfl
set_option maxRecDepth 100000 in
theorem wd_146 : Cond.fieldLink RX5 137 (TX0 0).1 (TX0 0).2.1 (TX0 0).2.2.1 ∈ lw_gd := gd_of 146 rfl rfl
set_option maxRecDepth 100000 in
theorem wd_147 : Cond.fieldLink RX0 9 (TX0 1).1 (TX0 1).2.1 (TX0 1).2.2.1 ∈ lw_gd := gd_of 147 rfl rfl
set_option maxRecDepth 100000 in
theorem wd_148 : Cond.fieldLink RX2 101 (TX0 1).1 (TX0 1).2.1 (TX0 1).2.2.1 ∈ lw_gd := gd_of 148 rfl rfl
set_option maxRecDepth 100000 in
theorem wd_149 : Cond.fieldLink RX0 15 (TX0 2).1 (TX0 2).2.1 (TX0 2).2.2.1 ∈ lw_gd := gd_of 149 rfl rfl
set_option maxRecDepth 100000 in
theorem wd_150 : Cond.fieldLink RX2 104 (TX0 2).1 (TX0 2).2.1 (TX0 2).2.2.1 ∈ lw_gd := gd_of 150 rfl rfl
set_option maxRecDepth 100000 in
theorem wd_151 : Cond.fieldLink RX0 18 (TX0 3).1 (TX0 3).2.1 (TX0 3).2.2.1 ∈ lw_gd := gd_of 151 rfl rfl
set_option maxRecDepth 100000 in
theorem wd_152 : Cond.fieldLink RX2 98 (TX0 3).1 (TX0 3).2.1 (TX0 3).2.2.1 ∈ lw_gd := gd_of 152 rfl rfl
set_option maxRecDepth 100000 in
theorem wd_153 : Cond.fieldLink RX0 21 (TX0 4).1 (TX0 4).2.1 (TX0 4).2.2.1 ∈ lw_gd := gd_of 153 rfl rfl
set_option maxRecDepth 100000 in
theorem wd_154 : Cond.fieldLink RX2 107 (TX0 4).1 (TX0 4).2.1 (TX0 4).2.2.1 ∈ lw_gd := gd_of 154 rfl rfl
set_option maxRecDepth 100000 in
theorem wd_166 : Cond.fieldLink RX2 12 (TX2 0).1 (TX2 0).2.1 (TX2 0).2.2.1 ∈ lw_gd := gd_of 166 rfl rfl
set_option maxRecDepth 100000 in
theorem wd_167 : Cond.fieldLink RX5 80 (TX2 0).1 (TX2 0).2.1 (TX2 0).2.2.1 ∈ lw_gd := gd_of 167 rfl rfl
set_option maxRecDepth 100000 in
theorem wd_168 : Cond.fieldLink RX2 21 (TX2 1).1 (TX2 1).2.1 (TX2 1).2.2.1 ∈ lw_gd := gd_of 168 rfl rfl
set_option maxRecDepth 100000 in
theorem wd_169 : Cond.fieldLink RX5 102 (TX2 1).1 (TX2 1).2.1 (TX2 1).2.2.1 ∈ lw_gd := gd_of 169 rfl rfl
set_option maxRecDepth 100000 in
theorem wd_170 : Cond.fieldLink RX2 25 (TX2 2).1 (TX2 2).2.1 (TX2 2).2.2.1 ∈ lw_gd := gd_of 170 rfl rfl
set_option maxRecDepth 100000 in
theorem wd_171 : Cond.fieldLink RX2 29 (TX2 3).1 (TX2 3).2.1 (TX2 3).2.2.1 ∈ lw_gd := gd_of 171 rfl rfl
set_option maxRecDepth 100000 in
theorem wd_172 : Cond.fieldLink RX2 32 (TX2 4).1 (TX2 4).2.1 (TX2 4).2.2.1 ∈ lw_gd := gd_of 172 rfl rfl
set_option maxRecDepth 100000 in
theorem wd_173 : Cond.fieldLink RX5 90 (TX2 4).1 (TX2 4).2.1 (TX2 4).2.2.1 ∈ lw_gd := gd_of 173 rfl rfl
set_option maxRecDepth 100000 in
theorem wd_174 : Cond.fieldLink RX2 36 (TX2 5).1 (TX2 5).2.1 (TX2 5).2.2.1 ∈ lw_gd := gd_of 174 rfl rfl
set_option maxRecDepth 100000 in
theorem wd_175 : Cond.fieldLink RX5 96 (TX2 5).1 (TX2 5).2.1 (TX2 5).2.2.1 ∈ lw_gd := gd_of 175 rfl rfl
set_option maxRecDepth 100000 in
theorem wd_176 : Cond.fieldLink RX2 39 (TX2 6).1 (TX2 6).2.1 (TX2 6).2.2.1 ∈ lw_gd := gd_of 176 rfl rfl
set_option maxRecDepth 100000 in
theorem wd_177 : Cond.fieldLink RX2 42 (TX2 7).1 (TX2 7).2.1 (TX2 7).2.2.1 ∈ lw_gd := gd_of 177 rfl rfl
set_option maxRecDepth 100000 in
theorem wd_178 : Cond.fieldLink RX2 45 (TX2 8).1 (TX2 8).2.1 (TX2 8).2.2.1 ∈ lw_gd := gd_of 178 rfl rfl
set_option maxRecDepth 100000 in
theorem wd_207 : Cond.fieldLink RX1 11 (TX1 0).1 (TX1 0).2.1 (TX1 0).2.2.1 ∈ lw_gd := gd_of 207 rfl rfl
set_option maxRecDepth 100000 in
theorem wd_208 : Cond.fieldLink RX1 18 (TX1 1).1 (TX1 1).2.1 (TX1 1).2.2.1 ∈ lw_gd := gd_of 208 rfl rfl
set_option maxRecDepth 100000 in
theorem wd_209 : Cond.fieldLink RX1 22 (TX1 2).1 (TX1 2).2.1 (TX1 2).2.2.1 ∈ lw_gd := gd_of 209 rfl rfl
set_option maxRecDepth 100000 in
theorem wd_210 : Cond.fieldLink RX5 115 (TX1 2).1 (TX1 2).2.1 (TX1 2).2.2.1 ∈ lw_gd := gd_of 210 rfl rfl
set_option maxRecDepth 100000 in
theorem wd_224 : Cond.fieldLink RX3 9 (TX3 0).1 (TX3 0).2.1 (TX3 0).2.2.1 ∈ lw_gd := gd_of 224 rfl rfl
set_option maxRecDepth 100000 in
theorem wd_225 : Cond.fieldLink RX3 25 (TX3 1).1 (TX3 1).2.1 (TX3 1).2.2.1 ∈ lw_gd := gd_of 225 rfl rfl
set_option maxRecDepth 100000 in
theorem wd_226 : Cond.fieldLink RX5 111 (TX3 1).1 (TX3 1).2.1 (TX3 1).2.2.1 ∈ lw_gd := gd_of 226 rfl rfl
set_option maxRecDepth 100000 in
theorem wd_227 : Cond.fieldLink RX3 29 (TX3 2).1 (TX3 2).2.1 (TX3 2).2.2.1 ∈ lw_gd := gd_of 227 rfl rfl
set_option maxRecDepth 100000 in
theorem wd_228 : Cond.fieldLink RX3 53 (TX3 3).1 (TX3 3).2.1 (TX3 3).2.2.1 ∈ lw_gd := gd_of 228 rfl rfl
set_option maxRecDepth 100000 in
theorem wd_229 : Cond.fieldLink RX5 185 (TX3 3).1 (TX3 3).2.1 (TX3 3).2.2.1 ∈ lw_gd := gd_of 229 rfl rfl
set_option maxRecDepth 100000 in
theorem wd_230 : Cond.fieldLink RX3 15 (TX3 4).1 (TX3 4).2.1 (TX3 4).2.2.1 ∈ lw_gd := gd_of 230 rfl rfl
set_option maxRecDepth 100000 in
theorem wd_231 : Cond.fieldLink RX5 182 (TX3 4).1 (TX3 4).2.1 (TX3 4).2.2.1 ∈ lw_gd := gd_of 231 rfl rfl
set_option maxRecDepth 100000 in
theorem wd_232 : Cond.fieldLink RX3 46 (TX3 5).1 (TX3 5).2.1 (TX3 5).2.2.1 ∈ lw_gd := gd_of 232 rfl rfl
set_option maxRecDepth 100000 in
theorem wd_248 : Cond.fieldLink RX5 12 (TX5 0).1 (TX5 0).2.1 (TX5 0).2.2.1 ∈ lw_gd := gd_of 248 rfl rfl
set_option maxRecDepth 100000 in
theorem wd_249 : Cond.fieldLink RX5 16 (TX5 1).1 (TX5 1).2.1 (TX5 1).2.2.1 ∈ lw_gd := gd_of 249 rfl rfl
set_option maxRecDepth 100000 in
theorem wd_250 : Cond.fieldLink RX5 22 (TX5 2).1 (TX5 2).2.1 (TX5 2).2.2.1 ∈ lw_gd := gd_of 250 rfl rfl
set_option maxRecDepth 100000 in
theorem wd_251 : Cond.fieldLink RX5 26 (TX5 3).1 (TX5 3).2.1 (TX5 3).2.2.1 ∈ lw_gd := gd_of 251 rfl rfl
set_option maxRecDepth 100000 in
theorem wd_252 : Cond.fieldLink RX5 30 (TX5 4).1 (TX5 4).2.1 (TX5 4).2.2.1 ∈ lw_gd := gd_of 252 rfl rfl
set_option maxRecDepth 100000 in
theorem wd_253 : Cond.fieldLink RX5 37 (TX5 5).1 (TX5 5).2.1 (TX5 5).2.2.1 ∈ lw_gd := gd_of 253 rfl rfl
set_option maxRecDepth 100000 in
theorem wd_268 : Cond.instanceMethod yX5_set ∈ lw_gd := gd_of 268 rfl rfl
set_option maxRecDepth 100000 in
theorem wd_269 : Cond.selects RX5 yX5_set yX5_set ∈ lw_gd := gd_of 269 rfl rfl
set_option maxRecDepth 100000 in
theorem wd_270 : Cond.code yX5_set cX5_set 3 (some .int) ∈ lw_gd := gd_of 270 rfl rfl
set_option maxRecDepth 100000 in
theorem wd_271 : Cond.methodLink RX5 41 yX1_prepare ∈ lw_gd := gd_of 271 rfl rfl
set_option maxRecDepth 100000 in
theorem wd_272 : Cond.instanceMethod yX1_prepare ∈ lw_gd := gd_of 272 rfl rfl
set_option maxRecDepth 100000 in
theorem wd_273 : Cond.selects RX1 yX1_prepare yX1_prepare ∈ lw_gd := gd_of 273 rfl rfl
set_option maxRecDepth 100000 in
theorem wd_274 : Cond.code yX1_prepare cX1_prepare 3 (none) ∈ lw_gd := gd_of 274 rfl rfl
set_option maxRecDepth 100000 in
theorem wd_275 : Cond.methodLink RX1 25 yX2_copyFrom ∈ lw_gd := gd_of 275 rfl rfl
set_option maxRecDepth 100000 in
theorem wd_276 : Cond.instanceMethod yX2_copyFrom ∈ lw_gd := gd_of 276 rfl rfl
set_option maxRecDepth 100000 in
theorem wd_277 : Cond.selects RX2 yX2_copyFrom yX2_copyFrom ∈ lw_gd := gd_of 277 rfl rfl
set_option maxRecDepth 100000 in
theorem wd_278 : Cond.code yX2_copyFrom cX2_copyFrom 2 (none) ∈ lw_gd := gd_of 278 rfl rfl
set_option maxRecDepth 100000 in
theorem wd_279 : Cond.methodLink RX2 48 yX4_copyFrom ∈ lw_gd := gd_of 279 rfl rfl
set_option maxRecDepth 100000 in
theorem wd_280 : Cond.instanceMethod yX4_copyFrom ∈ lw_gd := gd_of 280 rfl rfl
set_option maxRecDepth 100000 in
theorem wd_281 : Cond.selects RX4 yX4_copyFrom yX4_copyFrom ∈ lw_gd := gd_of 281 rfl rfl
set_option maxRecDepth 100000 in
theorem wd_282 : Cond.code yX4_copyFrom cX4_copyFrom 2 (none) ∈ lw_gd := gd_of 282 rfl rfl
set_option maxRecDepth 100000 in
theorem wd_283 : Cond.methodLink RX4 43 arraycopyName ∈ lw_gd := gd_of 283 rfl rfl
set_option maxRecDepth 100000 in
theorem wd_284 : Cond.static arraycopyName ∈ lw_gd := gd_of 284 rfl rfl
set_option maxRecDepth 100000 in
theorem wd_285 : Cond.native arraycopyName ∈ lw_gd := gd_of 285 rfl rfl
set_option maxRecDepth 100000 in
theorem wd_286 : Cond.methodLink RX2 52 yX0_copyFrom ∈ lw_gd := gd_of 286 rfl rfl
set_option maxRecDepth 100000 in
theorem wd_287 : Cond.instanceMethod yX0_copyFrom ∈ lw_gd := gd_of 287 rfl rfl
set_option maxRecDepth 100000 in
theorem wd_288 : Cond.selects RX0 yX0_copyFrom yX0_copyFrom ∈ lw_gd := gd_of 288 rfl rfl
set_option maxRecDepth 100000 in
theorem wd_289 : Cond.code yX0_copyFrom cX0_copyFrom 2 (none) ∈ lw_gd := gd_of 289 rfl rfl
set_option maxRecDepth 100000 in
theorem wd_290 : Cond.methodLink RX0 28 arraycopyName ∈ lw_gd := gd_of 290 rfl rfl
set_option maxRecDepth 100000 in
theorem wd_291 : Cond.methodLink RX2 55 arraycopyName ∈ lw_gd := gd_of 291 rfl rfl
set_option maxRecDepth 100000 in
theorem wd_292 : Cond.methodLink RX5 45 yX2_changeSetting ∈ lw_gd := gd_of 292 rfl rfl
set_option maxRecDepth 100000 in
theorem wd_293 : Cond.instanceMethod yX2_changeSetting ∈ lw_gd := gd_of 293 rfl rfl
set_option maxRecDepth 100000 in
theorem wd_294 : Cond.selects RX2 yX2_changeSetting yX2_changeSetting ∈ lw_gd := gd_of 294 rfl rfl
set_option maxRecDepth 100000 in
theorem wd_295 : Cond.code yX2_changeSetting cX2_changeSetting 4 (some .int) ∈ lw_gd := gd_of 295 rfl rfl
set_option maxRecDepth 100000 in
theorem wd_296 : Cond.methodLink RX5 49 yX1_record ∈ lw_gd := gd_of 296 rfl rfl
set_option maxRecDepth 100000 in
theorem wd_297 : Cond.instanceMethod yX1_record ∈ lw_gd := gd_of 297 rfl rfl
set_option maxRecDepth 100000 in
theorem wd_298 : Cond.selects RX1 yX1_record yX1_record ∈ lw_gd := gd_of 298 rfl rfl
set_option maxRecDepth 100000 in
theorem wd_299 : Cond.code yX1_record cX1_record 2 (some .int) ∈ lw_gd := gd_of 299 rfl rfl
set_option maxRecDepth 100000 in
theorem wd_301 : Cond.instanceMethod yX5_task ∈ lw_gd := gd_of 301 rfl rfl
set_option maxRecDepth 100000 in
theorem wd_302 : Cond.selects RX5 yX5_task yX5_task ∈ lw_gd := gd_of 302 rfl rfl
set_option maxRecDepth 100000 in
theorem wd_303 : Cond.code yX5_task cX5_task 6 (some .int) ∈ lw_gd := gd_of 303 rfl rfl
set_option maxRecDepth 100000 in
theorem wd_304 : Cond.methodLink RX5 53 yX2_addTask ∈ lw_gd := gd_of 304 rfl rfl
set_option maxRecDepth 100000 in
theorem wd_305 : Cond.instanceMethod yX2_addTask ∈ lw_gd := gd_of 305 rfl rfl
set_option maxRecDepth 100000 in
theorem wd_306 : Cond.selects RX2 yX2_addTask yX2_addTask ∈ lw_gd := gd_of 306 rfl rfl
set_option maxRecDepth 100000 in
theorem wd_307 : Cond.code yX2_addTask cX2_addTask 7 (some .int) ∈ lw_gd := gd_of 307 rfl rfl
set_option maxRecDepth 100000 in
theorem wd_308 : Cond.methodLink RX2 61 yX4_has ∈ lw_gd := gd_of 308 rfl rfl
set_option maxRecDepth 100000 in
theorem wd_309 : Cond.instanceMethod yX4_has ∈ lw_gd := gd_of 309 rfl rfl
set_option maxRecDepth 100000 in
theorem wd_310 : Cond.selects RX4 yX4_has yX4_has ∈ lw_gd := gd_of 310 rfl rfl
set_option maxRecDepth 100000 in
theorem wd_311 : Cond.code yX4_has cX4_has 2 (some .boolean) ∈ lw_gd := gd_of 311 rfl rfl
set_option maxRecDepth 100000 in
theorem wd_312 : Cond.constant RX2 65 (100000 : Int32) ∈ lw_gd := gd_of 312 rfl rfl
set_option maxRecDepth 100000 in
theorem wd_313 : Cond.methodLink RX2 69 yX4_append ∈ lw_gd := gd_of 313 rfl rfl
set_option maxRecDepth 100000 in
theorem wd_314 : Cond.instanceMethod yX4_append ∈ lw_gd := gd_of 314 rfl rfl
set_option maxRecDepth 100000 in
theorem wd_315 : Cond.selects RX4 yX4_append yX4_append ∈ lw_gd := gd_of 315 rfl rfl
set_option maxRecDepth 100000 in
theorem wd_316 : Cond.code yX4_append cX4_append 5 (none) ∈ lw_gd := gd_of 316 rfl rfl
set_option maxRecDepth 100000 in
theorem wd_317 : Cond.methodLink RX2 73 yX4_schedule ∈ lw_gd := gd_of 317 rfl rfl
set_option maxRecDepth 100000 in
theorem wd_318 : Cond.instanceMethod yX4_schedule ∈ lw_gd := gd_of 318 rfl rfl
set_option maxRecDepth 100000 in
theorem wd_319 : Cond.selects RX4 yX4_schedule yX4_schedule ∈ lw_gd := gd_of 319 rfl rfl
set_option maxRecDepth 100000 in
theorem wd_320 : Cond.code yX4_schedule cX4_schedule 4 (some .boolean) ∈ lw_gd := gd_of 320 rfl rfl
set_option maxRecDepth 100000 in
theorem wd_321 : Cond.methodLink RX4 62 yX4_scheduleRow ∈ lw_gd := gd_of 321 rfl rfl
set_option maxRecDepth 100000 in
theorem wd_323 : Cond.instanceMethod yX4_scheduleRow ∈ lw_gd := gd_of 323 rfl rfl
set_option maxRecDepth 100000 in
theorem wd_324 : Cond.code yX4_scheduleRow cX4_scheduleRow 6 (some .int) ∈ lw_gd := gd_of 324 rfl rfl
set_option maxRecDepth 100000 in
theorem wd_325 : Cond.methodLink RX4 49 yX4_inRow ∈ lw_gd := gd_of 325 rfl rfl
set_option maxRecDepth 100000 in
theorem wd_326 : Cond.instanceMethod yX4_inRow ∈ lw_gd := gd_of 326 rfl rfl
set_option maxRecDepth 100000 in
theorem wd_327 : Cond.selects RX4 yX4_inRow yX4_inRow ∈ lw_gd := gd_of 327 rfl rfl
set_option maxRecDepth 100000 in
theorem wd_328 : Cond.code yX4_inRow cX4_inRow 3 (some .int) ∈ lw_gd := gd_of 328 rfl rfl
set_option maxRecDepth 100000 in
theorem wd_329 : Cond.methodLink RX4 65 yX4_endOf ∈ lw_gd := gd_of 329 rfl rfl
set_option maxRecDepth 100000 in
theorem wd_330 : Cond.instanceMethod yX4_endOf ∈ lw_gd := gd_of 330 rfl rfl
set_option maxRecDepth 100000 in
theorem wd_331 : Cond.selects RX4 yX4_endOf yX4_endOf ∈ lw_gd := gd_of 331 rfl rfl
set_option maxRecDepth 100000 in
theorem wd_332 : Cond.code yX4_endOf cX4_endOf 2 (some .int) ∈ lw_gd := gd_of 332 rfl rfl
set_option maxRecDepth 100000 in
theorem wd_333 : Cond.methodLink RX4 68 yX4_has ∈ lw_gd := gd_of 333 rfl rfl
set_option maxRecDepth 100000 in
theorem wd_334 : Cond.methodLink RX4 57 Lib.Math.max.name ∈ lw_gd := gd_of 334 rfl rfl
set_option maxRecDepth 100000 in
theorem wd_335 : Cond.static Lib.Math.max.name ∈ lw_gd := gd_of 335 rfl rfl
set_option maxRecDepth 100000 in
theorem wd_336 : Cond.code Lib.Math.max.name Lib.Math.max.code 2 (some .int) ∈ lw_gd := gd_of 336 rfl rfl
set_option maxRecDepth 100000 in
theorem wd_338 : Cond.instanceMethod yX5_duration ∈ lw_gd := gd_of 338 rfl rfl
set_option maxRecDepth 100000 in
theorem wd_339 : Cond.selects RX5 yX5_duration yX5_duration ∈ lw_gd := gd_of 339 rfl rfl
set_option maxRecDepth 100000 in
theorem wd_340 : Cond.code yX5_duration cX5_duration 3 (some .int) ∈ lw_gd := gd_of 340 rfl rfl
set_option maxRecDepth 100000 in
theorem wd_341 : Cond.methodLink RX5 57 yX2_changeDuration ∈ lw_gd := gd_of 341 rfl rfl
set_option maxRecDepth 100000 in
theorem wd_342 : Cond.instanceMethod yX2_changeDuration ∈ lw_gd := gd_of 342 rfl rfl
set_option maxRecDepth 100000 in
theorem wd_343 : Cond.selects RX2 yX2_changeDuration yX2_changeDuration ∈ lw_gd := gd_of 343 rfl rfl
set_option maxRecDepth 100000 in
theorem wd_344 : Cond.code yX2_changeDuration cX2_changeDuration 4 (some .int) ∈ lw_gd := gd_of 344 rfl rfl
set_option maxRecDepth 100000 in
theorem wd_346 : Cond.instanceMethod yX5_move ∈ lw_gd := gd_of 346 rfl rfl
set_option maxRecDepth 100000 in
theorem wd_347 : Cond.selects RX5 yX5_move yX5_move ∈ lw_gd := gd_of 347 rfl rfl
set_option maxRecDepth 100000 in
theorem wd_348 : Cond.code yX5_move cX5_move 3 (some .int) ∈ lw_gd := gd_of 348 rfl rfl
set_option maxRecDepth 100000 in
theorem wd_349 : Cond.methodLink RX5 60 yX2_moveTask ∈ lw_gd := gd_of 349 rfl rfl
set_option maxRecDepth 100000 in
theorem wd_350 : Cond.instanceMethod yX2_moveTask ∈ lw_gd := gd_of 350 rfl rfl
set_option maxRecDepth 100000 in
theorem wd_351 : Cond.selects RX2 yX2_moveTask yX2_moveTask ∈ lw_gd := gd_of 351 rfl rfl
set_option maxRecDepth 100000 in
theorem wd_352 : Cond.code yX2_moveTask cX2_moveTask 4 (some .int) ∈ lw_gd := gd_of 352 rfl rfl
set_option maxRecDepth 100000 in
theorem wd_353 : Cond.methodLink RX2 86 yX4_placeOf ∈ lw_gd := gd_of 353 rfl rfl
set_option maxRecDepth 100000 in
theorem wd_354 : Cond.instanceMethod yX4_placeOf ∈ lw_gd := gd_of 354 rfl rfl
set_option maxRecDepth 100000 in
theorem wd_355 : Cond.selects RX4 yX4_placeOf yX4_placeOf ∈ lw_gd := gd_of 355 rfl rfl
set_option maxRecDepth 100000 in
theorem wd_356 : Cond.code yX4_placeOf cX4_placeOf 4 (some .int) ∈ lw_gd := gd_of 356 rfl rfl
set_option maxRecDepth 100000 in
theorem wd_357 : Cond.methodLink RX2 90 yX4_shift ∈ lw_gd := gd_of 357 rfl rfl
set_option maxRecDepth 100000 in
theorem wd_358 : Cond.instanceMethod yX4_shift ∈ lw_gd := gd_of 358 rfl rfl
set_option maxRecDepth 100000 in
theorem wd_359 : Cond.selects RX4 yX4_shift yX4_shift ∈ lw_gd := gd_of 359 rfl rfl
set_option maxRecDepth 100000 in
theorem wd_360 : Cond.code yX4_shift cX4_shift 6 (none) ∈ lw_gd := gd_of 360 rfl rfl
set_option maxRecDepth 100000 in
theorem wd_361 : Cond.methodLink RX4 53 yX4_placeOf ∈ lw_gd := gd_of 361 rfl rfl
set_option maxRecDepth 100000 in
theorem wd_363 : Cond.instanceMethod yX5_offer ∈ lw_gd := gd_of 363 rfl rfl
set_option maxRecDepth 100000 in
theorem wd_364 : Cond.selects RX5 yX5_offer yX5_offer ∈ lw_gd := gd_of 364 rfl rfl
set_option maxRecDepth 100000 in
theorem wd_365 : Cond.code yX5_offer cX5_offer 4 (some .int) ∈ lw_gd := gd_of 365 rfl rfl
set_option maxRecDepth 100000 in
theorem wd_366 : Cond.methodLink RX5 63 yX2_makeOffer ∈ lw_gd := gd_of 366 rfl rfl
set_option maxRecDepth 100000 in
theorem wd_367 : Cond.instanceMethod yX2_makeOffer ∈ lw_gd := gd_of 367 rfl rfl
set_option maxRecDepth 100000 in
theorem wd_368 : Cond.selects RX2 yX2_makeOffer yX2_makeOffer ∈ lw_gd := gd_of 368 rfl rfl
set_option maxRecDepth 100000 in
theorem wd_369 : Cond.code yX2_makeOffer cX2_makeOffer 5 (some .int) ∈ lw_gd := gd_of 369 rfl rfl
set_option maxRecDepth 100000 in
theorem wd_370 : Cond.methodLink RX2 94 yX2_setOffer ∈ lw_gd := gd_of 370 rfl rfl
set_option maxRecDepth 100000 in
theorem wd_372 : Cond.instanceMethod yX2_setOffer ∈ lw_gd := gd_of 372 rfl rfl
set_option maxRecDepth 100000 in
theorem wd_373 : Cond.code yX2_setOffer cX2_setOffer 4 (none) ∈ lw_gd := gd_of 373 rfl rfl
set_option maxRecDepth 100000 in
theorem wd_375 : Cond.instanceMethod yX5_trade ∈ lw_gd := gd_of 375 rfl rfl
set_option maxRecDepth 100000 in
theorem wd_376 : Cond.selects RX5 yX5_trade yX5_trade ∈ lw_gd := gd_of 376 rfl rfl
set_option maxRecDepth 100000 in
theorem wd_377 : Cond.code yX5_trade cX5_trade 1 (some .int) ∈ lw_gd := gd_of 377 rfl rfl
set_option maxRecDepth 100000 in
theorem wd_378 : Cond.methodLink RX5 67 yX2_tradeAll ∈ lw_gd := gd_of 378 rfl rfl
set_option maxRecDepth 100000 in
theorem wd_379 : Cond.instanceMethod yX2_tradeAll ∈ lw_gd := gd_of 379 rfl rfl
set_option maxRecDepth 100000 in
theorem wd_380 : Cond.selects RX2 yX2_tradeAll yX2_tradeAll ∈ lw_gd := gd_of 380 rfl rfl
set_option maxRecDepth 100000 in
theorem wd_381 : Cond.code yX2_tradeAll cX2_tradeAll 5 (some .int) ∈ lw_gd := gd_of 381 rfl rfl
set_option maxRecDepth 100000 in
theorem wd_382 : Cond.methodLink RX2 118 yX2_latestExcept ∈ lw_gd := gd_of 382 rfl rfl
set_option maxRecDepth 100000 in
theorem wd_384 : Cond.instanceMethod yX2_latestExcept ∈ lw_gd := gd_of 384 rfl rfl
set_option maxRecDepth 100000 in
theorem wd_385 : Cond.code yX2_latestExcept cX2_latestExcept 4 (some .int) ∈ lw_gd := gd_of 385 rfl rfl
set_option maxRecDepth 100000 in
theorem wd_386 : Cond.methodLink RX2 125 yX2_lateOf ∈ lw_gd := gd_of 386 rfl rfl
set_option maxRecDepth 100000 in
theorem wd_387 : Cond.instanceMethod yX2_lateOf ∈ lw_gd := gd_of 387 rfl rfl
set_option maxRecDepth 100000 in
theorem wd_388 : Cond.selects RX2 yX2_lateOf yX2_lateOf ∈ lw_gd := gd_of 388 rfl rfl
set_option maxRecDepth 100000 in
theorem wd_389 : Cond.code yX2_lateOf cX2_lateOf 2 (some .int) ∈ lw_gd := gd_of 389 rfl rfl
set_option maxRecDepth 100000 in
theorem wd_390 : Cond.methodLink RX2 158 Lib.Math.max.name ∈ lw_gd := gd_of 390 rfl rfl
set_option maxRecDepth 100000 in
theorem wd_391 : Cond.methodLink RX2 121 yX2_buyFor ∈ lw_gd := gd_of 391 rfl rfl
set_option maxRecDepth 100000 in
theorem wd_392 : Cond.instanceMethod yX2_buyFor ∈ lw_gd := gd_of 392 rfl rfl
set_option maxRecDepth 100000 in
theorem wd_393 : Cond.selects RX2 yX2_buyFor yX2_buyFor ∈ lw_gd := gd_of 393 rfl rfl
set_option maxRecDepth 100000 in
theorem wd_394 : Cond.code yX2_buyFor cX2_buyFor 5 (none) ∈ lw_gd := gd_of 394 rfl rfl
set_option maxRecDepth 100000 in
theorem wd_395 : Cond.methodLink RX2 128 yX4_measureFrom ∈ lw_gd := gd_of 395 rfl rfl
set_option maxRecDepth 100000 in
theorem wd_396 : Cond.instanceMethod yX4_measureFrom ∈ lw_gd := gd_of 396 rfl rfl
set_option maxRecDepth 100000 in
theorem wd_397 : Cond.selects RX4 yX4_measureFrom yX4_measureFrom ∈ lw_gd := gd_of 397 rfl rfl
set_option maxRecDepth 100000 in
theorem wd_398 : Cond.code yX4_measureFrom cX4_measureFrom 4 (none) ∈ lw_gd := gd_of 398 rfl rfl
set_option maxRecDepth 100000 in
theorem wd_399 : Cond.methodLink RX4 85 yX4_linkFrom ∈ lw_gd := gd_of 399 rfl rfl
set_option maxRecDepth 100000 in
theorem wd_401 : Cond.instanceMethod yX4_linkFrom ∈ lw_gd := gd_of 401 rfl rfl
set_option maxRecDepth 100000 in
theorem wd_402 : Cond.code yX4_linkFrom cX4_linkFrom 4 (none) ∈ lw_gd := gd_of 402 rfl rfl
set_option maxRecDepth 100000 in
theorem wd_403 : Cond.methodLink RX2 131 yX2_bestSellerExcept ∈ lw_gd := gd_of 403 rfl rfl
set_option maxRecDepth 100000 in
theorem wd_405 : Cond.instanceMethod yX2_bestSellerExcept ∈ lw_gd := gd_of 405 rfl rfl
set_option maxRecDepth 100000 in
theorem wd_406 : Cond.code yX2_bestSellerExcept cX2_bestSellerExcept 4 (some .int) ∈ lw_gd := gd_of 406 rfl rfl
set_option maxRecDepth 100000 in
theorem wd_407 : Cond.methodLink RX2 137 yX2_isInReach ∈ lw_gd := gd_of 407 rfl rfl
set_option maxRecDepth 100000 in
theorem wd_409 : Cond.instanceMethod yX2_isInReach ∈ lw_gd := gd_of 409 rfl rfl
set_option maxRecDepth 100000 in
theorem wd_410 : Cond.code yX2_isInReach cX2_isInReach 3 (some .boolean) ∈ lw_gd := gd_of 410 rfl rfl
set_option maxRecDepth 100000 in
theorem wd_411 : Cond.methodLink RX2 140 yX2_isBetterSeller ∈ lw_gd := gd_of 411 rfl rfl
set_option maxRecDepth 100000 in
theorem wd_413 : Cond.instanceMethod yX2_isBetterSeller ∈ lw_gd := gd_of 413 rfl rfl
set_option maxRecDepth 100000 in
theorem wd_414 : Cond.code yX2_isBetterSeller cX2_isBetterSeller 3 (some .boolean) ∈ lw_gd := gd_of 414 rfl rfl
set_option maxRecDepth 100000 in
theorem wd_415 : Cond.methodLink RX2 134 yX2_buyFrom ∈ lw_gd := gd_of 415 rfl rfl
set_option maxRecDepth 100000 in
theorem wd_417 : Cond.instanceMethod yX2_buyFrom ∈ lw_gd := gd_of 417 rfl rfl
set_option maxRecDepth 100000 in
theorem wd_418 : Cond.code yX2_buyFrom cX2_buyFrom 5 (none) ∈ lw_gd := gd_of 418 rfl rfl
set_option maxRecDepth 100000 in
theorem wd_419 : Cond.methodLink RX2 147 yX2_spareOf ∈ lw_gd := gd_of 419 rfl rfl
set_option maxRecDepth 100000 in
theorem wd_420 : Cond.instanceMethod yX2_spareOf ∈ lw_gd := gd_of 420 rfl rfl
set_option maxRecDepth 100000 in
theorem wd_421 : Cond.selects RX2 yX2_spareOf yX2_spareOf ∈ lw_gd := gd_of 421 rfl rfl
set_option maxRecDepth 100000 in
theorem wd_422 : Cond.code yX2_spareOf cX2_spareOf 2 (some .int) ∈ lw_gd := gd_of 422 rfl rfl
set_option maxRecDepth 100000 in
theorem wd_423 : Cond.methodLink RX2 150 Lib.Math.min.name ∈ lw_gd := gd_of 423 rfl rfl
set_option maxRecDepth 100000 in
theorem wd_424 : Cond.static Lib.Math.min.name ∈ lw_gd := gd_of 424 rfl rfl
set_option maxRecDepth 100000 in
theorem wd_425 : Cond.code Lib.Math.min.name Lib.Math.min.code 2 (some .int) ∈ lw_gd := gd_of 425 rfl rfl
set_option maxRecDepth 100000 in
theorem wd_426 : Cond.methodLink RX2 155 yX0_append ∈ lw_gd := gd_of 426 rfl rfl
set_option maxRecDepth 100000 in
theorem wd_427 : Cond.instanceMethod yX0_append ∈ lw_gd := gd_of 427 rfl rfl
set_option maxRecDepth 100000 in
theorem wd_428 : Cond.selects RX0 yX0_append yX0_append ∈ lw_gd := gd_of 428 rfl rfl
set_option maxRecDepth 100000 in
theorem wd_429 : Cond.code yX0_append cX0_append 5 (some .boolean) ∈ lw_gd := gd_of 429 rfl rfl
set_option maxRecDepth 100000 in
theorem wd_431 : Cond.instanceMethod yX5_refund ∈ lw_gd := gd_of 431 rfl rfl
set_option maxRecDepth 100000 in
theorem wd_432 : Cond.selects RX5 yX5_refund yX5_refund ∈ lw_gd := gd_of 432 rfl rfl
set_option maxRecDepth 100000 in
theorem wd_433 : Cond.code yX5_refund cX5_refund 3 (some .int) ∈ lw_gd := gd_of 433 rfl rfl
set_option maxRecDepth 100000 in
theorem wd_434 : Cond.methodLink RX5 71 yX2_giveBack ∈ lw_gd := gd_of 434 rfl rfl
set_option maxRecDepth 100000 in
theorem wd_435 : Cond.instanceMethod yX2_giveBack ∈ lw_gd := gd_of 435 rfl rfl
set_option maxRecDepth 100000 in
theorem wd_436 : Cond.selects RX2 yX2_giveBack yX2_giveBack ∈ lw_gd := gd_of 436 rfl rfl
set_option maxRecDepth 100000 in
theorem wd_437 : Cond.code yX2_giveBack cX2_giveBack 6 (some .int) ∈ lw_gd := gd_of 437 rfl rfl
set_option maxRecDepth 100000 in
theorem wd_438 : Cond.methodLink RX2 97 yX0_has ∈ lw_gd := gd_of 438 rfl rfl
set_option maxRecDepth 100000 in
theorem wd_439 : Cond.instanceMethod yX0_has ∈ lw_gd := gd_of 439 rfl rfl
set_option maxRecDepth 100000 in
theorem wd_440 : Cond.selects RX0 yX0_has yX0_has ∈ lw_gd := gd_of 440 rfl rfl
set_option maxRecDepth 100000 in
theorem wd_441 : Cond.code yX0_has cX0_has 2 (some .boolean) ∈ lw_gd := gd_of 441 rfl rfl
set_option maxRecDepth 100000 in
theorem wd_442 : Cond.methodLink RX2 111 yX0_lessen ∈ lw_gd := gd_of 442 rfl rfl
set_option maxRecDepth 100000 in
theorem wd_443 : Cond.instanceMethod yX0_lessen ∈ lw_gd := gd_of 443 rfl rfl
set_option maxRecDepth 100000 in
theorem wd_444 : Cond.selects RX0 yX0_lessen yX0_lessen ∈ lw_gd := gd_of 444 rfl rfl
set_option maxRecDepth 100000 in
theorem wd_445 : Cond.code yX0_lessen cX0_lessen 4 (some .int) ∈ lw_gd := gd_of 445 rfl rfl
set_option maxRecDepth 100000 in
theorem wd_446 : Cond.methodLink RX0 38 yX0_remove ∈ lw_gd := gd_of 446 rfl rfl
set_option maxRecDepth 100000 in
theorem wd_448 : Cond.instanceMethod yX0_remove ∈ lw_gd := gd_of 448 rfl rfl
set_option maxRecDepth 100000 in
theorem wd_449 : Cond.code yX0_remove cX0_remove 3 (none) ∈ lw_gd := gd_of 449 rfl rfl
set_option maxRecDepth 100000 in
theorem wd_451 : Cond.instanceMethod yX5_give ∈ lw_gd := gd_of 451 rfl rfl
set_option maxRecDepth 100000 in
theorem wd_452 : Cond.selects RX5 yX5_give yX5_give ∈ lw_gd := gd_of 452 rfl rfl
set_option maxRecDepth 100000 in
theorem wd_453 : Cond.code yX5_give cX5_give 4 (some .int) ∈ lw_gd := gd_of 453 rfl rfl
set_option maxRecDepth 100000 in
theorem wd_454 : Cond.methodLink RX5 74 yX2_giveMoney ∈ lw_gd := gd_of 454 rfl rfl
set_option maxRecDepth 100000 in
theorem wd_455 : Cond.instanceMethod yX2_giveMoney ∈ lw_gd := gd_of 455 rfl rfl
set_option maxRecDepth 100000 in
theorem wd_456 : Cond.selects RX2 yX2_giveMoney yX2_giveMoney ∈ lw_gd := gd_of 456 rfl rfl
set_option maxRecDepth 100000 in
theorem wd_457 : Cond.code yX2_giveMoney cX2_giveMoney 4 (some .int) ∈ lw_gd := gd_of 457 rfl rfl
set_option maxRecDepth 100000 in
theorem wd_459 : Cond.instanceMethod yX5_ofTask ∈ lw_gd := gd_of 459 rfl rfl
set_option maxRecDepth 100000 in
theorem wd_460 : Cond.selects RX5 yX5_ofTask yX5_ofTask ∈ lw_gd := gd_of 460 rfl rfl
set_option maxRecDepth 100000 in
theorem wd_461 : Cond.code yX5_ofTask cX5_ofTask 3 (some .int) ∈ lw_gd := gd_of 461 rfl rfl
set_option maxRecDepth 100000 in
theorem wd_462 : Cond.methodLink RX5 77 yX2_tellOfTask ∈ lw_gd := gd_of 462 rfl rfl
set_option maxRecDepth 100000 in
theorem wd_463 : Cond.instanceMethod yX2_tellOfTask ∈ lw_gd := gd_of 463 rfl rfl
set_option maxRecDepth 100000 in
theorem wd_464 : Cond.selects RX2 yX2_tellOfTask yX2_tellOfTask ∈ lw_gd := gd_of 464 rfl rfl
set_option maxRecDepth 100000 in
theorem wd_465 : Cond.code yX2_tellOfTask cX2_tellOfTask 3 (some .int) ∈ lw_gd := gd_of 465 rfl rfl
set_option maxRecDepth 100000 in
theorem wd_466 : Cond.methodLink RX2 177 yX4_startOf ∈ lw_gd := gd_of 466 rfl rfl
set_option maxRecDepth 100000 in
theorem wd_467 : Cond.instanceMethod yX4_startOf ∈ lw_gd := gd_of 467 rfl rfl
set_option maxRecDepth 100000 in
theorem wd_468 : Cond.selects RX4 yX4_startOf yX4_startOf ∈ lw_gd := gd_of 468 rfl rfl
set_option maxRecDepth 100000 in
theorem wd_469 : Cond.code yX4_startOf cX4_startOf 2 (some .int) ∈ lw_gd := gd_of 469 rfl rfl
set_option maxRecDepth 100000 in
theorem wd_470 : Cond.methodLink RX2 180 yX4_endOf ∈ lw_gd := gd_of 470 rfl rfl
set_option maxRecDepth 100000 in
theorem wd_471 : Cond.methodLink RX2 183 yX2_slackOf ∈ lw_gd := gd_of 471 rfl rfl
set_option maxRecDepth 100000 in
theorem wd_473 : Cond.instanceMethod yX2_slackOf ∈ lw_gd := gd_of 473 rfl rfl
set_option maxRecDepth 100000 in
theorem wd_474 : Cond.code yX2_slackOf cX2_slackOf 5 (some .int) ∈ lw_gd := gd_of 474 rfl rfl
set_option maxRecDepth 100000 in
theorem wd_475 : Cond.methodLink RX2 161 yX2_lateTogether ∈ lw_gd := gd_of 475 rfl rfl
set_option maxRecDepth 100000 in
theorem wd_476 : Cond.instanceMethod yX2_lateTogether ∈ lw_gd := gd_of 476 rfl rfl
set_option maxRecDepth 100000 in
theorem wd_477 : Cond.selects RX2 yX2_lateTogether yX2_lateTogether ∈ lw_gd := gd_of 477 rfl rfl
set_option maxRecDepth 100000 in
theorem wd_478 : Cond.code yX2_lateTogether cX2_lateTogether 3 (some .int) ∈ lw_gd := gd_of 478 rfl rfl
set_option maxRecDepth 100000 in
theorem wd_479 : Cond.methodLink RX2 168 yX4_inFrontOf ∈ lw_gd := gd_of 479 rfl rfl
set_option maxRecDepth 100000 in
theorem wd_480 : Cond.instanceMethod yX4_inFrontOf ∈ lw_gd := gd_of 480 rfl rfl
set_option maxRecDepth 100000 in
theorem wd_481 : Cond.selects RX4 yX4_inFrontOf yX4_inFrontOf ∈ lw_gd := gd_of 481 rfl rfl
set_option maxRecDepth 100000 in
theorem wd_482 : Cond.code yX4_inFrontOf cX4_inFrontOf 2 (some .int) ∈ lw_gd := gd_of 482 rfl rfl
set_option maxRecDepth 100000 in
theorem wd_483 : Cond.methodLink RX2 171 yX2_lowerLatestEnd ∈ lw_gd := gd_of 483 rfl rfl
set_option maxRecDepth 100000 in
theorem wd_485 : Cond.instanceMethod yX2_lowerLatestEnd ∈ lw_gd := gd_of 485 rfl rfl
set_option maxRecDepth 100000 in
theorem wd_486 : Cond.code yX2_lowerLatestEnd cX2_lowerLatestEnd 3 (none) ∈ lw_gd := gd_of 486 rfl rfl
set_option maxRecDepth 100000 in
theorem wd_487 : Cond.methodLink RX2 186 yX0_soldBy ∈ lw_gd := gd_of 487 rfl rfl
set_option maxRecDepth 100000 in
theorem wd_488 : Cond.instanceMethod yX0_soldBy ∈ lw_gd := gd_of 488 rfl rfl
set_option maxRecDepth 100000 in
theorem wd_489 : Cond.selects RX0 yX0_soldBy yX0_soldBy ∈ lw_gd := gd_of 489 rfl rfl
set_option maxRecDepth 100000 in
theorem wd_490 : Cond.code yX0_soldBy cX0_soldBy 4 (some .int) ∈ lw_gd := gd_of 490 rfl rfl
set_option maxRecDepth 100000 in
theorem wd_491 : Cond.methodLink RX2 189 yX0_boughtBy ∈ lw_gd := gd_of 491 rfl rfl
set_option maxRecDepth 100000 in
theorem wd_492 : Cond.instanceMethod yX0_boughtBy ∈ lw_gd := gd_of 492 rfl rfl
set_option maxRecDepth 100000 in
theorem wd_493 : Cond.selects RX0 yX0_boughtBy yX0_boughtBy ∈ lw_gd := gd_of 493 rfl rfl
set_option maxRecDepth 100000 in
theorem wd_494 : Cond.code yX0_boughtBy cX0_boughtBy 4 (some .int) ∈ lw_gd := gd_of 494 rfl rfl
set_option maxRecDepth 100000 in
theorem wd_495 : Cond.methodLink RX2 192 yX4_followersOf ∈ lw_gd := gd_of 495 rfl rfl
set_option maxRecDepth 100000 in
theorem wd_496 : Cond.instanceMethod yX4_followersOf ∈ lw_gd := gd_of 496 rfl rfl
set_option maxRecDepth 100000 in
theorem wd_497 : Cond.selects RX4 yX4_followersOf yX4_followersOf ∈ lw_gd := gd_of 497 rfl rfl
set_option maxRecDepth 100000 in
theorem wd_498 : Cond.code yX4_followersOf cX4_followersOf 5 (some .int) ∈ lw_gd := gd_of 498 rfl rfl
set_option maxRecDepth 100000 in
theorem wd_500 : Cond.instanceMethod yX5_due ∈ lw_gd := gd_of 500 rfl rfl
set_option maxRecDepth 100000 in
theorem wd_501 : Cond.selects RX5 yX5_due yX5_due ∈ lw_gd := gd_of 501 rfl rfl
set_option maxRecDepth 100000 in
theorem wd_502 : Cond.code yX5_due cX5_due 2 (some .long) ∈ lw_gd := gd_of 502 rfl rfl
set_option maxRecDepth 100000 in
theorem wd_503 : Cond.methodLink RX5 84 yX4_has ∈ lw_gd := gd_of 503 rfl rfl
set_option maxRecDepth 100000 in
theorem wd_504 : Cond.constantLong RX5 94 (-1 : Int64) ∈ lw_gd := gd_of 504 rfl rfl
set_option maxRecDepth 100000 in
theorem wd_506 : Cond.instanceMethod yX5_money ∈ lw_gd := gd_of 506 rfl rfl
set_option maxRecDepth 100000 in
theorem wd_507 : Cond.selects RX5 yX5_money yX5_money ∈ lw_gd := gd_of 507 rfl rfl
set_option maxRecDepth 100000 in
theorem wd_508 : Cond.code yX5_money cX5_money 2 (some .int) ∈ lw_gd := gd_of 508 rfl rfl
set_option maxRecDepth 100000 in
theorem wd_510 : Cond.instanceMethod yX5_at ∈ lw_gd := gd_of 510 rfl rfl
set_option maxRecDepth 100000 in
theorem wd_511 : Cond.selects RX5 yX5_at yX5_at ∈ lw_gd := gd_of 511 rfl rfl
set_option maxRecDepth 100000 in
theorem wd_512 : Cond.code yX5_at cX5_at 3 (some .int) ∈ lw_gd := gd_of 512 rfl rfl
set_option maxRecDepth 100000 in
theorem wd_513 : Cond.methodLink RX5 99 yX4_inRow ∈ lw_gd := gd_of 513 rfl rfl
set_option maxRecDepth 100000 in
theorem wd_515 : Cond.instanceMethod yX5_ofContract ∈ lw_gd := gd_of 515 rfl rfl
set_option maxRecDepth 100000 in
theorem wd_516 : Cond.selects RX5 yX5_ofContract yX5_ofContract ∈ lw_gd := gd_of 516 rfl rfl
set_option maxRecDepth 100000 in
theorem wd_517 : Cond.code yX5_ofContract cX5_ofContract 3 (some .int) ∈ lw_gd := gd_of 517 rfl rfl
set_option maxRecDepth 100000 in
theorem wd_518 : Cond.methodLink RX5 106 yX0_tell ∈ lw_gd := gd_of 518 rfl rfl
set_option maxRecDepth 100000 in
theorem wd_519 : Cond.instanceMethod yX0_tell ∈ lw_gd := gd_of 519 rfl rfl
set_option maxRecDepth 100000 in
theorem wd_520 : Cond.selects RX0 yX0_tell yX0_tell ∈ lw_gd := gd_of 520 rfl rfl
set_option maxRecDepth 100000 in
theorem wd_521 : Cond.code yX0_tell cX0_tell 3 (some .int) ∈ lw_gd := gd_of 521 rfl rfl
set_option maxRecDepth 100000 in
theorem wd_522 : Cond.methodLink RX0 34 yX0_has ∈ lw_gd := gd_of 522 rfl rfl
set_option maxRecDepth 100000 in
theorem wd_524 : Cond.instanceMethod yX5_count ∈ lw_gd := gd_of 524 rfl rfl
set_option maxRecDepth 100000 in
theorem wd_525 : Cond.selects RX5 yX5_count yX5_count ∈ lw_gd := gd_of 525 rfl rfl
set_option maxRecDepth 100000 in
theorem wd_526 : Cond.code yX5_count cX5_count 2 (some .int) ∈ lw_gd := gd_of 526 rfl rfl
set_option maxRecDepth 100000 in
theorem wd_527 : Cond.methodLink RX5 118 yX2_tellOfAll ∈ lw_gd := gd_of 527 rfl rfl
set_option maxRecDepth 100000 in
theorem wd_528 : Cond.instanceMethod yX2_tellOfAll ∈ lw_gd := gd_of 528 rfl rfl
set_option maxRecDepth 100000 in
theorem wd_529 : Cond.selects RX2 yX2_tellOfAll yX2_tellOfAll ∈ lw_gd := gd_of 529 rfl rfl
set_option maxRecDepth 100000 in
theorem wd_530 : Cond.code yX2_tellOfAll cX2_tellOfAll 2 (some .int) ∈ lw_gd := gd_of 530 rfl rfl
set_option maxRecDepth 100000 in
theorem wd_531 : Cond.methodLink RX2 195 yX2_offers ∈ lw_gd := gd_of 531 rfl rfl
set_option maxRecDepth 100000 in
theorem wd_533 : Cond.instanceMethod yX2_offers ∈ lw_gd := gd_of 533 rfl rfl
set_option maxRecDepth 100000 in
theorem wd_534 : Cond.code yX2_offers cX2_offers 3 (some .int) ∈ lw_gd := gd_of 534 rfl rfl
set_option maxRecDepth 100000 in
theorem wd_535 : Cond.methodLink RX2 198 yX2_lateTasks ∈ lw_gd := gd_of 535 rfl rfl
set_option maxRecDepth 100000 in
theorem wd_537 : Cond.instanceMethod yX2_lateTasks ∈ lw_gd := gd_of 537 rfl rfl
set_option maxRecDepth 100000 in
theorem wd_538 : Cond.code yX2_lateTasks cX2_lateTasks 3 (some .int) ∈ lw_gd := gd_of 538 rfl rfl
set_option maxRecDepth 100000 in
theorem wd_539 : Cond.methodLink RX2 201 yX4_endOfAll ∈ lw_gd := gd_of 539 rfl rfl
set_option maxRecDepth 100000 in
theorem wd_540 : Cond.instanceMethod yX4_endOfAll ∈ lw_gd := gd_of 540 rfl rfl
set_option maxRecDepth 100000 in
theorem wd_541 : Cond.selects RX4 yX4_endOfAll yX4_endOfAll ∈ lw_gd := gd_of 541 rfl rfl
set_option maxRecDepth 100000 in
theorem wd_542 : Cond.code yX4_endOfAll cX4_endOfAll 3 (some .int) ∈ lw_gd := gd_of 542 rfl rfl
set_option maxRecDepth 100000 in
theorem wd_543 : Cond.methodLink RX2 204 yX2_allMoney ∈ lw_gd := gd_of 543 rfl rfl
set_option maxRecDepth 100000 in
theorem wd_545 : Cond.instanceMethod yX2_allMoney ∈ lw_gd := gd_of 545 rfl rfl
set_option maxRecDepth 100000 in
theorem wd_546 : Cond.code yX2_allMoney cX2_allMoney 3 (some .int) ∈ lw_gd := gd_of 546 rfl rfl
set_option maxRecDepth 100000 in
theorem wd_547 : Cond.methodLink RX2 207 yX0_allHours ∈ lw_gd := gd_of 547 rfl rfl
set_option maxRecDepth 100000 in
theorem wd_548 : Cond.instanceMethod yX0_allHours ∈ lw_gd := gd_of 548 rfl rfl
set_option maxRecDepth 100000 in
theorem wd_549 : Cond.selects RX0 yX0_allHours yX0_allHours ∈ lw_gd := gd_of 549 rfl rfl
set_option maxRecDepth 100000 in
theorem wd_550 : Cond.code yX0_allHours cX0_allHours 3 (some .int) ∈ lw_gd := gd_of 550 rfl rfl
set_option maxRecDepth 100000 in
theorem wd_552 : Cond.instanceMethod yX5_distance ∈ lw_gd := gd_of 552 rfl rfl
set_option maxRecDepth 100000 in
theorem wd_553 : Cond.selects RX5 yX5_distance yX5_distance ∈ lw_gd := gd_of 553 rfl rfl
set_option maxRecDepth 100000 in
theorem wd_554 : Cond.code yX5_distance cX5_distance 3 (some .int) ∈ lw_gd := gd_of 554 rfl rfl
set_option maxRecDepth 100000 in
theorem wd_555 : Cond.methodLink RX5 121 yX4_measureFrom ∈ lw_gd := gd_of 555 rfl rfl
set_option maxRecDepth 100000 in
theorem wd_557 : Cond.instanceMethod yX5_wouldBuy ∈ lw_gd := gd_of 557 rfl rfl
set_option maxRecDepth 100000 in
theorem wd_558 : Cond.selects RX5 yX5_wouldBuy yX5_wouldBuy ∈ lw_gd := gd_of 558 rfl rfl
set_option maxRecDepth 100000 in
theorem wd_559 : Cond.code yX5_wouldBuy cX5_wouldBuy 3 (some .int) ∈ lw_gd := gd_of 559 rfl rfl
set_option maxRecDepth 100000 in
theorem wd_560 : Cond.methodLink RX5 128 yX2_copyFrom ∈ lw_gd := gd_of 560 rfl rfl
set_option maxRecDepth 100000 in
theorem wd_561 : Cond.methodLink RX5 131 yX2_buyFor ∈ lw_gd := gd_of 561 rfl rfl
set_option maxRecDepth 100000 in
theorem wd_562 : Cond.methodLink RX5 134 yX2_lateOf ∈ lw_gd := gd_of 562 rfl rfl
set_option maxRecDepth 100000 in
theorem wd_563 : Cond.methodLink RX5 140 yX0_sellersSince ∈ lw_gd := gd_of 563 rfl rfl
set_option maxRecDepth 100000 in
theorem wd_564 : Cond.instanceMethod yX0_sellersSince ∈ lw_gd := gd_of 564 rfl rfl
set_option maxRecDepth 100000 in
theorem wd_565 : Cond.selects RX0 yX0_sellersSince yX0_sellersSince ∈ lw_gd := gd_of 565 rfl rfl
set_option maxRecDepth 100000 in
theorem wd_566 : Cond.code yX0_sellersSince cX0_sellersSince 4 (some .int) ∈ lw_gd := gd_of 566 rfl rfl
set_option maxRecDepth 100000 in
theorem wd_567 : Cond.methodLink RX0 42 Lib.Math.max.name ∈ lw_gd := gd_of 567 rfl rfl
set_option maxRecDepth 100000 in
theorem wd_569 : Cond.instanceMethod yX5_leastMoney ∈ lw_gd := gd_of 569 rfl rfl
set_option maxRecDepth 100000 in
theorem wd_570 : Cond.selects RX5 yX5_leastMoney yX5_leastMoney ∈ lw_gd := gd_of 570 rfl rfl
set_option maxRecDepth 100000 in
theorem wd_571 : Cond.code yX5_leastMoney cX5_leastMoney 2 (some .int) ∈ lw_gd := gd_of 571 rfl rfl
set_option maxRecDepth 100000 in
theorem wd_572 : Cond.constant RX5 143 (100000000 : Int32) ∈ lw_gd := gd_of 572 rfl rfl
set_option maxRecDepth 100000 in
theorem wd_574 : Cond.instanceMethod yX5_endIf ∈ lw_gd := gd_of 574 rfl rfl
set_option maxRecDepth 100000 in
theorem wd_575 : Cond.selects RX5 yX5_endIf yX5_endIf ∈ lw_gd := gd_of 575 rfl rfl
set_option maxRecDepth 100000 in
theorem wd_576 : Cond.code yX5_endIf cX5_endIf 5 (some .int) ∈ lw_gd := gd_of 576 rfl rfl
set_option maxRecDepth 100000 in
theorem wd_577 : Cond.methodLink RX5 144 yX4_endOf ∈ lw_gd := gd_of 577 rfl rfl
set_option maxRecDepth 100000 in
theorem wd_579 : Cond.instanceMethod yX5_bestPlace ∈ lw_gd := gd_of 579 rfl rfl
set_option maxRecDepth 100000 in
theorem wd_580 : Cond.selects RX5 yX5_bestPlace yX5_bestPlace ∈ lw_gd := gd_of 580 rfl rfl
set_option maxRecDepth 100000 in
theorem wd_581 : Cond.code yX5_bestPlace cX5_bestPlace 2 (some .int) ∈ lw_gd := gd_of 581 rfl rfl
set_option maxRecDepth 100000 in
theorem wd_582 : Cond.methodLink RX5 147 yX2_findBestPlace ∈ lw_gd := gd_of 582 rfl rfl
set_option maxRecDepth 100000 in
theorem wd_583 : Cond.instanceMethod yX2_findBestPlace ∈ lw_gd := gd_of 583 rfl rfl
set_option maxRecDepth 100000 in
theorem wd_584 : Cond.selects RX2 yX2_findBestPlace yX2_findBestPlace ∈ lw_gd := gd_of 584 rfl rfl
set_option maxRecDepth 100000 in
theorem wd_585 : Cond.code yX2_findBestPlace cX2_findBestPlace 5 (some .int) ∈ lw_gd := gd_of 585 rfl rfl
set_option maxRecDepth 100000 in
theorem wd_587 : Cond.instanceMethod yX5_critical ∈ lw_gd := gd_of 587 rfl rfl
set_option maxRecDepth 100000 in
theorem wd_588 : Cond.selects RX5 yX5_critical yX5_critical ∈ lw_gd := gd_of 588 rfl rfl
set_option maxRecDepth 100000 in
theorem wd_589 : Cond.code yX5_critical cX5_critical 1 (some .int) ∈ lw_gd := gd_of 589 rfl rfl
set_option maxRecDepth 100000 in
theorem wd_590 : Cond.methodLink RX5 150 yX4_longestChain ∈ lw_gd := gd_of 590 rfl rfl
set_option maxRecDepth 100000 in
theorem wd_591 : Cond.instanceMethod yX4_longestChain ∈ lw_gd := gd_of 591 rfl rfl
set_option maxRecDepth 100000 in
theorem wd_592 : Cond.selects RX4 yX4_longestChain yX4_longestChain ∈ lw_gd := gd_of 592 rfl rfl
set_option maxRecDepth 100000 in
theorem wd_593 : Cond.code yX4_longestChain cX4_longestChain 5 (some .int) ∈ lw_gd := gd_of 593 rfl rfl
set_option maxRecDepth 100000 in
theorem wd_594 : Cond.methodLink RX4 72 yX4_endOfAll ∈ lw_gd := gd_of 594 rfl rfl
set_option maxRecDepth 100000 in
theorem wd_595 : Cond.methodLink RX4 76 yX4_waitedFor ∈ lw_gd := gd_of 595 rfl rfl
set_option maxRecDepth 100000 in
theorem wd_597 : Cond.instanceMethod yX4_waitedFor ∈ lw_gd := gd_of 597 rfl rfl
set_option maxRecDepth 100000 in
theorem wd_598 : Cond.code yX4_waitedFor cX4_waitedFor 6 (some .int) ∈ lw_gd := gd_of 598 rfl rfl
set_option maxRecDepth 100000 in
theorem wd_599 : Cond.methodLink RX4 79 yX4_startOf ∈ lw_gd := gd_of 599 rfl rfl
set_option maxRecDepth 100000 in
theorem wd_600 : Cond.methodLink RX4 82 yX4_inFrontOf ∈ lw_gd := gd_of 600 rfl rfl
set_option maxRecDepth 100000 in
theorem wd_602 : Cond.instanceMethod yX5_lateBehind ∈ lw_gd := gd_of 602 rfl rfl
set_option maxRecDepth 100000 in
theorem wd_603 : Cond.selects RX5 yX5_lateBehind yX5_lateBehind ∈ lw_gd := gd_of 603 rfl rfl
set_option maxRecDepth 100000 in
theorem wd_604 : Cond.code yX5_lateBehind cX5_lateBehind 1 (some .int) ∈ lw_gd := gd_of 604 rfl rfl
set_option maxRecDepth 100000 in
theorem wd_605 : Cond.methodLink RX5 153 yX2_lateTogether ∈ lw_gd := gd_of 605 rfl rfl
set_option maxRecDepth 100000 in
theorem wd_607 : Cond.instanceMethod yX5_put ∈ lw_gd := gd_of 607 rfl rfl
set_option maxRecDepth 100000 in
theorem wd_608 : Cond.selects RX5 yX5_put yX5_put ∈ lw_gd := gd_of 608 rfl rfl
set_option maxRecDepth 100000 in
theorem wd_609 : Cond.code yX5_put cX5_put 3 (some .int) ∈ lw_gd := gd_of 609 rfl rfl
set_option maxRecDepth 100000 in
theorem wd_610 : Cond.methodLink RX5 156 yX3_append ∈ lw_gd := gd_of 610 rfl rfl
set_option maxRecDepth 100000 in
theorem wd_611 : Cond.instanceMethod yX3_append ∈ lw_gd := gd_of 611 rfl rfl
set_option maxRecDepth 100000 in
theorem wd_612 : Cond.selects RX3 yX3_append yX3_append ∈ lw_gd := gd_of 612 rfl rfl
set_option maxRecDepth 100000 in
theorem wd_613 : Cond.code yX3_append cX3_append 7 (some .int) ∈ lw_gd := gd_of 613 rfl rfl
set_option maxRecDepth 100000 in
theorem wd_614 : Cond.constantLong RX3 19 (255 : Int64) ∈ lw_gd := gd_of 614 rfl rfl
set_option maxRecDepth 100000 in
theorem wd_615 : Cond.constantLong RX3 21 (33 : Int64) ∈ lw_gd := gd_of 615 rfl rfl
set_option maxRecDepth 100000 in
theorem wd_616 : Cond.constantLong RX3 23 (126 : Int64) ∈ lw_gd := gd_of 616 rfl rfl
set_option maxRecDepth 100000 in
theorem wd_618 : Cond.instanceMethod yX5_wipe ∈ lw_gd := gd_of 618 rfl rfl
set_option maxRecDepth 100000 in
theorem wd_619 : Cond.selects RX5 yX5_wipe yX5_wipe ∈ lw_gd := gd_of 619 rfl rfl
set_option maxRecDepth 100000 in
theorem wd_620 : Cond.code yX5_wipe cX5_wipe 1 (some .int) ∈ lw_gd := gd_of 620 rfl rfl
set_option maxRecDepth 100000 in
theorem wd_621 : Cond.methodLink RX5 160 yX3_clear ∈ lw_gd := gd_of 621 rfl rfl
set_option maxRecDepth 100000 in
theorem wd_622 : Cond.instanceMethod yX3_clear ∈ lw_gd := gd_of 622 rfl rfl
set_option maxRecDepth 100000 in
theorem wd_623 : Cond.selects RX3 yX3_clear yX3_clear ∈ lw_gd := gd_of 623 rfl rfl
set_option maxRecDepth 100000 in
theorem wd_624 : Cond.code yX3_clear cX3_clear 2 (some .int) ∈ lw_gd := gd_of 624 rfl rfl
set_option maxRecDepth 100000 in
theorem wd_626 : Cond.instanceMethod yX5_fault ∈ lw_gd := gd_of 626 rfl rfl
set_option maxRecDepth 100000 in
theorem wd_627 : Cond.selects RX5 yX5_fault yX5_fault ∈ lw_gd := gd_of 627 rfl rfl
set_option maxRecDepth 100000 in
theorem wd_628 : Cond.code yX5_fault cX5_fault 1 (some .int) ∈ lw_gd := gd_of 628 rfl rfl
set_option maxRecDepth 100000 in
theorem wd_629 : Cond.methodLink RX5 163 yX3_findFault ∈ lw_gd := gd_of 629 rfl rfl
set_option maxRecDepth 100000 in
theorem wd_630 : Cond.instanceMethod yX3_findFault ∈ lw_gd := gd_of 630 rfl rfl
set_option maxRecDepth 100000 in
theorem wd_631 : Cond.selects RX3 yX3_findFault yX3_findFault ∈ lw_gd := gd_of 631 rfl rfl
set_option maxRecDepth 100000 in
theorem wd_632 : Cond.code yX3_findFault cX3_findFault 2 (some .int) ∈ lw_gd := gd_of 632 rfl rfl
set_option maxRecDepth 100000 in
theorem wd_633 : Cond.methodLink RX3 32 yX3_toStart ∈ lw_gd := gd_of 633 rfl rfl
set_option maxRecDepth 100000 in
theorem wd_634 : Cond.instanceMethod yX3_toStart ∈ lw_gd := gd_of 634 rfl rfl
set_option maxRecDepth 100000 in
theorem wd_635 : Cond.selects RX3 yX3_toStart yX3_toStart ∈ lw_gd := gd_of 635 rfl rfl
set_option maxRecDepth 100000 in
theorem wd_636 : Cond.code yX3_toStart cX3_toStart 1 (none) ∈ lw_gd := gd_of 636 rfl rfl
set_option maxRecDepth 100000 in
theorem wd_637 : Cond.methodLink RX3 35 yX3_readOrder ∈ lw_gd := gd_of 637 rfl rfl
set_option maxRecDepth 100000 in
theorem wd_638 : Cond.instanceMethod yX3_readOrder ∈ lw_gd := gd_of 638 rfl rfl
set_option maxRecDepth 100000 in
theorem wd_639 : Cond.selects RX3 yX3_readOrder yX3_readOrder ∈ lw_gd := gd_of 639 rfl rfl
set_option maxRecDepth 100000 in
theorem wd_640 : Cond.code yX3_readOrder cX3_readOrder 1 (some .boolean) ∈ lw_gd := gd_of 640 rfl rfl
set_option maxRecDepth 100000 in
theorem wd_641 : Cond.methodLink RX3 49 yX3_here ∈ lw_gd := gd_of 641 rfl rfl
set_option maxRecDepth 100000 in
theorem wd_643 : Cond.instanceMethod yX3_here ∈ lw_gd := gd_of 643 rfl rfl
set_option maxRecDepth 100000 in
theorem wd_644 : Cond.code yX3_here cX3_here 1 (some .int) ∈ lw_gd := gd_of 644 rfl rfl
set_option maxRecDepth 100000 in
theorem wd_645 : Cond.methodLink RX3 42 yX3_readSign ∈ lw_gd := gd_of 645 rfl rfl
set_option maxRecDepth 100000 in
theorem wd_647 : Cond.instanceMethod yX3_readSign ∈ lw_gd := gd_of 647 rfl rfl
set_option maxRecDepth 100000 in
theorem wd_648 : Cond.code yX3_readSign cX3_readSign 2 (some .boolean) ∈ lw_gd := gd_of 648 rfl rfl
set_option maxRecDepth 100000 in
theorem wd_649 : Cond.methodLink RX3 56 yX3_readTask ∈ lw_gd := gd_of 649 rfl rfl
set_option maxRecDepth 100000 in
theorem wd_651 : Cond.instanceMethod yX3_readTask ∈ lw_gd := gd_of 651 rfl rfl
set_option maxRecDepth 100000 in
theorem wd_652 : Cond.code yX3_readTask cX3_readTask 2 (some .boolean) ∈ lw_gd := gd_of 652 rfl rfl
set_option maxRecDepth 100000 in
theorem wd_653 : Cond.methodLink RX3 65 yX3_readDigit ∈ lw_gd := gd_of 653 rfl rfl
set_option maxRecDepth 100000 in
theorem wd_655 : Cond.instanceMethod yX3_readDigit ∈ lw_gd := gd_of 655 rfl rfl
set_option maxRecDepth 100000 in
theorem wd_656 : Cond.code yX3_readDigit cX3_readDigit 2 (some .boolean) ∈ lw_gd := gd_of 656 rfl rfl
set_option maxRecDepth 100000 in
theorem wd_657 : Cond.methodLink RX3 72 yX3_isDigit ∈ lw_gd := gd_of 657 rfl rfl
set_option maxRecDepth 100000 in
theorem wd_659 : Cond.instanceMethod yX3_isDigit ∈ lw_gd := gd_of 659 rfl rfl
set_option maxRecDepth 100000 in
theorem wd_660 : Cond.code yX3_isDigit cX3_isDigit 1 (some .boolean) ∈ lw_gd := gd_of 660 rfl rfl
set_option maxRecDepth 100000 in
theorem wd_661 : Cond.methodLink RX3 68 yX3_keep ∈ lw_gd := gd_of 661 rfl rfl
set_option maxRecDepth 100000 in
theorem wd_663 : Cond.instanceMethod yX3_keep ∈ lw_gd := gd_of 663 rfl rfl
set_option maxRecDepth 100000 in
theorem wd_664 : Cond.code yX3_keep cX3_keep 2 (some .boolean) ∈ lw_gd := gd_of 664 rfl rfl
set_option maxRecDepth 100000 in
theorem wd_665 : Cond.methodLink RX3 62 yX3_readNumber ∈ lw_gd := gd_of 665 rfl rfl
set_option maxRecDepth 100000 in
theorem wd_667 : Cond.instanceMethod yX3_readNumber ∈ lw_gd := gd_of 667 rfl rfl
set_option maxRecDepth 100000 in
theorem wd_668 : Cond.code yX3_readNumber cX3_readNumber 3 (some .boolean) ∈ lw_gd := gd_of 668 rfl rfl
set_option maxRecDepth 100000 in
theorem wd_669 : Cond.methodLink RX3 59 yX3_readPair ∈ lw_gd := gd_of 669 rfl rfl
set_option maxRecDepth 100000 in
theorem wd_671 : Cond.instanceMethod yX3_readPair ∈ lw_gd := gd_of 671 rfl rfl
set_option maxRecDepth 100000 in
theorem wd_672 : Cond.code yX3_readPair cX3_readPair 2 (some .boolean) ∈ lw_gd := gd_of 672 rfl rfl
set_option maxRecDepth 100000 in
theorem wd_673 : Cond.methodLink RX3 39 yX3_readNext ∈ lw_gd := gd_of 673 rfl rfl
set_option maxRecDepth 100000 in
theorem wd_674 : Cond.instanceMethod yX3_readNext ∈ lw_gd := gd_of 674 rfl rfl
set_option maxRecDepth 100000 in
theorem wd_675 : Cond.selects RX3 yX3_readNext yX3_readNext ∈ lw_gd := gd_of 675 rfl rfl
set_option maxRecDepth 100000 in
theorem wd_676 : Cond.code yX3_readNext cX3_readNext 1 (some .boolean) ∈ lw_gd := gd_of 676 rfl rfl
set_option maxRecDepth 100000 in
theorem wd_678 : Cond.instanceMethod yX5_carryOut ∈ lw_gd := gd_of 678 rfl rfl
set_option maxRecDepth 100000 in
theorem wd_679 : Cond.selects RX5 yX5_carryOut yX5_carryOut ∈ lw_gd := gd_of 679 rfl rfl
set_option maxRecDepth 100000 in
theorem wd_680 : Cond.code yX5_carryOut cX5_carryOut 2 (some .int) ∈ lw_gd := gd_of 680 rfl rfl
set_option maxRecDepth 100000 in
theorem wd_681 : Cond.methodLink RX5 166 yX5_carryOrders ∈ lw_gd := gd_of 681 rfl rfl
set_option maxRecDepth 100000 in
theorem wd_683 : Cond.instanceMethod yX5_carryOrders ∈ lw_gd := gd_of 683 rfl rfl
set_option maxRecDepth 100000 in
theorem wd_684 : Cond.code yX5_carryOrders cX5_carryOrders 3 (some .int) ∈ lw_gd := gd_of 684 rfl rfl
set_option maxRecDepth 100000 in
theorem wd_685 : Cond.methodLink RX5 169 yX3_toStart ∈ lw_gd := gd_of 685 rfl rfl
set_option maxRecDepth 100000 in
theorem wd_686 : Cond.methodLink RX5 172 yX3_readOrder ∈ lw_gd := gd_of 686 rfl rfl
set_option maxRecDepth 100000 in
theorem wd_687 : Cond.methodLink RX5 176 yX5_carryOrder ∈ lw_gd := gd_of 687 rfl rfl
set_option maxRecDepth 100000 in
theorem wd_689 : Cond.instanceMethod yX5_carryOrder ∈ lw_gd := gd_of 689 rfl rfl
set_option maxRecDepth 100000 in
theorem wd_690 : Cond.code yX5_carryOrder cX5_carryOrder 2 (some .int) ∈ lw_gd := gd_of 690 rfl rfl
set_option maxRecDepth 100000 in
theorem wd_691 : Cond.methodLink RX5 179 yX3_readNext ∈ lw_gd := gd_of 691 rfl rfl
set_option maxRecDepth 100000 in
theorem wd_693 : Cond.instanceMethod yX5_undo ∈ lw_gd := gd_of 693 rfl rfl
set_option maxRecDepth 100000 in
theorem wd_694 : Cond.selects RX5 yX5_undo yX5_undo ∈ lw_gd := gd_of 694 rfl rfl
set_option maxRecDepth 100000 in
theorem wd_695 : Cond.code yX5_undo cX5_undo 1 (some .int) ∈ lw_gd := gd_of 695 rfl rfl
set_option maxRecDepth 100000 in
theorem wd_696 : Cond.methodLink RX5 188 yX1_takeBack ∈ lw_gd := gd_of 696 rfl rfl
set_option maxRecDepth 100000 in
theorem wd_697 : Cond.instanceMethod yX1_takeBack ∈ lw_gd := gd_of 697 rfl rfl
set_option maxRecDepth 100000 in
theorem wd_698 : Cond.selects RX1 yX1_takeBack yX1_takeBack ∈ lw_gd := gd_of 698 rfl rfl
set_option maxRecDepth 100000 in
theorem wd_699 : Cond.code yX1_takeBack cX1_takeBack 2 (some .int) ∈ lw_gd := gd_of 699 rfl rfl
set_option maxRecDepth 100000 in
theorem wd_701 : Cond.instanceMethod yX5_save ∈ lw_gd := gd_of 701 rfl rfl
set_option maxRecDepth 100000 in
theorem wd_702 : Cond.selects RX5 yX5_save yX5_save ∈ lw_gd := gd_of 702 rfl rfl
set_option maxRecDepth 100000 in
theorem wd_703 : Cond.code yX5_save cX5_save 3 (some .int) ∈ lw_gd := gd_of 703 rfl rfl
set_option maxRecDepth 100000 in
theorem wd_705 : Cond.instanceMethod yX5_restore ∈ lw_gd := gd_of 705 rfl rfl
set_option maxRecDepth 100000 in
theorem wd_706 : Cond.selects RX5 yX5_restore yX5_restore ∈ lw_gd := gd_of 706 rfl rfl
set_option maxRecDepth 100000 in
theorem wd_707 : Cond.code yX5_restore cX5_restore 2 (some .int) ∈ lw_gd := gd_of 707 rfl rfl
set_option maxRecDepth 100000 in
theorem wd_714 : Cond.fieldLink RX6 7 (TX6 0).1 (TX6 0).2.1 (TX6 0).2.2.1 ∈ lw_gd := gd_of 714 rfl rfl
set_option maxRecDepth 100000 in
theorem wd_715 : Cond.fieldLink RX6 13 (TX6 1).1 (TX6 1).2.1 (TX6 1).2.2.1 ∈ lw_gd := gd_of 715 rfl rfl
set_option maxRecDepth 100000 in
theorem wd_716 : Cond.fieldLink RX6 16 (TX6 2).1 (TX6 2).2.1 (TX6 2).2.2.1 ∈ lw_gd := gd_of 716 rfl rfl
set_option maxRecDepth 100000 in
theorem wd_717 : Cond.fieldLink RX6 19 (TX6 3).1 (TX6 3).2.1 (TX6 3).2.2.1 ∈ lw_gd := gd_of 717 rfl rfl
set_option maxRecDepth 100000 in
theorem wd_718 : Cond.fieldLink RX6 23 (TX6 4).1 (TX6 4).2.1 (TX6 4).2.2.1 ∈ lw_gd := gd_of 718 rfl rfl
set_option maxRecDepth 100000 in
theorem wd_719 : Cond.fieldLink RX6 53 (TX6 5).1 (TX6 5).2.1 (TX6 5).2.2.1 ∈ lw_gd := gd_of 719 rfl rfl
set_option maxRecDepth 100000 in
theorem wd_720 : Cond.fieldLink RX6 49 (TX6 6).1 (TX6 6).2.1 (TX6 6).2.2.1 ∈ lw_gd := gd_of 720 rfl rfl
set_option maxRecDepth 100000 in
theorem wd_721 : Cond.fieldLink RX6 26 (TX6 7).1 (TX6 7).2.1 (TX6 7).2.2.1 ∈ lw_gd := gd_of 721 rfl rfl
set_option maxRecDepth 100000 in
theorem wd_722 : Cond.fieldLink RX6 162 (TX6 8).1 (TX6 8).2.1 (TX6 8).2.2.1 ∈ lw_gd := gd_of 722 rfl rfl
set_option maxRecDepth 100000 in
theorem wd_723 : Cond.fieldLink RX6 30 (TX6 9).1 (TX6 9).2.1 (TX6 9).2.2.1 ∈ lw_gd := gd_of 723 rfl rfl
set_option maxRecDepth 100000 in
theorem wd_724 : Cond.fieldLink RX6 33 (TX6 10).1 (TX6 10).2.1 (TX6 10).2.2.1 ∈ lw_gd := gd_of 724 rfl rfl
set_option maxRecDepth 100000 in
theorem wd_725 : Cond.fieldLink RX6 36 (TX6 11).1 (TX6 11).2.1 (TX6 11).2.2.1 ∈ lw_gd := gd_of 725 rfl rfl
set_option maxRecDepth 100000 in
theorem wd_726 : Cond.fieldLink RX6 63 (TX6 12).1 (TX6 12).2.1 (TX6 12).2.2.1 ∈ lw_gd := gd_of 726 rfl rfl
set_option maxRecDepth 100000 in
theorem wd_727 : Cond.fieldLink RX6 40 (TX6 13).1 (TX6 13).2.1 (TX6 13).2.2.1 ∈ lw_gd := gd_of 727 rfl rfl
set_option maxRecDepth 100000 in
theorem wd_728 : Cond.fieldLink RX6 43 (TX6 14).1 (TX6 14).2.1 (TX6 14).2.2.1 ∈ lw_gd := gd_of 728 rfl rfl
set_option maxRecDepth 100000 in
theorem wd_729 : Cond.fieldLink RX6 46 (TX6 15).1 (TX6 15).2.1 (TX6 15).2.2.1 ∈ lw_gd := gd_of 729 rfl rfl
set_option maxRecDepth 100000 in
theorem wd_730 : Cond.fieldLink RX6 204 (TX6 16).1 (TX6 16).2.1 (TX6 16).2.2.1 ∈ lw_gd := gd_of 730 rfl rfl
set_option maxRecDepth 100000 in
theorem wd_731 : Cond.fieldLink RX6 180 (TX6 17).1 (TX6 17).2.1 (TX6 17).2.2.1 ∈ lw_gd := gd_of 731 rfl rfl
set_option maxRecDepth 100000 in
theorem wd_732 : Cond.fieldLink RX6 177 (TX6 18).1 (TX6 18).2.1 (TX6 18).2.2.1 ∈ lw_gd := gd_of 732 rfl rfl
set_option maxRecDepth 100000 in
theorem wd_773 : Cond.instanceMethod yX6_undo ∈ lw_gd := gd_of 773 rfl rfl
set_option maxRecDepth 100000 in
theorem wd_774 : Cond.selects RX6 yX6_undo yX6_undo ∈ lw_gd := gd_of 774 rfl rfl
set_option maxRecDepth 100000 in
theorem wd_775 : Cond.code yX6_undo cX6_undo 2 (some .int) ∈ lw_gd := gd_of 775 rfl rfl
set_option maxRecDepth 100000 in
theorem wd_777 : Cond.instanceMethod yX6_save ∈ lw_gd := gd_of 777 rfl rfl
set_option maxRecDepth 100000 in
theorem wd_778 : Cond.selects RX6 yX6_save yX6_save ∈ lw_gd := gd_of 778 rfl rfl
set_option maxRecDepth 100000 in
theorem wd_779 : Cond.code yX6_save cX6_save 3 (some .int) ∈ lw_gd := gd_of 779 rfl rfl
set_option maxRecDepth 100000 in
theorem wd_780 : Cond.methodLink RX6 56 yX6_in ∈ lw_gd := gd_of 780 rfl rfl
set_option maxRecDepth 100000 in
theorem wd_781 : Cond.static yX6_in ∈ lw_gd := gd_of 781 rfl rfl
set_option maxRecDepth 100000 in
theorem wd_782 : Cond.code yX6_in cX6_in 3 (some .boolean) ∈ lw_gd := gd_of 782 rfl rfl
set_option maxRecDepth 100000 in
theorem wd_784 : Cond.instanceMethod yX6_restore ∈ lw_gd := gd_of 784 rfl rfl
set_option maxRecDepth 100000 in
theorem wd_785 : Cond.selects RX6 yX6_restore yX6_restore ∈ lw_gd := gd_of 785 rfl rfl
set_option maxRecDepth 100000 in
theorem wd_786 : Cond.code yX6_restore cX6_restore 3 (some .int) ∈ lw_gd := gd_of 786 rfl rfl
set_option maxRecDepth 100000 in
theorem wd_787 : Cond.methodLink RX6 60 yX6_record ∈ lw_gd := gd_of 787 rfl rfl
set_option maxRecDepth 100000 in
theorem wd_789 : Cond.instanceMethod yX6_record ∈ lw_gd := gd_of 789 rfl rfl
set_option maxRecDepth 100000 in
theorem wd_790 : Cond.code yX6_record cX6_record 2 (none) ∈ lw_gd := gd_of 790 rfl rfl
set_option maxRecDepth 100000 in
theorem wd_792 : Cond.instanceMethod yX6_set ∈ lw_gd := gd_of 792 rfl rfl
set_option maxRecDepth 100000 in
theorem wd_793 : Cond.selects RX6 yX6_set yX6_set ∈ lw_gd := gd_of 793 rfl rfl
set_option maxRecDepth 100000 in
theorem wd_794 : Cond.code yX6_set cX6_set 5 (some .int) ∈ lw_gd := gd_of 794 rfl rfl
set_option maxRecDepth 100000 in
theorem wd_796 : Cond.instanceMethod yX6_task ∈ lw_gd := gd_of 796 rfl rfl
set_option maxRecDepth 100000 in
theorem wd_797 : Cond.selects RX6 yX6_task yX6_task ∈ lw_gd := gd_of 797 rfl rfl
set_option maxRecDepth 100000 in
theorem wd_798 : Cond.code yX6_task cX6_task 8 (some .int) ∈ lw_gd := gd_of 798 rfl rfl
set_option maxRecDepth 100000 in
theorem wd_799 : Cond.methodLink RX6 89 yX6_isTask ∈ lw_gd := gd_of 799 rfl rfl
set_option maxRecDepth 100000 in
theorem wd_801 : Cond.instanceMethod yX6_isTask ∈ lw_gd := gd_of 801 rfl rfl
set_option maxRecDepth 100000 in
theorem wd_802 : Cond.code yX6_isTask cX6_isTask 2 (some .boolean) ∈ lw_gd := gd_of 802 rfl rfl
set_option maxRecDepth 100000 in
theorem wd_803 : Cond.constant RX6 93 (100000 : Int32) ∈ lw_gd := gd_of 803 rfl rfl
set_option maxRecDepth 100000 in
theorem wd_804 : Cond.methodLink RX6 94 yX6_manyOn ∈ lw_gd := gd_of 804 rfl rfl
set_option maxRecDepth 100000 in
theorem wd_806 : Cond.instanceMethod yX6_manyOn ∈ lw_gd := gd_of 806 rfl rfl
set_option maxRecDepth 100000 in
theorem wd_807 : Cond.code yX6_manyOn cX6_manyOn 4 (some .int) ∈ lw_gd := gd_of 807 rfl rfl
set_option maxRecDepth 100000 in
theorem wd_809 : Cond.instanceMethod yX6_duration ∈ lw_gd := gd_of 809 rfl rfl
set_option maxRecDepth 100000 in
theorem wd_810 : Cond.selects RX6 yX6_duration yX6_duration ∈ lw_gd := gd_of 810 rfl rfl
set_option maxRecDepth 100000 in
theorem wd_811 : Cond.code yX6_duration cX6_duration 4 (some .int) ∈ lw_gd := gd_of 811 rfl rfl
set_option maxRecDepth 100000 in
theorem wd_813 : Cond.instanceMethod yX6_move ∈ lw_gd := gd_of 813 rfl rfl
set_option maxRecDepth 100000 in
theorem wd_814 : Cond.selects RX6 yX6_move yX6_move ∈ lw_gd := gd_of 814 rfl rfl
set_option maxRecDepth 100000 in
theorem wd_815 : Cond.code yX6_move cX6_move 5 (some .int) ∈ lw_gd := gd_of 815 rfl rfl
set_option maxRecDepth 100000 in
theorem wd_816 : Cond.methodLink RX6 97 yX6_putAt ∈ lw_gd := gd_of 816 rfl rfl
set_option maxRecDepth 100000 in
theorem wd_818 : Cond.instanceMethod yX6_putAt ∈ lw_gd := gd_of 818 rfl rfl
set_option maxRecDepth 100000 in
theorem wd_819 : Cond.code yX6_putAt cX6_putAt 6 (none) ∈ lw_gd := gd_of 819 rfl rfl
set_option maxRecDepth 100000 in
theorem wd_820 : Cond.methodLink RX6 77 yX6_reckon ∈ lw_gd := gd_of 820 rfl rfl
set_option maxRecDepth 100000 in
theorem wd_822 : Cond.instanceMethod yX6_reckon ∈ lw_gd := gd_of 822 rfl rfl
set_option maxRecDepth 100000 in
theorem wd_823 : Cond.code yX6_reckon cX6_reckon 8 (some .boolean) ∈ lw_gd := gd_of 823 rfl rfl
set_option maxRecDepth 100000 in
theorem wd_824 : Cond.methodLink RX6 66 yX6_endOf ∈ lw_gd := gd_of 824 rfl rfl
set_option maxRecDepth 100000 in
theorem wd_826 : Cond.instanceMethod yX6_endOf ∈ lw_gd := gd_of 826 rfl rfl
set_option maxRecDepth 100000 in
theorem wd_827 : Cond.code yX6_endOf cX6_endOf 2 (some .int) ∈ lw_gd := gd_of 827 rfl rfl
set_option maxRecDepth 100000 in
theorem wd_828 : Cond.methodLink RX6 70 yX6_taskAt ∈ lw_gd := gd_of 828 rfl rfl
set_option maxRecDepth 100000 in
theorem wd_830 : Cond.instanceMethod yX6_taskAt ∈ lw_gd := gd_of 830 rfl rfl
set_option maxRecDepth 100000 in
theorem wd_831 : Cond.code yX6_taskAt cX6_taskAt 5 (some .int) ∈ lw_gd := gd_of 831 rfl rfl
set_option maxRecDepth 100000 in
theorem wd_833 : Cond.instanceMethod yX6_distance ∈ lw_gd := gd_of 833 rfl rfl
set_option maxRecDepth 100000 in
theorem wd_834 : Cond.selects RX6 yX6_distance yX6_distance ∈ lw_gd := gd_of 834 rfl rfl
set_option maxRecDepth 100000 in
theorem wd_835 : Cond.code yX6_distance cX6_distance 3 (some .int) ∈ lw_gd := gd_of 835 rfl rfl
set_option maxRecDepth 100000 in
theorem wd_836 : Cond.methodLink RX6 104 yX6_measure ∈ lw_gd := gd_of 836 rfl rfl
set_option maxRecDepth 100000 in
theorem wd_838 : Cond.instanceMethod yX6_measure ∈ lw_gd := gd_of 838 rfl rfl
set_option maxRecDepth 100000 in
theorem wd_839 : Cond.code yX6_measure cX6_measure 5 (none) ∈ lw_gd := gd_of 839 rfl rfl
set_option maxRecDepth 100000 in
theorem wd_840 : Cond.methodLink RX6 101 yX6_areLinked ∈ lw_gd := gd_of 840 rfl rfl
set_option maxRecDepth 100000 in
theorem wd_842 : Cond.instanceMethod yX6_areLinked ∈ lw_gd := gd_of 842 rfl rfl
set_option maxRecDepth 100000 in
theorem wd_843 : Cond.code yX6_areLinked cX6_areLinked 3 (some .boolean) ∈ lw_gd := gd_of 843 rfl rfl
set_option maxRecDepth 100000 in
theorem wd_845 : Cond.instanceMethod yX6_offer ∈ lw_gd := gd_of 845 rfl rfl
set_option maxRecDepth 100000 in
theorem wd_846 : Cond.selects RX6 yX6_offer yX6_offer ∈ lw_gd := gd_of 846 rfl rfl
set_option maxRecDepth 100000 in
theorem wd_847 : Cond.code yX6_offer cX6_offer 5 (some .int) ∈ lw_gd := gd_of 847 rfl rfl
set_option maxRecDepth 100000 in
theorem wd_849 : Cond.instanceMethod yX6_trade ∈ lw_gd := gd_of 849 rfl rfl
set_option maxRecDepth 100000 in
theorem wd_850 : Cond.selects RX6 yX6_trade yX6_trade ∈ lw_gd := gd_of 850 rfl rfl
set_option maxRecDepth 100000 in
theorem wd_851 : Cond.code yX6_trade cX6_trade 2 (some .int) ∈ lw_gd := gd_of 851 rfl rfl
set_option maxRecDepth 100000 in
theorem wd_852 : Cond.methodLink RX6 130 yX6_tradeAll ∈ lw_gd := gd_of 852 rfl rfl
set_option maxRecDepth 100000 in
theorem wd_854 : Cond.instanceMethod yX6_tradeAll ∈ lw_gd := gd_of 854 rfl rfl
set_option maxRecDepth 100000 in
theorem wd_855 : Cond.code yX6_tradeAll cX6_tradeAll 5 (none) ∈ lw_gd := gd_of 855 rfl rfl
set_option maxRecDepth 100000 in
theorem wd_856 : Cond.methodLink RX6 74 yX6_late ∈ lw_gd := gd_of 856 rfl rfl
set_option maxRecDepth 100000 in
theorem wd_858 : Cond.instanceMethod yX6_late ∈ lw_gd := gd_of 858 rfl rfl
set_option maxRecDepth 100000 in
theorem wd_859 : Cond.code yX6_late cX6_late 3 (some .int) ∈ lw_gd := gd_of 859 rfl rfl
set_option maxRecDepth 100000 in
theorem wd_860 : Cond.methodLink RX6 127 yX6_buys ∈ lw_gd := gd_of 860 rfl rfl
set_option maxRecDepth 100000 in
theorem wd_862 : Cond.instanceMethod yX6_buys ∈ lw_gd := gd_of 862 rfl rfl
set_option maxRecDepth 100000 in
theorem wd_863 : Cond.code yX6_buys cX6_buys 5 (none) ∈ lw_gd := gd_of 863 rfl rfl
set_option maxRecDepth 100000 in
theorem wd_864 : Cond.methodLink RX6 117 yX6_nextOffer ∈ lw_gd := gd_of 864 rfl rfl
set_option maxRecDepth 100000 in
theorem wd_866 : Cond.instanceMethod yX6_nextOffer ∈ lw_gd := gd_of 866 rfl rfl
set_option maxRecDepth 100000 in
theorem wd_867 : Cond.code yX6_nextOffer cX6_nextOffer 6 (some .int) ∈ lw_gd := gd_of 867 rfl rfl
set_option maxRecDepth 100000 in
theorem wd_868 : Cond.methodLink RX6 108 yX6_isSooner ∈ lw_gd := gd_of 868 rfl rfl
set_option maxRecDepth 100000 in
theorem wd_870 : Cond.instanceMethod yX6_isSooner ∈ lw_gd := gd_of 870 rfl rfl
set_option maxRecDepth 100000 in
theorem wd_871 : Cond.code yX6_isSooner cX6_isSooner 3 (some .boolean) ∈ lw_gd := gd_of 871 rfl rfl
set_option maxRecDepth 100000 in
theorem wd_872 : Cond.methodLink RX6 120 yX6_hoursOf ∈ lw_gd := gd_of 872 rfl rfl
set_option maxRecDepth 100000 in
theorem wd_874 : Cond.instanceMethod yX6_hoursOf ∈ lw_gd := gd_of 874 rfl rfl
set_option maxRecDepth 100000 in
theorem wd_875 : Cond.code yX6_hoursOf cX6_hoursOf 5 (some .int) ∈ lw_gd := gd_of 875 rfl rfl
set_option maxRecDepth 100000 in
theorem wd_876 : Cond.methodLink RX6 111 yX6_less ∈ lw_gd := gd_of 876 rfl rfl
set_option maxRecDepth 100000 in
theorem wd_877 : Cond.static yX6_less ∈ lw_gd := gd_of 877 rfl rfl
set_option maxRecDepth 100000 in
theorem wd_878 : Cond.code yX6_less cX6_less 2 (some .int) ∈ lw_gd := gd_of 878 rfl rfl
set_option maxRecDepth 100000 in
theorem wd_879 : Cond.methodLink RX6 114 yX6_spared ∈ lw_gd := gd_of 879 rfl rfl
set_option maxRecDepth 100000 in
theorem wd_881 : Cond.instanceMethod yX6_spared ∈ lw_gd := gd_of 881 rfl rfl
set_option maxRecDepth 100000 in
theorem wd_882 : Cond.code yX6_spared cX6_spared 3 (some .int) ∈ lw_gd := gd_of 882 rfl rfl
set_option maxRecDepth 100000 in
theorem wd_883 : Cond.methodLink RX6 123 yX6_agree ∈ lw_gd := gd_of 883 rfl rfl
set_option maxRecDepth 100000 in
theorem wd_885 : Cond.instanceMethod yX6_agree ∈ lw_gd := gd_of 885 rfl rfl
set_option maxRecDepth 100000 in
theorem wd_886 : Cond.code yX6_agree cX6_agree 6 (none) ∈ lw_gd := gd_of 886 rfl rfl
set_option maxRecDepth 100000 in
theorem wd_888 : Cond.instanceMethod yX6_refund ∈ lw_gd := gd_of 888 rfl rfl
set_option maxRecDepth 100000 in
theorem wd_889 : Cond.selects RX6 yX6_refund yX6_refund ∈ lw_gd := gd_of 889 rfl rfl
set_option maxRecDepth 100000 in
theorem wd_890 : Cond.code yX6_refund cX6_refund 7 (some .int) ∈ lw_gd := gd_of 890 rfl rfl
set_option maxRecDepth 100000 in
theorem wd_891 : Cond.methodLink RX6 133 yX6_isContract ∈ lw_gd := gd_of 891 rfl rfl
set_option maxRecDepth 100000 in
theorem wd_893 : Cond.instanceMethod yX6_isContract ∈ lw_gd := gd_of 893 rfl rfl
set_option maxRecDepth 100000 in
theorem wd_894 : Cond.code yX6_isContract cX6_isContract 2 (some .boolean) ∈ lw_gd := gd_of 894 rfl rfl
set_option maxRecDepth 100000 in
theorem wd_895 : Cond.methodLink RX6 136 yX6_dropContract ∈ lw_gd := gd_of 895 rfl rfl
set_option maxRecDepth 100000 in
theorem wd_897 : Cond.instanceMethod yX6_dropContract ∈ lw_gd := gd_of 897 rfl rfl
set_option maxRecDepth 100000 in
theorem wd_898 : Cond.code yX6_dropContract cX6_dropContract 3 (none) ∈ lw_gd := gd_of 898 rfl rfl
set_option maxRecDepth 100000 in
theorem wd_900 : Cond.instanceMethod yX6_give ∈ lw_gd := gd_of 900 rfl rfl
set_option maxRecDepth 100000 in
theorem wd_901 : Cond.selects RX6 yX6_give yX6_give ∈ lw_gd := gd_of 901 rfl rfl
set_option maxRecDepth 100000 in
theorem wd_902 : Cond.code yX6_give cX6_give 4 (some .int) ∈ lw_gd := gd_of 902 rfl rfl
set_option maxRecDepth 100000 in
theorem wd_904 : Cond.instanceMethod yX6_ofTask ∈ lw_gd := gd_of 904 rfl rfl
set_option maxRecDepth 100000 in
theorem wd_905 : Cond.selects RX6 yX6_ofTask yX6_ofTask ∈ lw_gd := gd_of 905 rfl rfl
set_option maxRecDepth 100000 in
theorem wd_906 : Cond.code yX6_ofTask cX6_ofTask 3 (some .int) ∈ lw_gd := gd_of 906 rfl rfl
set_option maxRecDepth 100000 in
theorem wd_907 : Cond.methodLink RX6 139 yX6_slack ∈ lw_gd := gd_of 907 rfl rfl
set_option maxRecDepth 100000 in
theorem wd_909 : Cond.instanceMethod yX6_slack ∈ lw_gd := gd_of 909 rfl rfl
set_option maxRecDepth 100000 in
theorem wd_910 : Cond.code yX6_slack cX6_slack 6 (some .int) ∈ lw_gd := gd_of 910 rfl rfl
set_option maxRecDepth 100000 in
theorem wd_911 : Cond.methodLink RX6 85 yX6_canBeHeld ∈ lw_gd := gd_of 911 rfl rfl
set_option maxRecDepth 100000 in
theorem wd_913 : Cond.instanceMethod yX6_canBeHeld ∈ lw_gd := gd_of 913 rfl rfl
set_option maxRecDepth 100000 in
theorem wd_914 : Cond.code yX6_canBeHeld cX6_canBeHeld 4 (some .boolean) ∈ lw_gd := gd_of 914 rfl rfl
set_option maxRecDepth 100000 in
theorem wd_915 : Cond.methodLink RX6 81 yX6_lateTogether ∈ lw_gd := gd_of 915 rfl rfl
set_option maxRecDepth 100000 in
theorem wd_917 : Cond.instanceMethod yX6_lateTogether ∈ lw_gd := gd_of 917 rfl rfl
set_option maxRecDepth 100000 in
theorem wd_918 : Cond.code yX6_lateTogether cX6_lateTogether 3 (some .int) ∈ lw_gd := gd_of 918 rfl rfl
set_option maxRecDepth 100000 in
theorem wd_919 : Cond.methodLink RX6 142 yX6_hoursBy ∈ lw_gd := gd_of 919 rfl rfl
set_option maxRecDepth 100000 in
theorem wd_921 : Cond.instanceMethod yX6_hoursBy ∈ lw_gd := gd_of 921 rfl rfl
set_option maxRecDepth 100000 in
theorem wd_922 : Cond.code yX6_hoursBy cX6_hoursBy 5 (some .int) ∈ lw_gd := gd_of 922 rfl rfl
set_option maxRecDepth 100000 in
theorem wd_923 : Cond.methodLink RX6 145 yX6_behind ∈ lw_gd := gd_of 923 rfl rfl
set_option maxRecDepth 100000 in
theorem wd_925 : Cond.instanceMethod yX6_behind ∈ lw_gd := gd_of 925 rfl rfl
set_option maxRecDepth 100000 in
theorem wd_926 : Cond.code yX6_behind cX6_behind 5 (some .int) ∈ lw_gd := gd_of 926 rfl rfl
set_option maxRecDepth 100000 in
theorem wd_928 : Cond.instanceMethod yX6_due ∈ lw_gd := gd_of 928 rfl rfl
set_option maxRecDepth 100000 in
theorem wd_929 : Cond.selects RX6 yX6_due yX6_due ∈ lw_gd := gd_of 929 rfl rfl
set_option maxRecDepth 100000 in
theorem wd_930 : Cond.code yX6_due cX6_due 2 (some .long) ∈ lw_gd := gd_of 930 rfl rfl
set_option maxRecDepth 100000 in
theorem wd_931 : Cond.constantLong RX6 148 (-1 : Int64) ∈ lw_gd := gd_of 931 rfl rfl
set_option maxRecDepth 100000 in
theorem wd_933 : Cond.instanceMethod yX6_money ∈ lw_gd := gd_of 933 rfl rfl
set_option maxRecDepth 100000 in
theorem wd_934 : Cond.selects RX6 yX6_money yX6_money ∈ lw_gd := gd_of 934 rfl rfl
set_option maxRecDepth 100000 in
theorem wd_935 : Cond.code yX6_money cX6_money 2 (some .int) ∈ lw_gd := gd_of 935 rfl rfl
set_option maxRecDepth 100000 in
theorem wd_937 : Cond.instanceMethod yX6_at ∈ lw_gd := gd_of 937 rfl rfl
set_option maxRecDepth 100000 in
theorem wd_938 : Cond.selects RX6 yX6_at yX6_at ∈ lw_gd := gd_of 938 rfl rfl
set_option maxRecDepth 100000 in
theorem wd_939 : Cond.code yX6_at cX6_at 3 (some .int) ∈ lw_gd := gd_of 939 rfl rfl
set_option maxRecDepth 100000 in
theorem wd_941 : Cond.instanceMethod yX6_ofContract ∈ lw_gd := gd_of 941 rfl rfl
set_option maxRecDepth 100000 in
theorem wd_942 : Cond.selects RX6 yX6_ofContract yX6_ofContract ∈ lw_gd := gd_of 942 rfl rfl
set_option maxRecDepth 100000 in
theorem wd_943 : Cond.code yX6_ofContract cX6_ofContract 3 (some .int) ∈ lw_gd := gd_of 943 rfl rfl
set_option maxRecDepth 100000 in
theorem wd_945 : Cond.instanceMethod yX6_count ∈ lw_gd := gd_of 945 rfl rfl
set_option maxRecDepth 100000 in
theorem wd_946 : Cond.selects RX6 yX6_count yX6_count ∈ lw_gd := gd_of 946 rfl rfl
set_option maxRecDepth 100000 in
theorem wd_947 : Cond.code yX6_count cX6_count 2 (some .int) ∈ lw_gd := gd_of 947 rfl rfl
set_option maxRecDepth 100000 in
theorem wd_948 : Cond.methodLink RX6 150 yX6_offers ∈ lw_gd := gd_of 948 rfl rfl
set_option maxRecDepth 100000 in
theorem wd_950 : Cond.instanceMethod yX6_offers ∈ lw_gd := gd_of 950 rfl rfl
set_option maxRecDepth 100000 in
theorem wd_951 : Cond.code yX6_offers cX6_offers 3 (some .int) ∈ lw_gd := gd_of 951 rfl rfl
set_option maxRecDepth 100000 in
theorem wd_952 : Cond.methodLink RX6 153 yX6_lateSet ∈ lw_gd := gd_of 952 rfl rfl
set_option maxRecDepth 100000 in
theorem wd_954 : Cond.instanceMethod yX6_lateSet ∈ lw_gd := gd_of 954 rfl rfl
set_option maxRecDepth 100000 in
theorem wd_955 : Cond.code yX6_lateSet cX6_lateSet 3 (some .int) ∈ lw_gd := gd_of 955 rfl rfl
set_option maxRecDepth 100000 in
theorem wd_956 : Cond.methodLink RX6 156 yX6_endOfAll ∈ lw_gd := gd_of 956 rfl rfl
set_option maxRecDepth 100000 in
theorem wd_958 : Cond.instanceMethod yX6_endOfAll ∈ lw_gd := gd_of 958 rfl rfl
set_option maxRecDepth 100000 in
theorem wd_959 : Cond.code yX6_endOfAll cX6_endOfAll 3 (some .int) ∈ lw_gd := gd_of 959 rfl rfl
set_option maxRecDepth 100000 in
theorem wd_960 : Cond.methodLink RX6 159 yX6_sumOf ∈ lw_gd := gd_of 960 rfl rfl
set_option maxRecDepth 100000 in
theorem wd_962 : Cond.instanceMethod yX6_sumOf ∈ lw_gd := gd_of 962 rfl rfl
set_option maxRecDepth 100000 in
theorem wd_963 : Cond.code yX6_sumOf cX6_sumOf 5 (some .int) ∈ lw_gd := gd_of 963 rfl rfl
set_option maxRecDepth 100000 in
theorem wd_965 : Cond.instanceMethod yX6_wouldBuy ∈ lw_gd := gd_of 965 rfl rfl
set_option maxRecDepth 100000 in
theorem wd_966 : Cond.selects RX6 yX6_wouldBuy yX6_wouldBuy ∈ lw_gd := gd_of 966 rfl rfl
set_option maxRecDepth 100000 in
theorem wd_967 : Cond.code yX6_wouldBuy cX6_wouldBuy 8 (some .int) ∈ lw_gd := gd_of 967 rfl rfl
set_option maxRecDepth 100000 in
theorem wd_968 : Cond.methodLink RX6 165 yX6_putAside ∈ lw_gd := gd_of 968 rfl rfl
set_option maxRecDepth 100000 in
theorem wd_970 : Cond.instanceMethod yX6_putAside ∈ lw_gd := gd_of 970 rfl rfl
set_option maxRecDepth 100000 in
theorem wd_971 : Cond.code yX6_putAside cX6_putAside 2 (none) ∈ lw_gd := gd_of 971 rfl rfl
set_option maxRecDepth 100000 in
theorem wd_972 : Cond.methodLink RX6 168 yX6_bringBack ∈ lw_gd := gd_of 972 rfl rfl
set_option maxRecDepth 100000 in
theorem wd_974 : Cond.instanceMethod yX6_bringBack ∈ lw_gd := gd_of 974 rfl rfl
set_option maxRecDepth 100000 in
theorem wd_975 : Cond.code yX6_bringBack cX6_bringBack 2 (none) ∈ lw_gd := gd_of 975 rfl rfl
set_option maxRecDepth 100000 in
theorem wd_977 : Cond.instanceMethod yX6_leastMoney ∈ lw_gd := gd_of 977 rfl rfl
set_option maxRecDepth 100000 in
theorem wd_978 : Cond.selects RX6 yX6_leastMoney yX6_leastMoney ∈ lw_gd := gd_of 978 rfl rfl
set_option maxRecDepth 100000 in
theorem wd_979 : Cond.code yX6_leastMoney cX6_leastMoney 4 (some .int) ∈ lw_gd := gd_of 979 rfl rfl
set_option maxRecDepth 100000 in
theorem wd_980 : Cond.constant RX6 171 (100000000 : Int32) ∈ lw_gd := gd_of 980 rfl rfl
set_option maxRecDepth 100000 in
theorem wd_982 : Cond.instanceMethod yX6_endIf ∈ lw_gd := gd_of 982 rfl rfl
set_option maxRecDepth 100000 in
theorem wd_983 : Cond.selects RX6 yX6_endIf yX6_endIf ∈ lw_gd := gd_of 983 rfl rfl
set_option maxRecDepth 100000 in
theorem wd_984 : Cond.code yX6_endIf cX6_endIf 5 (some .int) ∈ lw_gd := gd_of 984 rfl rfl
set_option maxRecDepth 100000 in
theorem wd_986 : Cond.instanceMethod yX6_bestPlace ∈ lw_gd := gd_of 986 rfl rfl
set_option maxRecDepth 100000 in
theorem wd_987 : Cond.selects RX6 yX6_bestPlace yX6_bestPlace ∈ lw_gd := gd_of 987 rfl rfl
set_option maxRecDepth 100000 in
theorem wd_988 : Cond.code yX6_bestPlace cX6_bestPlace 9 (some .int) ∈ lw_gd := gd_of 988 rfl rfl
set_option maxRecDepth 100000 in
theorem wd_990 : Cond.instanceMethod yX6_critical ∈ lw_gd := gd_of 990 rfl rfl
set_option maxRecDepth 100000 in
theorem wd_991 : Cond.selects RX6 yX6_critical yX6_critical ∈ lw_gd := gd_of 991 rfl rfl
set_option maxRecDepth 100000 in
theorem wd_992 : Cond.code yX6_critical cX6_critical 6 (some .int) ∈ lw_gd := gd_of 992 rfl rfl
set_option maxRecDepth 100000 in
theorem wd_994 : Cond.instanceMethod yX6_lateBehind ∈ lw_gd := gd_of 994 rfl rfl
set_option maxRecDepth 100000 in
theorem wd_995 : Cond.selects RX6 yX6_lateBehind yX6_lateBehind ∈ lw_gd := gd_of 995 rfl rfl
set_option maxRecDepth 100000 in
theorem wd_996 : Cond.code yX6_lateBehind cX6_lateBehind 2 (some .int) ∈ lw_gd := gd_of 996 rfl rfl
set_option maxRecDepth 100000 in
theorem wd_998 : Cond.instanceMethod yX6_put ∈ lw_gd := gd_of 998 rfl rfl
set_option maxRecDepth 100000 in
theorem wd_999 : Cond.selects RX6 yX6_put yX6_put ∈ lw_gd := gd_of 999 rfl rfl
set_option maxRecDepth 100000 in
theorem wd_1000 : Cond.code yX6_put cX6_put 9 (some .int) ∈ lw_gd := gd_of 1000 rfl rfl
set_option maxRecDepth 100000 in
theorem wd_1001 : Cond.constantLong RX6 172 (255 : Int64) ∈ lw_gd := gd_of 1001 rfl rfl
set_option maxRecDepth 100000 in
theorem wd_1003 : Cond.instanceMethod yX6_wipe ∈ lw_gd := gd_of 1003 rfl rfl
set_option maxRecDepth 100000 in
theorem wd_1004 : Cond.selects RX6 yX6_wipe yX6_wipe ∈ lw_gd := gd_of 1004 rfl rfl
set_option maxRecDepth 100000 in
theorem wd_1005 : Cond.code yX6_wipe cX6_wipe 2 (some .int) ∈ lw_gd := gd_of 1005 rfl rfl
set_option maxRecDepth 100000 in
theorem wd_1007 : Cond.instanceMethod yX6_fault ∈ lw_gd := gd_of 1007 rfl rfl
set_option maxRecDepth 100000 in
theorem wd_1008 : Cond.selects RX6 yX6_fault yX6_fault ∈ lw_gd := gd_of 1008 rfl rfl
set_option maxRecDepth 100000 in
theorem wd_1009 : Cond.code yX6_fault cX6_fault 1 (some .int) ∈ lw_gd := gd_of 1009 rfl rfl
set_option maxRecDepth 100000 in
theorem wd_1010 : Cond.methodLink RX6 210 yX6_readPad ∈ lw_gd := gd_of 1010 rfl rfl
set_option maxRecDepth 100000 in
theorem wd_1012 : Cond.instanceMethod yX6_readPad ∈ lw_gd := gd_of 1012 rfl rfl
set_option maxRecDepth 100000 in
theorem wd_1013 : Cond.code yX6_readPad cX6_readPad 2 (none) ∈ lw_gd := gd_of 1013 rfl rfl
set_option maxRecDepth 100000 in
theorem wd_1014 : Cond.methodLink RX6 207 yX6_readOrder ∈ lw_gd := gd_of 1014 rfl rfl
set_option maxRecDepth 100000 in
theorem wd_1016 : Cond.instanceMethod yX6_readOrder ∈ lw_gd := gd_of 1016 rfl rfl
set_option maxRecDepth 100000 in
theorem wd_1017 : Cond.code yX6_readOrder cX6_readOrder 3 (none) ∈ lw_gd := gd_of 1017 rfl rfl
set_option maxRecDepth 100000 in
theorem wd_1018 : Cond.methodLink RX6 174 yX6_letter ∈ lw_gd := gd_of 1018 rfl rfl
set_option maxRecDepth 100000 in
theorem wd_1020 : Cond.instanceMethod yX6_letter ∈ lw_gd := gd_of 1020 rfl rfl
set_option maxRecDepth 100000 in
theorem wd_1021 : Cond.code yX6_letter cX6_letter 2 (some .int) ∈ lw_gd := gd_of 1021 rfl rfl
set_option maxRecDepth 100000 in
theorem wd_1022 : Cond.methodLink RX6 198 yX6_readTask ∈ lw_gd := gd_of 1022 rfl rfl
set_option maxRecDepth 100000 in
theorem wd_1024 : Cond.instanceMethod yX6_readTask ∈ lw_gd := gd_of 1024 rfl rfl
set_option maxRecDepth 100000 in
theorem wd_1025 : Cond.code yX6_readTask cX6_readTask 2 (none) ∈ lw_gd := gd_of 1025 rfl rfl
set_option maxRecDepth 100000 in
theorem wd_1026 : Cond.methodLink RX6 189 yX6_takesMachine ∈ lw_gd := gd_of 1026 rfl rfl
set_option maxRecDepth 100000 in
theorem wd_1028 : Cond.instanceMethod yX6_takesMachine ∈ lw_gd := gd_of 1028 rfl rfl
set_option maxRecDepth 100000 in
theorem wd_1029 : Cond.code yX6_takesMachine cX6_takesMachine 1 (some .int) ∈ lw_gd := gd_of 1029 rfl rfl
set_option maxRecDepth 100000 in
theorem wd_1030 : Cond.methodLink RX6 183 yX6_fail ∈ lw_gd := gd_of 1030 rfl rfl
set_option maxRecDepth 100000 in
theorem wd_1032 : Cond.instanceMethod yX6_fail ∈ lw_gd := gd_of 1032 rfl rfl
set_option maxRecDepth 100000 in
theorem wd_1033 : Cond.code yX6_fail cX6_fail 1 (none) ∈ lw_gd := gd_of 1033 rfl rfl
set_option maxRecDepth 100000 in
theorem wd_1034 : Cond.methodLink RX6 192 yX6_takes ∈ lw_gd := gd_of 1034 rfl rfl
set_option maxRecDepth 100000 in
theorem wd_1036 : Cond.instanceMethod yX6_takes ∈ lw_gd := gd_of 1036 rfl rfl
set_option maxRecDepth 100000 in
theorem wd_1037 : Cond.code yX6_takes cX6_takes 2 (none) ∈ lw_gd := gd_of 1037 rfl rfl
set_option maxRecDepth 100000 in
theorem wd_1038 : Cond.methodLink RX6 195 yX6_takesNumber ∈ lw_gd := gd_of 1038 rfl rfl
set_option maxRecDepth 100000 in
theorem wd_1040 : Cond.instanceMethod yX6_takesNumber ∈ lw_gd := gd_of 1040 rfl rfl
set_option maxRecDepth 100000 in
theorem wd_1041 : Cond.code yX6_takesNumber cX6_takesNumber 3 (some .int) ∈ lw_gd := gd_of 1041 rfl rfl
set_option maxRecDepth 100000 in
theorem wd_1042 : Cond.methodLink RX6 186 yX6_isDigit ∈ lw_gd := gd_of 1042 rfl rfl
set_option maxRecDepth 100000 in
theorem wd_1044 : Cond.instanceMethod yX6_isDigit ∈ lw_gd := gd_of 1044 rfl rfl
set_option maxRecDepth 100000 in
theorem wd_1045 : Cond.code yX6_isDigit cX6_isDigit 2 (some .boolean) ∈ lw_gd := gd_of 1045 rfl rfl
set_option maxRecDepth 100000 in
theorem wd_1046 : Cond.methodLink RX6 201 yX6_readTwo ∈ lw_gd := gd_of 1046 rfl rfl
set_option maxRecDepth 100000 in
theorem wd_1048 : Cond.instanceMethod yX6_readTwo ∈ lw_gd := gd_of 1048 rfl rfl
set_option maxRecDepth 100000 in
theorem wd_1049 : Cond.code yX6_readTwo cX6_readTwo 3 (none) ∈ lw_gd := gd_of 1049 rfl rfl
set_option maxRecDepth 100000 in
theorem wd_1051 : Cond.instanceMethod yX6_carryOut ∈ lw_gd := gd_of 1051 rfl rfl
set_option maxRecDepth 100000 in
theorem wd_1052 : Cond.selects RX6 yX6_carryOut yX6_carryOut ∈ lw_gd := gd_of 1052 rfl rfl
set_option maxRecDepth 100000 in
theorem wd_1053 : Cond.code yX6_carryOut cX6_carryOut 2 (some .int) ∈ lw_gd := gd_of 1053 rfl rfl
set_option maxRecDepth 100000 in
theorem wd_1054 : Cond.methodLink RX6 233 yX6_does ∈ lw_gd := gd_of 1054 rfl rfl
set_option maxRecDepth 100000 in
theorem wd_1056 : Cond.instanceMethod yX6_does ∈ lw_gd := gd_of 1056 rfl rfl
set_option maxRecDepth 100000 in
theorem wd_1057 : Cond.code yX6_does cX6_does 4 (some .int) ∈ lw_gd := gd_of 1057 rfl rfl
set_option maxRecDepth 100000 in
theorem wd_1058 : Cond.methodLink RX6 213 yX6_task ∈ lw_gd := gd_of 1058 rfl rfl
set_option maxRecDepth 100000 in
theorem wd_1059 : Cond.methodLink RX6 217 yX6_duration ∈ lw_gd := gd_of 1059 rfl rfl
set_option maxRecDepth 100000 in
theorem wd_1060 : Cond.methodLink RX6 220 yX6_offer ∈ lw_gd := gd_of 1060 rfl rfl
set_option maxRecDepth 100000 in
theorem wd_1061 : Cond.methodLink RX6 224 yX6_move ∈ lw_gd := gd_of 1061 rfl rfl
set_option maxRecDepth 100000 in
theorem wd_1062 : Cond.methodLink RX6 227 yX6_refund ∈ lw_gd := gd_of 1062 rfl rfl
set_option maxRecDepth 100000 in
theorem wd_1063 : Cond.methodLink RX6 230 yX6_trade ∈ lw_gd := gd_of 1063 rfl rfl
