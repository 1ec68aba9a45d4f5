section
-- ===== PART A: goes FIRST, ahead of the names: the tables' words, and 'selects' of the private methods out of them =====
/-- a private method of a class that the tables say can be made, by its rows of tables_1 -/
def lw_okq (q : MethodName × Nat) : Prop := (q.1.cls ≠ "java/lang/invoke/MethodHandle" ∧ q.1.cls ≠ "java/lang/invoke/VarHandle") ∧ Cond.instantiable q.1.cls q.2 ∈ tables_1 ∧ Cond.privateMethod q.1 ∈ tables_1 ∧ Cond.instanceMethod q.1 ∈ tables_1
theorem lw_p0 : lw_okq (⟨"SlackMarket$Plan", "scheduleRow", "(II)I"⟩, 10) := ⟨⟨by decide +kernel, by decide +kernel⟩, List.mem_of_getElem? (i := 25) (by decide +kernel), List.mem_of_getElem? (i := 256) (by decide +kernel), List.mem_of_getElem? (i := 257) (by decide +kernel)⟩
theorem lw_p1 : lw_okq (⟨"SlackMarket$Market", "setOffer", "(III)V"⟩, 9) := ⟨⟨by decide +kernel, by decide +kernel⟩, List.mem_of_getElem? (i := 19) (by decide +kernel), List.mem_of_getElem? (i := 305) (by decide +kernel), List.mem_of_getElem? (i := 306) (by decide +kernel)⟩
theorem lw_p2 : lw_okq (⟨"SlackMarket$Market", "latestExcept", "(I)I"⟩, 9) := ⟨⟨by decide +kernel, by decide +kernel⟩, List.mem_of_getElem? (i := 19) (by decide +kernel), List.mem_of_getElem? (i := 317) (by decide +kernel), List.mem_of_getElem? (i := 318) (by decide +kernel)⟩
theorem lw_p3 : lw_okq (⟨"SlackMarket$Plan", "linkFrom", "(I)V"⟩, 10) := ⟨⟨by decide +kernel, by decide +kernel⟩, List.mem_of_getElem? (i := 25) (by decide +kernel), List.mem_of_getElem? (i := 334) (by decide +kernel), List.mem_of_getElem? (i := 335) (by decide +kernel)⟩
theorem lw_p4 : lw_okq (⟨"SlackMarket$Market", "bestSellerExcept", "(I)I"⟩, 9) := ⟨⟨by decide +kernel, by decide +kernel⟩, List.mem_of_getElem? (i := 19) (by decide +kernel), List.mem_of_getElem? (i := 338) (by decide +kernel), List.mem_of_getElem? (i := 339) (by decide +kernel)⟩
theorem lw_p5 : lw_okq (⟨"SlackMarket$Market", "isInReach", "(I)Z"⟩, 9) := ⟨⟨by decide +kernel, by decide +kernel⟩, List.mem_of_getElem? (i := 19) (by decide +kernel), List.mem_of_getElem? (i := 342) (by decide +kernel), List.mem_of_getElem? (i := 343) (by decide +kernel)⟩
theorem lw_p6 : lw_okq (⟨"SlackMarket$Market", "isBetterSeller", "(II)Z"⟩, 9) := ⟨⟨by decide +kernel, by decide +kernel⟩, List.mem_of_getElem? (i := 19) (by decide +kernel), List.mem_of_getElem? (i := 346) (by decide +kernel), List.mem_of_getElem? (i := 347) (by decide +kernel)⟩
theorem lw_p7 : lw_okq (⟨"SlackMarket$Market", "buyFrom", "(II)V"⟩, 9) := ⟨⟨by decide +kernel, by decide +kernel⟩, List.mem_of_getElem? (i := 19) (by decide +kernel), List.mem_of_getElem? (i := 350) (by decide +kernel), List.mem_of_getElem? (i := 351) (by decide +kernel)⟩
theorem lw_p8 : lw_okq (⟨"SlackMarket$Contracts", "remove", "(I)V"⟩, 5) := ⟨⟨by decide +kernel, by decide +kernel⟩, List.mem_of_getElem? (i := 73) (by decide +kernel), List.mem_of_getElem? (i := 386) (by decide +kernel), List.mem_of_getElem? (i := 387) (by decide +kernel)⟩
theorem lw_p9 : lw_okq (⟨"SlackMarket$Market", "slackOf", "(I)I"⟩, 9) := ⟨⟨by decide +kernel, by decide +kernel⟩, List.mem_of_getElem? (i := 19) (by decide +kernel), List.mem_of_getElem? (i := 411) (by decide +kernel), List.mem_of_getElem? (i := 412) (by decide +kernel)⟩
theorem lw_p10 : lw_okq (⟨"SlackMarket$Market", "lowerLatestEnd", "(II)V"⟩, 9) := ⟨⟨by decide +kernel, by decide +kernel⟩, List.mem_of_getElem? (i := 19) (by decide +kernel), List.mem_of_getElem? (i := 423) (by decide +kernel), List.mem_of_getElem? (i := 424) (by decide +kernel)⟩
theorem lw_p11 : lw_okq (⟨"SlackMarket$Market", "offers", "()I"⟩, 9) := ⟨⟨by decide +kernel, by decide +kernel⟩, List.mem_of_getElem? (i := 19) (by decide +kernel), List.mem_of_getElem? (i := 471) (by decide +kernel), List.mem_of_getElem? (i := 472) (by decide +kernel)⟩
theorem lw_p12 : lw_okq (⟨"SlackMarket$Market", "lateTasks", "()I"⟩, 9) := ⟨⟨by decide +kernel, by decide +kernel⟩, List.mem_of_getElem? (i := 19) (by decide +kernel), List.mem_of_getElem? (i := 475) (by decide +kernel), List.mem_of_getElem? (i := 476) (by decide +kernel)⟩
theorem lw_p13 : lw_okq (⟨"SlackMarket$Market", "allMoney", "()I"⟩, 9) := ⟨⟨by decide +kernel, by decide +kernel⟩, List.mem_of_getElem? (i := 19) (by decide +kernel), List.mem_of_getElem? (i := 483) (by decide +kernel), List.mem_of_getElem? (i := 484) (by decide +kernel)⟩
theorem lw_p14 : lw_okq (⟨"SlackMarket$Plan", "waitedFor", "(I)I"⟩, 10) := ⟨⟨by decide +kernel, by decide +kernel⟩, List.mem_of_getElem? (i := 25) (by decide +kernel), List.mem_of_getElem? (i := 535) (by decide +kernel), List.mem_of_getElem? (i := 536) (by decide +kernel)⟩
theorem lw_p15 : lw_okq (⟨"SlackMarket$Pad", "here", "()I"⟩, 6) := ⟨⟨by decide +kernel, by decide +kernel⟩, List.mem_of_getElem? (i := 153) (by decide +kernel), List.mem_of_getElem? (i := 581) (by decide +kernel), List.mem_of_getElem? (i := 582) (by decide +kernel)⟩
def lw_privs_1 : List (MethodName × Nat) := [(⟨"SlackMarket$Plan", "scheduleRow", "(II)I"⟩, 10), (⟨"SlackMarket$Market", "setOffer", "(III)V"⟩, 9), (⟨"SlackMarket$Market", "latestExcept", "(I)I"⟩, 9), (⟨"SlackMarket$Plan", "linkFrom", "(I)V"⟩, 10), (⟨"SlackMarket$Market", "bestSellerExcept", "(I)I"⟩, 9), (⟨"SlackMarket$Market", "isInReach", "(I)Z"⟩, 9), (⟨"SlackMarket$Market", "isBetterSeller", "(II)Z"⟩, 9), (⟨"SlackMarket$Market", "buyFrom", "(II)V"⟩, 9), (⟨"SlackMarket$Contracts", "remove", "(I)V"⟩, 5), (⟨"SlackMarket$Market", "slackOf", "(I)I"⟩, 9), (⟨"SlackMarket$Market", "lowerLatestEnd", "(II)V"⟩, 9), (⟨"SlackMarket$Market", "offers", "()I"⟩, 9), (⟨"SlackMarket$Market", "lateTasks", "()I"⟩, 9), (⟨"SlackMarket$Market", "allMoney", "()I"⟩, 9), (⟨"SlackMarket$Plan", "waitedFor", "(I)I"⟩, 10), (⟨"SlackMarket$Pad", "here", "()I"⟩, 6)]
theorem lw_r1 : ∀ q ∈ lw_privs_1, lw_okq q := List.forall_mem_cons.mpr ⟨lw_p0, List.forall_mem_cons.mpr ⟨lw_p1, List.forall_mem_cons.mpr ⟨lw_p2, List.forall_mem_cons.mpr ⟨lw_p3, List.forall_mem_cons.mpr ⟨lw_p4, List.forall_mem_cons.mpr ⟨lw_p5, List.forall_mem_cons.mpr ⟨lw_p6, List.forall_mem_cons.mpr ⟨lw_p7, List.forall_mem_cons.mpr ⟨lw_p8, List.forall_mem_cons.mpr ⟨lw_p9, List.forall_mem_cons.mpr ⟨lw_p10, List.forall_mem_cons.mpr ⟨lw_p11, List.forall_mem_cons.mpr ⟨lw_p12, List.forall_mem_cons.mpr ⟨lw_p13, List.forall_mem_cons.mpr ⟨lw_p14, List.forall_mem_cons.mpr ⟨lw_p15, fun _ h => absurd h List.not_mem_nil⟩⟩⟩⟩⟩⟩⟩⟩⟩⟩⟩⟩⟩⟩⟩⟩
theorem lw_p16 : lw_okq (⟨"SlackMarket$Pad", "readSign", "(C)Z"⟩, 6) := ⟨⟨by decide +kernel, by decide +kernel⟩, List.mem_of_getElem? (i := 153) (by decide +kernel), List.mem_of_getElem? (i := 585) (by decide +kernel), List.mem_of_getElem? (i := 586) (by decide +kernel)⟩
theorem lw_p17 : lw_okq (⟨"SlackMarket$Pad", "readTask", "()Z"⟩, 6) := ⟨⟨by decide +kernel, by decide +kernel⟩, List.mem_of_getElem? (i := 153) (by decide +kernel), List.mem_of_getElem? (i := 589) (by decide +kernel), List.mem_of_getElem? (i := 590) (by decide +kernel)⟩
theorem lw_p18 : lw_okq (⟨"SlackMarket$Pad", "readDigit", "()Z"⟩, 6) := ⟨⟨by decide +kernel, by decide +kernel⟩, List.mem_of_getElem? (i := 153) (by decide +kernel), List.mem_of_getElem? (i := 593) (by decide +kernel), List.mem_of_getElem? (i := 594) (by decide +kernel)⟩
theorem lw_p19 : lw_okq (⟨"SlackMarket$Pad", "isDigit", "()Z"⟩, 6) := ⟨⟨by decide +kernel, by decide +kernel⟩, List.mem_of_getElem? (i := 153) (by decide +kernel), List.mem_of_getElem? (i := 597) (by decide +kernel), List.mem_of_getElem? (i := 598) (by decide +kernel)⟩
theorem lw_p20 : lw_okq (⟨"SlackMarket$Pad", "keep", "(I)Z"⟩, 6) := ⟨⟨by decide +kernel, by decide +kernel⟩, List.mem_of_getElem? (i := 153) (by decide +kernel), List.mem_of_getElem? (i := 601) (by decide +kernel), List.mem_of_getElem? (i := 602) (by decide +kernel)⟩
theorem lw_p21 : lw_okq (⟨"SlackMarket$Pad", "readNumber", "()Z"⟩, 6) := ⟨⟨by decide +kernel, by decide +kernel⟩, List.mem_of_getElem? (i := 153) (by decide +kernel), List.mem_of_getElem? (i := 605) (by decide +kernel), List.mem_of_getElem? (i := 606) (by decide +kernel)⟩
theorem lw_p22 : lw_okq (⟨"SlackMarket$Pad", "readPair", "(C)Z"⟩, 6) := ⟨⟨by decide +kernel, by decide +kernel⟩, List.mem_of_getElem? (i := 153) (by decide +kernel), List.mem_of_getElem? (i := 609) (by decide +kernel), List.mem_of_getElem? (i := 610) (by decide +kernel)⟩
theorem lw_p23 : lw_okq (⟨"SlackMarket", "carryOrders", "()I"⟩, 6) := ⟨⟨by decide +kernel, by decide +kernel⟩, List.mem_of_getElem? (i := 11) (by decide +kernel), List.mem_of_getElem? (i := 621) (by decide +kernel), List.mem_of_getElem? (i := 622) (by decide +kernel)⟩
theorem lw_p24 : lw_okq (⟨"SlackMarket", "carryOrder", "()I"⟩, 6) := ⟨⟨by decide +kernel, by decide +kernel⟩, List.mem_of_getElem? (i := 11) (by decide +kernel), List.mem_of_getElem? (i := 627) (by decide +kernel), List.mem_of_getElem? (i := 628) (by decide +kernel)⟩
theorem lw_p25 : lw_okq (⟨"SlackMarketModel", "record", "()V"⟩, 19) := ⟨⟨by decide +kernel, by decide +kernel⟩, List.mem_of_getElem? (i := 648) (by decide +kernel), List.mem_of_getElem? (i := 727) (by decide +kernel), List.mem_of_getElem? (i := 728) (by decide +kernel)⟩
theorem lw_p26 : lw_okq (⟨"SlackMarketModel", "isTask", "(I)Z"⟩, 19) := ⟨⟨by decide +kernel, by decide +kernel⟩, List.mem_of_getElem? (i := 648) (by decide +kernel), List.mem_of_getElem? (i := 739) (by decide +kernel), List.mem_of_getElem? (i := 740) (by decide +kernel)⟩
theorem lw_p27 : lw_okq (⟨"SlackMarketModel", "manyOn", "(I)I"⟩, 19) := ⟨⟨by decide +kernel, by decide +kernel⟩, List.mem_of_getElem? (i := 648) (by decide +kernel), List.mem_of_getElem? (i := 744) (by decide +kernel), List.mem_of_getElem? (i := 745) (by decide +kernel)⟩
theorem lw_p28 : lw_okq (⟨"SlackMarketModel", "putAt", "(II)V"⟩, 19) := ⟨⟨by decide +kernel, by decide +kernel⟩, List.mem_of_getElem? (i := 648) (by decide +kernel), List.mem_of_getElem? (i := 756) (by decide +kernel), List.mem_of_getElem? (i := 757) (by decide +kernel)⟩
theorem lw_p29 : lw_okq (⟨"SlackMarketModel", "reckon", "()Z"⟩, 19) := ⟨⟨by decide +kernel, by decide +kernel⟩, List.mem_of_getElem? (i := 648) (by decide +kernel), List.mem_of_getElem? (i := 760) (by decide +kernel), List.mem_of_getElem? (i := 761) (by decide +kernel)⟩
theorem lw_p30 : lw_okq (⟨"SlackMarketModel", "endOf", "(I)I"⟩, 19) := ⟨⟨by decide +kernel, by decide +kernel⟩, List.mem_of_getElem? (i := 648) (by decide +kernel), List.mem_of_getElem? (i := 764) (by decide +kernel), List.mem_of_getElem? (i := 765) (by decide +kernel)⟩
theorem lw_p31 : lw_okq (⟨"SlackMarketModel", "taskAt", "(II)I"⟩, 19) := ⟨⟨by decide +kernel, by decide +kernel⟩, List.mem_of_getElem? (i := 648) (by decide +kernel), List.mem_of_getElem? (i := 768) (by decide +kernel), List.mem_of_getElem? (i := 769) (by decide +kernel)⟩
def lw_privs_2 : List (MethodName × Nat) := [(⟨"SlackMarket$Pad", "readSign", "(C)Z"⟩, 6), (⟨"SlackMarket$Pad", "readTask", "()Z"⟩, 6), (⟨"SlackMarket$Pad", "readDigit", "()Z"⟩, 6), (⟨"SlackMarket$Pad", "isDigit", "()Z"⟩, 6), (⟨"SlackMarket$Pad", "keep", "(I)Z"⟩, 6), (⟨"SlackMarket$Pad", "readNumber", "()Z"⟩, 6), (⟨"SlackMarket$Pad", "readPair", "(C)Z"⟩, 6), (⟨"SlackMarket", "carryOrders", "()I"⟩, 6), (⟨"SlackMarket", "carryOrder", "()I"⟩, 6), (⟨"SlackMarketModel", "record", "()V"⟩, 19), (⟨"SlackMarketModel", "isTask", "(I)Z"⟩, 19), (⟨"SlackMarketModel", "manyOn", "(I)I"⟩, 19), (⟨"SlackMarketModel", "putAt", "(II)V"⟩, 19), (⟨"SlackMarketModel", "reckon", "()Z"⟩, 19), (⟨"SlackMarketModel", "endOf", "(I)I"⟩, 19), (⟨"SlackMarketModel", "taskAt", "(II)I"⟩, 19)]
theorem lw_r2 : ∀ q ∈ lw_privs_2, lw_okq q := List.forall_mem_cons.mpr ⟨lw_p16, List.forall_mem_cons.mpr ⟨lw_p17, List.forall_mem_cons.mpr ⟨lw_p18, List.forall_mem_cons.mpr ⟨lw_p19, List.forall_mem_cons.mpr ⟨lw_p20, List.forall_mem_cons.mpr ⟨lw_p21, List.forall_mem_cons.mpr ⟨lw_p22, List.forall_mem_cons.mpr ⟨lw_p23, List.forall_mem_cons.mpr ⟨lw_p24, List.forall_mem_cons.mpr ⟨lw_p25, List.forall_mem_cons.mpr ⟨lw_p26, List.forall_mem_cons.mpr ⟨lw_p27, List.forall_mem_cons.mpr ⟨lw_p28, List.forall_mem_cons.mpr ⟨lw_p29, List.forall_mem_cons.mpr ⟨lw_p30, List.forall_mem_cons.mpr ⟨lw_p31, fun _ h => absurd h List.not_mem_nil⟩⟩⟩⟩⟩⟩⟩⟩⟩⟩⟩⟩⟩⟩⟩⟩
theorem lw_p32 : lw_okq (⟨"SlackMarketModel", "measure", "(I)V"⟩, 19) := ⟨⟨by decide +kernel, by decide +kernel⟩, List.mem_of_getElem? (i := 648) (by decide +kernel), List.mem_of_getElem? (i := 776) (by decide +kernel), List.mem_of_getElem? (i := 777) (by decide +kernel)⟩
theorem lw_p33 : lw_okq (⟨"SlackMarketModel", "areLinked", "(II)Z"⟩, 19) := ⟨⟨by decide +kernel, by decide +kernel⟩, List.mem_of_getElem? (i := 648) (by decide +kernel), List.mem_of_getElem? (i := 780) (by decide +kernel), List.mem_of_getElem? (i := 781) (by decide +kernel)⟩
theorem lw_p34 : lw_okq (⟨"SlackMarketModel", "tradeAll", "()V"⟩, 19) := ⟨⟨by decide +kernel, by decide +kernel⟩, List.mem_of_getElem? (i := 648) (by decide +kernel), List.mem_of_getElem? (i := 792) (by decide +kernel), List.mem_of_getElem? (i := 793) (by decide +kernel)⟩
theorem lw_p35 : lw_okq (⟨"SlackMarketModel", "late", "(I)I"⟩, 19) := ⟨⟨by decide +kernel, by decide +kernel⟩, List.mem_of_getElem? (i := 648) (by decide +kernel), List.mem_of_getElem? (i := 796) (by decide +kernel), List.mem_of_getElem? (i := 797) (by decide +kernel)⟩
theorem lw_p36 : lw_okq (⟨"SlackMarketModel", "buys", "(I)V"⟩, 19) := ⟨⟨by decide +kernel, by decide +kernel⟩, List.mem_of_getElem? (i := 648) (by decide +kernel), List.mem_of_getElem? (i := 800) (by decide +kernel), List.mem_of_getElem? (i := 801) (by decide +kernel)⟩
theorem lw_p37 : lw_okq (⟨"SlackMarketModel", "nextOffer", "(II)I"⟩, 19) := ⟨⟨by decide +kernel, by decide +kernel⟩, List.mem_of_getElem? (i := 648) (by decide +kernel), List.mem_of_getElem? (i := 804) (by decide +kernel), List.mem_of_getElem? (i := 805) (by decide +kernel)⟩
theorem lw_p38 : lw_okq (⟨"SlackMarketModel", "isSooner", "(II)Z"⟩, 19) := ⟨⟨by decide +kernel, by decide +kernel⟩, List.mem_of_getElem? (i := 648) (by decide +kernel), List.mem_of_getElem? (i := 808) (by decide +kernel), List.mem_of_getElem? (i := 809) (by decide +kernel)⟩
theorem lw_p39 : lw_okq (⟨"SlackMarketModel", "hoursOf", "(II)I"⟩, 19) := ⟨⟨by decide +kernel, by decide +kernel⟩, List.mem_of_getElem? (i := 648) (by decide +kernel), List.mem_of_getElem? (i := 812) (by decide +kernel), List.mem_of_getElem? (i := 813) (by decide +kernel)⟩
theorem lw_p40 : lw_okq (⟨"SlackMarketModel", "spared", "(I)I"⟩, 19) := ⟨⟨by decide +kernel, by decide +kernel⟩, List.mem_of_getElem? (i := 648) (by decide +kernel), List.mem_of_getElem? (i := 819) (by decide +kernel), List.mem_of_getElem? (i := 820) (by decide +kernel)⟩
theorem lw_p41 : lw_okq (⟨"SlackMarketModel", "agree", "(III)V"⟩, 19) := ⟨⟨by decide +kernel, by decide +kernel⟩, List.mem_of_getElem? (i := 648) (by decide +kernel), List.mem_of_getElem? (i := 823) (by decide +kernel), List.mem_of_getElem? (i := 824) (by decide +kernel)⟩
theorem lw_p42 : lw_okq (⟨"SlackMarketModel", "isContract", "(I)Z"⟩, 19) := ⟨⟨by decide +kernel, by decide +kernel⟩, List.mem_of_getElem? (i := 648) (by decide +kernel), List.mem_of_getElem? (i := 831) (by decide +kernel), List.mem_of_getElem? (i := 832) (by decide +kernel)⟩
theorem lw_p43 : lw_okq (⟨"SlackMarketModel", "dropContract", "(I)V"⟩, 19) := ⟨⟨by decide +kernel, by decide +kernel⟩, List.mem_of_getElem? (i := 648) (by decide +kernel), List.mem_of_getElem? (i := 835) (by decide +kernel), List.mem_of_getElem? (i := 836) (by decide +kernel)⟩
theorem lw_p44 : lw_okq (⟨"SlackMarketModel", "slack", "(I)I"⟩, 19) := ⟨⟨by decide +kernel, by decide +kernel⟩, List.mem_of_getElem? (i := 648) (by decide +kernel), List.mem_of_getElem? (i := 847) (by decide +kernel), List.mem_of_getElem? (i := 848) (by decide +kernel)⟩
theorem lw_p45 : lw_okq (⟨"SlackMarketModel", "canBeHeld", "(II)Z"⟩, 19) := ⟨⟨by decide +kernel, by decide +kernel⟩, List.mem_of_getElem? (i := 648) (by decide +kernel), List.mem_of_getElem? (i := 851) (by decide +kernel), List.mem_of_getElem? (i := 852) (by decide +kernel)⟩
theorem lw_p46 : lw_okq (⟨"SlackMarketModel", "lateTogether", "()I"⟩, 19) := ⟨⟨by decide +kernel, by decide +kernel⟩, List.mem_of_getElem? (i := 648) (by decide +kernel), List.mem_of_getElem? (i := 855) (by decide +kernel), List.mem_of_getElem? (i := 856) (by decide +kernel)⟩
theorem lw_p47 : lw_okq (⟨"SlackMarketModel", "hoursBy", "(II)I"⟩, 19) := ⟨⟨by decide +kernel, by decide +kernel⟩, List.mem_of_getElem? (i := 648) (by decide +kernel), List.mem_of_getElem? (i := 859) (by decide +kernel), List.mem_of_getElem? (i := 860) (by decide +kernel)⟩
def lw_privs_3 : List (MethodName × Nat) := [(⟨"SlackMarketModel", "measure", "(I)V"⟩, 19), (⟨"SlackMarketModel", "areLinked", "(II)Z"⟩, 19), (⟨"SlackMarketModel", "tradeAll", "()V"⟩, 19), (⟨"SlackMarketModel", "late", "(I)I"⟩, 19), (⟨"SlackMarketModel", "buys", "(I)V"⟩, 19), (⟨"SlackMarketModel", "nextOffer", "(II)I"⟩, 19), (⟨"SlackMarketModel", "isSooner", "(II)Z"⟩, 19), (⟨"SlackMarketModel", "hoursOf", "(II)I"⟩, 19), (⟨"SlackMarketModel", "spared", "(I)I"⟩, 19), (⟨"SlackMarketModel", "agree", "(III)V"⟩, 19), (⟨"SlackMarketModel", "isContract", "(I)Z"⟩, 19), (⟨"SlackMarketModel", "dropContract", "(I)V"⟩, 19), (⟨"SlackMarketModel", "slack", "(I)I"⟩, 19), (⟨"SlackMarketModel", "canBeHeld", "(II)Z"⟩, 19), (⟨"SlackMarketModel", "lateTogether", "()I"⟩, 19), (⟨"SlackMarketModel", "hoursBy", "(II)I"⟩, 19)]
theorem lw_r3 : ∀ q ∈ lw_privs_3, lw_okq q := List.forall_mem_cons.mpr ⟨lw_p32, List.forall_mem_cons.mpr ⟨lw_p33, List.forall_mem_cons.mpr ⟨lw_p34, List.forall_mem_cons.mpr ⟨lw_p35, List.forall_mem_cons.mpr ⟨lw_p36, List.forall_mem_cons.mpr ⟨lw_p37, List.forall_mem_cons.mpr ⟨lw_p38, List.forall_mem_cons.mpr ⟨lw_p39, List.forall_mem_cons.mpr ⟨lw_p40, List.forall_mem_cons.mpr ⟨lw_p41, List.forall_mem_cons.mpr ⟨lw_p42, List.forall_mem_cons.mpr ⟨lw_p43, List.forall_mem_cons.mpr ⟨lw_p44, List.forall_mem_cons.mpr ⟨lw_p45, List.forall_mem_cons.mpr ⟨lw_p46, List.forall_mem_cons.mpr ⟨lw_p47, fun _ h => absurd h List.not_mem_nil⟩⟩⟩⟩⟩⟩⟩⟩⟩⟩⟩⟩⟩⟩⟩⟩
theorem lw_p48 : lw_okq (⟨"SlackMarketModel", "behind", "(I)I"⟩, 19) := ⟨⟨by decide +kernel, by decide +kernel⟩, List.mem_of_getElem? (i := 648) (by decide +kernel), List.mem_of_getElem? (i := 863) (by decide +kernel), List.mem_of_getElem? (i := 864) (by decide +kernel)⟩
theorem lw_p49 : lw_okq (⟨"SlackMarketModel", "offers", "()I"⟩, 19) := ⟨⟨by decide +kernel, by decide +kernel⟩, List.mem_of_getElem? (i := 648) (by decide +kernel), List.mem_of_getElem? (i := 888) (by decide +kernel), List.mem_of_getElem? (i := 889) (by decide +kernel)⟩
theorem lw_p50 : lw_okq (⟨"SlackMarketModel", "lateSet", "()I"⟩, 19) := ⟨⟨by decide +kernel, by decide +kernel⟩, List.mem_of_getElem? (i := 648) (by decide +kernel), List.mem_of_getElem? (i := 892) (by decide +kernel), List.mem_of_getElem? (i := 893) (by decide +kernel)⟩
theorem lw_p51 : lw_okq (⟨"SlackMarketModel", "endOfAll", "()I"⟩, 19) := ⟨⟨by decide +kernel, by decide +kernel⟩, List.mem_of_getElem? (i := 648) (by decide +kernel), List.mem_of_getElem? (i := 896) (by decide +kernel), List.mem_of_getElem? (i := 897) (by decide +kernel)⟩
theorem lw_p52 : lw_okq (⟨"SlackMarketModel", "sumOf", "(II)I"⟩, 19) := ⟨⟨by decide +kernel, by decide +kernel⟩, List.mem_of_getElem? (i := 648) (by decide +kernel), List.mem_of_getElem? (i := 900) (by decide +kernel), List.mem_of_getElem? (i := 901) (by decide +kernel)⟩
theorem lw_p53 : lw_okq (⟨"SlackMarketModel", "putAside", "()V"⟩, 19) := ⟨⟨by decide +kernel, by decide +kernel⟩, List.mem_of_getElem? (i := 648) (by decide +kernel), List.mem_of_getElem? (i := 908) (by decide +kernel), List.mem_of_getElem? (i := 909) (by decide +kernel)⟩
theorem lw_p54 : lw_okq (⟨"SlackMarketModel", "bringBack", "()V"⟩, 19) := ⟨⟨by decide +kernel, by decide +kernel⟩, List.mem_of_getElem? (i := 648) (by decide +kernel), List.mem_of_getElem? (i := 912) (by decide +kernel), List.mem_of_getElem? (i := 913) (by decide +kernel)⟩
theorem lw_p55 : lw_okq (⟨"SlackMarketModel", "readPad", "()V"⟩, 19) := ⟨⟨by decide +kernel, by decide +kernel⟩, List.mem_of_getElem? (i := 648) (by decide +kernel), List.mem_of_getElem? (i := 950) (by decide +kernel), List.mem_of_getElem? (i := 951) (by decide +kernel)⟩
theorem lw_p56 : lw_okq (⟨"SlackMarketModel", "readOrder", "(I)V"⟩, 19) := ⟨⟨by decide +kernel, by decide +kernel⟩, List.mem_of_getElem? (i := 648) (by decide +kernel), List.mem_of_getElem? (i := 954) (by decide +kernel), List.mem_of_getElem? (i := 955) (by decide +kernel)⟩
theorem lw_p57 : lw_okq (⟨"SlackMarketModel", "letter", "(I)I"⟩, 19) := ⟨⟨by decide +kernel, by decide +kernel⟩, List.mem_of_getElem? (i := 648) (by decide +kernel), List.mem_of_getElem? (i := 958) (by decide +kernel), List.mem_of_getElem? (i := 959) (by decide +kernel)⟩
theorem lw_p58 : lw_okq (⟨"SlackMarketModel", "readTask", "(I)V"⟩, 19) := ⟨⟨by decide +kernel, by decide +kernel⟩, List.mem_of_getElem? (i := 648) (by decide +kernel), List.mem_of_getElem? (i := 962) (by decide +kernel), List.mem_of_getElem? (i := 963) (by decide +kernel)⟩
theorem lw_p59 : lw_okq (⟨"SlackMarketModel", "takesMachine", "()I"⟩, 19) := ⟨⟨by decide +kernel, by decide +kernel⟩, List.mem_of_getElem? (i := 648) (by decide +kernel), List.mem_of_getElem? (i := 966) (by decide +kernel), List.mem_of_getElem? (i := 967) (by decide +kernel)⟩
theorem lw_p60 : lw_okq (⟨"SlackMarketModel", "fail", "()V"⟩, 19) := ⟨⟨by decide +kernel, by decide +kernel⟩, List.mem_of_getElem? (i := 648) (by decide +kernel), List.mem_of_getElem? (i := 970) (by decide +kernel), List.mem_of_getElem? (i := 971) (by decide +kernel)⟩
theorem lw_p61 : lw_okq (⟨"SlackMarketModel", "takes", "(I)V"⟩, 19) := ⟨⟨by decide +kernel, by decide +kernel⟩, List.mem_of_getElem? (i := 648) (by decide +kernel), List.mem_of_getElem? (i := 974) (by decide +kernel), List.mem_of_getElem? (i := 975) (by decide +kernel)⟩
theorem lw_p62 : lw_okq (⟨"SlackMarketModel", "takesNumber", "()I"⟩, 19) := ⟨⟨by decide +kernel, by decide +kernel⟩, List.mem_of_getElem? (i := 648) (by decide +kernel), List.mem_of_getElem? (i := 978) (by decide +kernel), List.mem_of_getElem? (i := 979) (by decide +kernel)⟩
theorem lw_p63 : lw_okq (⟨"SlackMarketModel", "isDigit", "(I)Z"⟩, 19) := ⟨⟨by decide +kernel, by decide +kernel⟩, List.mem_of_getElem? (i := 648) (by decide +kernel), List.mem_of_getElem? (i := 982) (by decide +kernel), List.mem_of_getElem? (i := 983) (by decide +kernel)⟩
def lw_privs_4 : List (MethodName × Nat) := [(⟨"SlackMarketModel", "behind", "(I)I"⟩, 19), (⟨"SlackMarketModel", "offers", "()I"⟩, 19), (⟨"SlackMarketModel", "lateSet", "()I"⟩, 19), (⟨"SlackMarketModel", "endOfAll", "()I"⟩, 19), (⟨"SlackMarketModel", "sumOf", "(II)I"⟩, 19), (⟨"SlackMarketModel", "putAside", "()V"⟩, 19), (⟨"SlackMarketModel", "bringBack", "()V"⟩, 19), (⟨"SlackMarketModel", "readPad", "()V"⟩, 19), (⟨"SlackMarketModel", "readOrder", "(I)V"⟩, 19), (⟨"SlackMarketModel", "letter", "(I)I"⟩, 19), (⟨"SlackMarketModel", "readTask", "(I)V"⟩, 19), (⟨"SlackMarketModel", "takesMachine", "()I"⟩, 19), (⟨"SlackMarketModel", "fail", "()V"⟩, 19), (⟨"SlackMarketModel", "takes", "(I)V"⟩, 19), (⟨"SlackMarketModel", "takesNumber", "()I"⟩, 19), (⟨"SlackMarketModel", "isDigit", "(I)Z"⟩, 19)]
theorem lw_r4 : ∀ q ∈ lw_privs_4, lw_okq q := List.forall_mem_cons.mpr ⟨lw_p48, List.forall_mem_cons.mpr ⟨lw_p49, List.forall_mem_cons.mpr ⟨lw_p50, List.forall_mem_cons.mpr ⟨lw_p51, List.forall_mem_cons.mpr ⟨lw_p52, List.forall_mem_cons.mpr ⟨lw_p53, List.forall_mem_cons.mpr ⟨lw_p54, List.forall_mem_cons.mpr ⟨lw_p55, List.forall_mem_cons.mpr ⟨lw_p56, List.forall_mem_cons.mpr ⟨lw_p57, List.forall_mem_cons.mpr ⟨lw_p58, List.forall_mem_cons.mpr ⟨lw_p59, List.forall_mem_cons.mpr ⟨lw_p60, List.forall_mem_cons.mpr ⟨lw_p61, List.forall_mem_cons.mpr ⟨lw_p62, List.forall_mem_cons.mpr ⟨lw_p63, fun _ h => absurd h List.not_mem_nil⟩⟩⟩⟩⟩⟩⟩⟩⟩⟩⟩⟩⟩⟩⟩⟩
theorem lw_p64 : lw_okq (⟨"SlackMarketModel", "readTwo", "(II)V"⟩, 19) := ⟨⟨by decide +kernel, by decide +kernel⟩, List.mem_of_getElem? (i := 648) (by decide +kernel), List.mem_of_getElem? (i := 986) (by decide +kernel), List.mem_of_getElem? (i := 987) (by decide +kernel)⟩
theorem lw_p65 : lw_okq (⟨"SlackMarketModel", "does", "(I)I"⟩, 19) := ⟨⟨by decide +kernel, by decide +kernel⟩, List.mem_of_getElem? (i := 648) (by decide +kernel), List.mem_of_getElem? (i := 994) (by decide +kernel), List.mem_of_getElem? (i := 995) (by decide +kernel)⟩
def lw_privs_5 : List (MethodName × Nat) := [(⟨"SlackMarketModel", "readTwo", "(II)V"⟩, 19), (⟨"SlackMarketModel", "does", "(I)I"⟩, 19)]
theorem lw_r5 : ∀ q ∈ lw_privs_5, lw_okq q := List.forall_mem_cons.mpr ⟨lw_p64, List.forall_mem_cons.mpr ⟨lw_p65, fun _ h => absurd h List.not_mem_nil⟩⟩
def lw_privs : List (MethodName × Nat) := lw_privs_1 ++ (lw_privs_2 ++ (lw_privs_3 ++ (lw_privs_4 ++ (lw_privs_5))))
def lw_tbl : List Cond := k2_sels lw_privs ++ tables_1
theorem lw_privs_ok : ∀ q ∈ lw_privs, lw_okq q := by
  show ∀ q ∈ lw_privs_1 ++ (lw_privs_2 ++ (lw_privs_3 ++ (lw_privs_4 ++ (lw_privs_5)))), lw_okq q
  exact List.forall_mem_append.mpr ⟨lw_r1, List.forall_mem_append.mpr ⟨lw_r2, List.forall_mem_append.mpr ⟨lw_r3, List.forall_mem_append.mpr ⟨lw_r4, lw_r5⟩⟩⟩⟩
-- ===== end of PART A; then your names; then what follows =====
def RX0 : String := "SlackMarket$Contracts"
def TX0 : u_T := fun k => match k with
  | 0 => ("SlackMarket$Contracts", "total", "I", false)
  | 1 => ("SlackMarket$Contracts", "sellers", "[I", true)
  | 2 => ("SlackMarket$Contracts", "buyers", "[I", true)
  | 3 => ("SlackMarket$Contracts", "hours", "[I", true)
  | _ => ("SlackMarket$Contracts", "prices", "[I", true)
def tyX0 : Nat → FieldType := fun k => match k with
  | 0 => .int
  | 1 => .array .int
  | 2 => .array .int
  | 3 => .array .int
  | _ => .array .int
abbrev wsX00 : List Cond := u_ws RX0 TX0 5
theorem nmX0 : ∀ a, a < 5 → ∀ b, b < 5 → a ≠ b → (TX0 a).2.1 ≠ (TX0 b).2.1 := by decide +kernel
theorem tyX0_ok : ∀ k, k < 5 → parseFieldDescriptor (TX0 k).2.2.1 = some (tyX0 k) := by decide +kernel
abbrev cX0_init : ByteArray := prog_2_method_1_code
def yX0_init : MethodName := ⟨RX0, "<init>", "()V"⟩
abbrev cX0_copyFrom : ByteArray := prog_2_method_2_code
def yX0_copyFrom : MethodName := ⟨RX0, "copyFrom", "(LSlackMarket$Contracts;)V"⟩
abbrev cX0_has : ByteArray := prog_2_method_3_code
def yX0_has : MethodName := ⟨RX0, "has", "(I)Z"⟩
abbrev cX0_tell : ByteArray := prog_2_method_4_code
def yX0_tell : MethodName := ⟨RX0, "tell", "(II)I"⟩
abbrev cX0_isFull : ByteArray := prog_2_method_5_code
def yX0_isFull : MethodName := ⟨RX0, "isFull", "()Z"⟩
abbrev cX0_append : ByteArray := prog_2_method_6_code
def yX0_append : MethodName := ⟨RX0, "append", "(IIII)V"⟩
abbrev cX0_lessen : ByteArray := prog_2_method_7_code
def yX0_lessen : MethodName := ⟨RX0, "lessen", "(II)I"⟩
abbrev cX0_remove : ByteArray := prog_2_method_8_code
def yX0_remove : MethodName := ⟨RX0, "remove", "(I)V"⟩
abbrev cX0_soldBy : ByteArray := prog_2_method_9_code
def yX0_soldBy : MethodName := ⟨RX0, "soldBy", "(I)I"⟩
abbrev cX0_boughtBy : ByteArray := prog_2_method_10_code
def yX0_boughtBy : MethodName := ⟨RX0, "boughtBy", "(I)I"⟩
abbrev cX0_allHours : ByteArray := prog_2_method_11_code
def yX0_allHours : MethodName := ⟨RX0, "allHours", "()I"⟩
abbrev cX0_sellersSince : ByteArray := prog_2_method_12_code
def yX0_sellersSince : MethodName := ⟨RX0, "sellersSince", "(I)I"⟩
def RX1 : String := "SlackMarket$History"
def TX1 : u_T := fun k => match k with
  | 0 => ("SlackMarket$History", "ring", "[LSlackMarket$Market;", true)
  | 1 => ("SlackMarket$History", "first", "I", false)
  | _ => ("SlackMarket$History", "kept", "I", false)
def tyX1 : Nat → FieldType := fun k => match k with
  | 0 => .array (.object "SlackMarket$Market")
  | 1 => .int
  | _ => .int
abbrev wsX10 : List Cond := u_ws RX1 TX1 3
theorem nmX1 : ∀ a, a < 3 → ∀ b, b < 3 → a ≠ b → (TX1 a).2.1 ≠ (TX1 b).2.1 := by decide +kernel
theorem tyX1_ok : ∀ k, k < 3 → parseFieldDescriptor (TX1 k).2.2.1 = some (tyX1 k) := by decide +kernel
abbrev cX1_init : ByteArray := prog_3_method_1_code
def yX1_init : MethodName := ⟨RX1, "<init>", "()V"⟩
abbrev cX1_prepare : ByteArray := prog_3_method_2_code
def yX1_prepare : MethodName := ⟨RX1, "prepare", "(LSlackMarket$Market;)V"⟩
abbrev cX1_record : ByteArray := prog_3_method_3_code
def yX1_record : MethodName := ⟨RX1, "record", "(I)I"⟩
abbrev cX1_takeBack : ByteArray := prog_3_method_4_code
def yX1_takeBack : MethodName := ⟨RX1, "takeBack", "(LSlackMarket$Market;)I"⟩
def RX2 : String := "SlackMarket$Market"
def TX2 : u_T := fun k => match k with
  | 0 => ("SlackMarket$Market", "plan", "LSlackMarket$Plan;", true)
  | 1 => ("SlackMarket$Market", "contracts", "LSlackMarket$Contracts;", true)
  | 2 => ("SlackMarket$Market", "refundPercent", "I", false)
  | 3 => ("SlackMarket$Market", "reach", "I", false)
  | 4 => ("SlackMarket$Market", "dueOf", "[I", true)
  | 5 => ("SlackMarket$Market", "moneyOf", "[I", true)
  | 6 => ("SlackMarket$Market", "offered", "[I", true)
  | 7 => ("SlackMarket$Market", "prices", "[I", true)
  | _ => ("SlackMarket$Market", "latestEnds", "[I", true)
def tyX2 : Nat → FieldType := fun k => match k with
  | 0 => .object "SlackMarket$Plan"
  | 1 => .object "SlackMarket$Contracts"
  | 2 => .int
  | 3 => .int
  | 4 => .array .int
  | 5 => .array .int
  | 6 => .array .int
  | 7 => .array .int
  | _ => .array .int
abbrev wsX20 : List Cond := u_ws RX2 TX2 9
theorem nmX2 : ∀ a, a < 9 → ∀ b, b < 9 → a ≠ b → (TX2 a).2.1 ≠ (TX2 b).2.1 := by decide +kernel
theorem tyX2_ok : ∀ k, k < 9 → parseFieldDescriptor (TX2 k).2.2.1 = some (tyX2 k) := by decide +kernel
abbrev cX2_init : ByteArray := prog_4_method_1_code
def yX2_init : MethodName := ⟨RX2, "<init>", "()V"⟩
abbrev cX2_copyFrom : ByteArray := prog_4_method_2_code
def yX2_copyFrom : MethodName := ⟨RX2, "copyFrom", "(LSlackMarket$Market;)V"⟩
abbrev cX2_changeSetting : ByteArray := prog_4_method_3_code
def yX2_changeSetting : MethodName := ⟨RX2, "changeSetting", "(II)I"⟩
abbrev cX2_addTask : ByteArray := prog_4_method_4_code
def yX2_addTask : MethodName := ⟨RX2, "addTask", "(IIIII)I"⟩
abbrev cX2_changeDuration : ByteArray := prog_4_method_5_code
def yX2_changeDuration : MethodName := ⟨RX2, "changeDuration", "(II)I"⟩
abbrev cX2_moveTask : ByteArray := prog_4_method_6_code
def yX2_moveTask : MethodName := ⟨RX2, "moveTask", "(II)I"⟩
abbrev cX2_makeOffer : ByteArray := prog_4_method_7_code
def yX2_makeOffer : MethodName := ⟨RX2, "makeOffer", "(III)I"⟩
abbrev cX2_setOffer : ByteArray := prog_4_method_8_code
def yX2_setOffer : MethodName := ⟨RX2, "setOffer", "(III)V"⟩
abbrev cX2_giveMoney : ByteArray := prog_4_method_9_code
def yX2_giveMoney : MethodName := ⟨RX2, "giveMoney", "(III)I"⟩
abbrev cX2_giveBack : ByteArray := prog_4_method_10_code
def yX2_giveBack : MethodName := ⟨RX2, "giveBack", "(II)I"⟩
abbrev cX2_tradeAll : ByteArray := prog_4_method_11_code
def yX2_tradeAll : MethodName := ⟨RX2, "tradeAll", "()I"⟩
abbrev cX2_latestExcept : ByteArray := prog_4_method_12_code
def yX2_latestExcept : MethodName := ⟨RX2, "latestExcept", "(I)I"⟩
abbrev cX2_buyFor : ByteArray := prog_4_method_13_code
def yX2_buyFor : MethodName := ⟨RX2, "buyFor", "(I)V"⟩
abbrev cX2_bestSellerExcept : ByteArray := prog_4_method_14_code
def yX2_bestSellerExcept : MethodName := ⟨RX2, "bestSellerExcept", "(I)I"⟩
abbrev cX2_isInReach : ByteArray := prog_4_method_15_code
def yX2_isInReach : MethodName := ⟨RX2, "isInReach", "(I)Z"⟩
abbrev cX2_isBetterSeller : ByteArray := prog_4_method_16_code
def yX2_isBetterSeller : MethodName := ⟨RX2, "isBetterSeller", "(II)Z"⟩
abbrev cX2_buyFrom : ByteArray := prog_4_method_17_code
def yX2_buyFrom : MethodName := ⟨RX2, "buyFrom", "(II)V"⟩
abbrev cX2_lateOf : ByteArray := prog_4_method_18_code
def yX2_lateOf : MethodName := ⟨RX2, "lateOf", "(I)I"⟩
abbrev cX2_spareOf : ByteArray := prog_4_method_19_code
def yX2_spareOf : MethodName := ⟨RX2, "spareOf", "(I)I"⟩
abbrev cX2_lateTogether : ByteArray := prog_4_method_20_code
def yX2_lateTogether : MethodName := ⟨RX2, "lateTogether", "()I"⟩
abbrev cX2_lateTasks : ByteArray := prog_4_method_21_code
def yX2_lateTasks : MethodName := ⟨RX2, "lateTasks", "()I"⟩
abbrev cX2_offers : ByteArray := prog_4_method_22_code
def yX2_offers : MethodName := ⟨RX2, "offers", "()I"⟩
abbrev cX2_allMoney : ByteArray := prog_4_method_23_code
def yX2_allMoney : MethodName := ⟨RX2, "allMoney", "()I"⟩
abbrev cX2_slackOf : ByteArray := prog_4_method_24_code
def yX2_slackOf : MethodName := ⟨RX2, "slackOf", "(I)I"⟩
abbrev cX2_lowerLatestEnd : ByteArray := prog_4_method_25_code
def yX2_lowerLatestEnd : MethodName := ⟨RX2, "lowerLatestEnd", "(II)V"⟩
abbrev cX2_findBestPlace : ByteArray := prog_4_method_26_code
def yX2_findBestPlace : MethodName := ⟨RX2, "findBestPlace", "(I)I"⟩
abbrev cX2_tellOfTask : ByteArray := prog_4_method_27_code
def yX2_tellOfTask : MethodName := ⟨RX2, "tellOfTask", "(II)I"⟩
abbrev cX2_tellOfAll : ByteArray := prog_4_method_28_code
def yX2_tellOfAll : MethodName := ⟨RX2, "tellOfAll", "(I)I"⟩
def RX3 : String := "SlackMarket$Pad"
def TX3 : u_T := fun k => match k with
  | 0 => ("SlackMarket$Pad", "text", "[C", true)
  | 1 => ("SlackMarket$Pad", "length", "I", false)
  | 2 => ("SlackMarket$Pad", "at", "I", false)
  | 3 => ("SlackMarket$Pad", "kind", "I", false)
  | 4 => ("SlackMarket$Pad", "numbers", "[I", true)
  | _ => ("SlackMarket$Pad", "read", "I", false)
def tyX3 : Nat → FieldType := fun k => match k with
  | 0 => .array .char
  | 1 => .int
  | 2 => .int
  | 3 => .int
  | 4 => .array .int
  | _ => .int
abbrev wsX30 : List Cond := u_ws RX3 TX3 6
theorem nmX3 : ∀ a, a < 6 → ∀ b, b < 6 → a ≠ b → (TX3 a).2.1 ≠ (TX3 b).2.1 := by decide +kernel
theorem tyX3_ok : ∀ k, k < 6 → parseFieldDescriptor (TX3 k).2.2.1 = some (tyX3 k) := by decide +kernel
abbrev cX3_init : ByteArray := prog_5_method_1_code
def yX3_init : MethodName := ⟨RX3, "<init>", "()V"⟩
abbrev cX3_append : ByteArray := prog_5_method_2_code
def yX3_append : MethodName := ⟨RX3, "append", "(J)I"⟩
abbrev cX3_clear : ByteArray := prog_5_method_3_code
def yX3_clear : MethodName := ⟨RX3, "clear", "()I"⟩
abbrev cX3_toStart : ByteArray := prog_5_method_4_code
def yX3_toStart : MethodName := ⟨RX3, "toStart", "()V"⟩
abbrev cX3_findFault : ByteArray := prog_5_method_5_code
def yX3_findFault : MethodName := ⟨RX3, "findFault", "()I"⟩
abbrev cX3_readNext : ByteArray := prog_5_method_6_code
def yX3_readNext : MethodName := ⟨RX3, "readNext", "()Z"⟩
abbrev cX3_readOrder : ByteArray := prog_5_method_7_code
def yX3_readOrder : MethodName := ⟨RX3, "readOrder", "()Z"⟩
abbrev cX3_readTask : ByteArray := prog_5_method_8_code
def yX3_readTask : MethodName := ⟨RX3, "readTask", "()Z"⟩
abbrev cX3_readPair : ByteArray := prog_5_method_9_code
def yX3_readPair : MethodName := ⟨RX3, "readPair", "(C)Z"⟩
abbrev cX3_here : ByteArray := prog_5_method_10_code
def yX3_here : MethodName := ⟨RX3, "here", "()I"⟩
abbrev cX3_readSign : ByteArray := prog_5_method_11_code
def yX3_readSign : MethodName := ⟨RX3, "readSign", "(C)Z"⟩
abbrev cX3_isDigit : ByteArray := prog_5_method_12_code
def yX3_isDigit : MethodName := ⟨RX3, "isDigit", "()Z"⟩
abbrev cX3_readDigit : ByteArray := prog_5_method_13_code
def yX3_readDigit : MethodName := ⟨RX3, "readDigit", "()Z"⟩
abbrev cX3_readNumber : ByteArray := prog_5_method_14_code
def yX3_readNumber : MethodName := ⟨RX3, "readNumber", "()Z"⟩
abbrev cX3_keep : ByteArray := prog_5_method_15_code
def yX3_keep : MethodName := ⟨RX3, "keep", "(I)Z"⟩
def RX4 : String := "SlackMarket$Plan"
def TX4 : u_T := fun k => match k with
  | 0 => ("SlackMarket$Plan", "tasks", "I", false)
  | 1 => ("SlackMarket$Plan", "machineOf", "[I", true)
  | 2 => ("SlackMarket$Plan", "durationOf", "[I", true)
  | 3 => ("SlackMarket$Plan", "aheadOf", "[I", true)
  | 4 => ("SlackMarket$Plan", "ends", "[I", true)
  | 5 => ("SlackMarket$Plan", "order", "[I", true)
  | 6 => ("SlackMarket$Plan", "rows", "[I", true)
  | 7 => ("SlackMarket$Plan", "rowLength", "[I", true)
  | 8 => ("SlackMarket$Plan", "rowEnded", "[I", true)
  | _ => ("SlackMarket$Plan", "links", "[I", true)
def tyX4 : Nat → FieldType := fun k => match k with
  | 0 => .int
  | 1 => .array .int
  | 2 => .array .int
  | 3 => .array .int
  | 4 => .array .int
  | 5 => .array .int
  | 6 => .array .int
  | 7 => .array .int
  | 8 => .array .int
  | _ => .array .int
abbrev wsX40 : List Cond := u_ws RX4 TX4 10
theorem nmX4 : ∀ a, a < 10 → ∀ b, b < 10 → a ≠ b → (TX4 a).2.1 ≠ (TX4 b).2.1 := by decide +kernel
theorem tyX4_ok : ∀ k, k < 10 → parseFieldDescriptor (TX4 k).2.2.1 = some (tyX4 k) := by decide +kernel
abbrev cX4_init : ByteArray := prog_6_method_1_code
def yX4_init : MethodName := ⟨RX4, "<init>", "()V"⟩
abbrev cX4_copyFrom : ByteArray := prog_6_method_2_code
def yX4_copyFrom : MethodName := ⟨RX4, "copyFrom", "(LSlackMarket$Plan;)V"⟩
abbrev cX4_has : ByteArray := prog_6_method_3_code
def yX4_has : MethodName := ⟨RX4, "has", "(I)Z"⟩
abbrev cX4_inRow : ByteArray := prog_6_method_4_code
def yX4_inRow : MethodName := ⟨RX4, "inRow", "(II)I"⟩
abbrev cX4_placeOf : ByteArray := prog_6_method_5_code
def yX4_placeOf : MethodName := ⟨RX4, "placeOf", "(I)I"⟩
abbrev cX4_inFrontOf : ByteArray := prog_6_method_6_code
def yX4_inFrontOf : MethodName := ⟨RX4, "inFrontOf", "(I)I"⟩
abbrev cX4_endOf : ByteArray := prog_6_method_7_code
def yX4_endOf : MethodName := ⟨RX4, "endOf", "(I)I"⟩
abbrev cX4_startOf : ByteArray := prog_6_method_8_code
def yX4_startOf : MethodName := ⟨RX4, "startOf", "(I)I"⟩
abbrev cX4_endOfAll : ByteArray := prog_6_method_9_code
def yX4_endOfAll : MethodName := ⟨RX4, "endOfAll", "()I"⟩
abbrev cX4_append : ByteArray := prog_6_method_10_code
def yX4_append : MethodName := ⟨RX4, "append", "(III)V"⟩
abbrev cX4_shift : ByteArray := prog_6_method_11_code
def yX4_shift : MethodName := ⟨RX4, "shift", "(II)V"⟩
abbrev cX4_schedule : ByteArray := prog_6_method_12_code
def yX4_schedule : MethodName := ⟨RX4, "schedule", "()Z"⟩
abbrev cX4_scheduleRow : ByteArray := prog_6_method_13_code
def yX4_scheduleRow : MethodName := ⟨RX4, "scheduleRow", "(II)I"⟩
abbrev cX4_followersOf : ByteArray := prog_6_method_14_code
def yX4_followersOf : MethodName := ⟨RX4, "followersOf", "(I)I"⟩
abbrev cX4_longestChain : ByteArray := prog_6_method_15_code
def yX4_longestChain : MethodName := ⟨RX4, "longestChain", "()I"⟩
abbrev cX4_waitedFor : ByteArray := prog_6_method_16_code
def yX4_waitedFor : MethodName := ⟨RX4, "waitedFor", "(I)I"⟩
abbrev cX4_measureFrom : ByteArray := prog_6_method_17_code
def yX4_measureFrom : MethodName := ⟨RX4, "measureFrom", "(I)V"⟩
abbrev cX4_linkFrom : ByteArray := prog_6_method_18_code
def yX4_linkFrom : MethodName := ⟨RX4, "linkFrom", "(I)V"⟩
def RX5 : String := "SlackMarket"
def TX5 : u_T := fun k => match k with
  | 0 => ("SlackMarket", "now", "LSlackMarket$Market;", true)
  | 1 => ("SlackMarket", "trial", "LSlackMarket$Market;", true)
  | 2 => ("SlackMarket", "history", "LSlackMarket$History;", true)
  | 3 => ("SlackMarket", "slots", "[LSlackMarket$Market;", true)
  | 4 => ("SlackMarket", "slotFilled", "[Z", true)
  | _ => ("SlackMarket", "pad", "LSlackMarket$Pad;", true)
def tyX5 : Nat → FieldType := fun k => match k with
  | 0 => .object "SlackMarket$Market"
  | 1 => .object "SlackMarket$Market"
  | 2 => .object "SlackMarket$History"
  | 3 => .array (.object "SlackMarket$Market")
  | 4 => .array .boolean
  | _ => .object "SlackMarket$Pad"
abbrev wsX50 : List Cond := u_ws RX5 TX5 6
theorem nmX5 : ∀ a, a < 6 → ∀ b, b < 6 → a ≠ b → (TX5 a).2.1 ≠ (TX5 b).2.1 := by decide +kernel
theorem tyX5_ok : ∀ k, k < 6 → parseFieldDescriptor (TX5 k).2.2.1 = some (tyX5 k) := by decide +kernel
abbrev cX5_init : ByteArray := prog_1_method_1_code
def yX5_init : MethodName := ⟨RX5, "<init>", "()V"⟩
abbrev cX5_set : ByteArray := prog_1_method_2_code
def yX5_set : MethodName := ⟨RX5, "set", "(II)I"⟩
abbrev cX5_task : ByteArray := prog_1_method_3_code
def yX5_task : MethodName := ⟨RX5, "task", "(IIIII)I"⟩
abbrev cX5_duration : ByteArray := prog_1_method_4_code
def yX5_duration : MethodName := ⟨RX5, "duration", "(II)I"⟩
abbrev cX5_move : ByteArray := prog_1_method_5_code
def yX5_move : MethodName := ⟨RX5, "move", "(II)I"⟩
abbrev cX5_offer : ByteArray := prog_1_method_6_code
def yX5_offer : MethodName := ⟨RX5, "offer", "(III)I"⟩
abbrev cX5_trade : ByteArray := prog_1_method_7_code
def yX5_trade : MethodName := ⟨RX5, "trade", "()I"⟩
abbrev cX5_refund : ByteArray := prog_1_method_8_code
def yX5_refund : MethodName := ⟨RX5, "refund", "(II)I"⟩
abbrev cX5_give : ByteArray := prog_1_method_9_code
def yX5_give : MethodName := ⟨RX5, "give", "(III)I"⟩
abbrev cX5_ofTask : ByteArray := prog_1_method_10_code
def yX5_ofTask : MethodName := ⟨RX5, "ofTask", "(II)I"⟩
abbrev cX5_due : ByteArray := prog_1_method_11_code
def yX5_due : MethodName := ⟨RX5, "due", "(I)J"⟩
abbrev cX5_money : ByteArray := prog_1_method_12_code
def yX5_money : MethodName := ⟨RX5, "money", "(I)I"⟩
abbrev cX5_at : ByteArray := prog_1_method_13_code
def yX5_at : MethodName := ⟨RX5, "at", "(II)I"⟩
abbrev cX5_ofContract : ByteArray := prog_1_method_14_code
def yX5_ofContract : MethodName := ⟨RX5, "ofContract", "(II)I"⟩
abbrev cX5_count : ByteArray := prog_1_method_15_code
def yX5_count : MethodName := ⟨RX5, "count", "(I)I"⟩
abbrev cX5_distance : ByteArray := prog_1_method_16_code
def yX5_distance : MethodName := ⟨RX5, "distance", "(II)I"⟩
abbrev cX5_wouldBuy : ByteArray := prog_1_method_17_code
def yX5_wouldBuy : MethodName := ⟨RX5, "wouldBuy", "(II)I"⟩
abbrev cX5_leastMoney : ByteArray := prog_1_method_18_code
def yX5_leastMoney : MethodName := ⟨RX5, "leastMoney", "(I)I"⟩
abbrev cX5_endIf : ByteArray := prog_1_method_19_code
def yX5_endIf : MethodName := ⟨RX5, "endIf", "(III)I"⟩
abbrev cX5_bestPlace : ByteArray := prog_1_method_20_code
def yX5_bestPlace : MethodName := ⟨RX5, "bestPlace", "(I)I"⟩
abbrev cX5_critical : ByteArray := prog_1_method_21_code
def yX5_critical : MethodName := ⟨RX5, "critical", "()I"⟩
abbrev cX5_lateBehind : ByteArray := prog_1_method_22_code
def yX5_lateBehind : MethodName := ⟨RX5, "lateBehind", "()I"⟩
abbrev cX5_put : ByteArray := prog_1_method_23_code
def yX5_put : MethodName := ⟨RX5, "put", "(J)I"⟩
abbrev cX5_wipe : ByteArray := prog_1_method_24_code
def yX5_wipe : MethodName := ⟨RX5, "wipe", "()I"⟩
abbrev cX5_fault : ByteArray := prog_1_method_25_code
def yX5_fault : MethodName := ⟨RX5, "fault", "()I"⟩
abbrev cX5_carryOut : ByteArray := prog_1_method_26_code
def yX5_carryOut : MethodName := ⟨RX5, "carryOut", "()I"⟩
abbrev cX5_carryOrders : ByteArray := prog_1_method_27_code
def yX5_carryOrders : MethodName := ⟨RX5, "carryOrders", "()I"⟩
abbrev cX5_carryOrder : ByteArray := prog_1_method_28_code
def yX5_carryOrder : MethodName := ⟨RX5, "carryOrder", "()I"⟩
abbrev cX5_undo : ByteArray := prog_1_method_29_code
def yX5_undo : MethodName := ⟨RX5, "undo", "()I"⟩
abbrev cX5_save : ByteArray := prog_1_method_30_code
def yX5_save : MethodName := ⟨RX5, "save", "(I)I"⟩
abbrev cX5_restore : ByteArray := prog_1_method_31_code
def yX5_restore : MethodName := ⟨RX5, "restore", "(I)I"⟩
def RX6 : String := "SlackMarketModel"
def TX6 : u_T := fun k => match k with
  | 0 => ("SlackMarketModel", "z", "[I", true)
  | 1 => ("SlackMarketModel", "past", "[I", true)
  | 2 => ("SlackMarketModel", "slots", "[I", true)
  | 3 => ("SlackMarketModel", "isSaved", "[Z", true)
  | 4 => ("SlackMarketModel", "spare", "[I", true)
  | 5 => ("SlackMarketModel", "pastMany", "I", false)
  | 6 => ("SlackMarketModel", "isQuiet", "Z", false)
  | 7 => ("SlackMarketModel", "pad", "[C", true)
  | 8 => ("SlackMarketModel", "typed", "I", false)
  | 9 => ("SlackMarketModel", "starts", "[I", true)
  | 10 => ("SlackMarketModel", "ends", "[I", true)
  | 11 => ("SlackMarketModel", "heldTask", "I", false)
  | 12 => ("SlackMarketModel", "heldHours", "I", false)
  | 13 => ("SlackMarketModel", "far", "[I", true)
  | 14 => ("SlackMarketModel", "lateFirst", "[I", true)
  | 15 => ("SlackMarketModel", "orders", "[I", true)
  | 16 => ("SlackMarketModel", "ordersMany", "I", false)
  | 17 => ("SlackMarketModel", "spot", "I", false)
  | _ => ("SlackMarketModel", "wrong", "I", false)
def tyX6 : Nat → FieldType := fun k => match k with
  | 0 => .array .int
  | 1 => .array .int
  | 2 => .array .int
  | 3 => .array .boolean
  | 4 => .array .int
  | 5 => .int
  | 6 => .boolean
  | 7 => .array .char
  | 8 => .int
  | 9 => .array .int
  | 10 => .array .int
  | 11 => .int
  | 12 => .int
  | 13 => .array .int
  | 14 => .array .int
  | 15 => .array .int
  | 16 => .int
  | 17 => .int
  | _ => .int
abbrev wsX60 : List Cond := u_ws RX6 TX6 19
theorem nmX6 : ∀ a, a < 19 → ∀ b, b < 19 → a ≠ b → (TX6 a).2.1 ≠ (TX6 b).2.1 := by decide +kernel
theorem tyX6_ok : ∀ k, k < 19 → parseFieldDescriptor (TX6 k).2.2.1 = some (tyX6 k) := by decide +kernel
abbrev cX6_init : ByteArray := prog_8_method_1_code
def yX6_init : MethodName := ⟨RX6, "<init>", "()V"⟩
abbrev cX6_in : ByteArray := prog_8_method_2_code
def yX6_in : MethodName := ⟨RX6, "in", "(III)Z"⟩
abbrev cX6_record : ByteArray := prog_8_method_3_code
def yX6_record : MethodName := ⟨RX6, "record", "()V"⟩
abbrev cX6_undo : ByteArray := prog_8_method_4_code
def yX6_undo : MethodName := ⟨RX6, "undo", "()I"⟩
abbrev cX6_save : ByteArray := prog_8_method_5_code
def yX6_save : MethodName := ⟨RX6, "save", "(I)I"⟩
abbrev cX6_restore : ByteArray := prog_8_method_6_code
def yX6_restore : MethodName := ⟨RX6, "restore", "(I)I"⟩
abbrev cX6_putAside : ByteArray := prog_8_method_7_code
def yX6_putAside : MethodName := ⟨RX6, "putAside", "()V"⟩
abbrev cX6_bringBack : ByteArray := prog_8_method_8_code
def yX6_bringBack : MethodName := ⟨RX6, "bringBack", "()V"⟩
abbrev cX6_isTask : ByteArray := prog_8_method_9_code
def yX6_isTask : MethodName := ⟨RX6, "isTask", "(I)Z"⟩
abbrev cX6_manyOn : ByteArray := prog_8_method_10_code
def yX6_manyOn : MethodName := ⟨RX6, "manyOn", "(I)I"⟩
abbrev cX6_taskAt : ByteArray := prog_8_method_11_code
def yX6_taskAt : MethodName := ⟨RX6, "taskAt", "(II)I"⟩
abbrev cX6_endOf : ByteArray := prog_8_method_12_code
def yX6_endOf : MethodName := ⟨RX6, "endOf", "(I)I"⟩
abbrev cX6_reckon : ByteArray := prog_8_method_13_code
def yX6_reckon : MethodName := ⟨RX6, "reckon", "()Z"⟩
abbrev cX6_late : ByteArray := prog_8_method_14_code
def yX6_late : MethodName := ⟨RX6, "late", "(I)I"⟩
abbrev cX6_spared : ByteArray := prog_8_method_15_code
def yX6_spared : MethodName := ⟨RX6, "spared", "(I)I"⟩
abbrev cX6_lateTogether : ByteArray := prog_8_method_16_code
def yX6_lateTogether : MethodName := ⟨RX6, "lateTogether", "()I"⟩
abbrev cX6_canBeHeld : ByteArray := prog_8_method_17_code
def yX6_canBeHeld : MethodName := ⟨RX6, "canBeHeld", "(II)Z"⟩
abbrev cX6_slack : ByteArray := prog_8_method_18_code
def yX6_slack : MethodName := ⟨RX6, "slack", "(I)I"⟩
abbrev cX6_set : ByteArray := prog_8_method_19_code
def yX6_set : MethodName := ⟨RX6, "set", "(II)I"⟩
abbrev cX6_task : ByteArray := prog_8_method_20_code
def yX6_task : MethodName := ⟨RX6, "task", "(IIIII)I"⟩
abbrev cX6_duration : ByteArray := prog_8_method_21_code
def yX6_duration : MethodName := ⟨RX6, "duration", "(II)I"⟩
abbrev cX6_putAt : ByteArray := prog_8_method_22_code
def yX6_putAt : MethodName := ⟨RX6, "putAt", "(II)V"⟩
abbrev cX6_move : ByteArray := prog_8_method_23_code
def yX6_move : MethodName := ⟨RX6, "move", "(II)I"⟩
abbrev cX6_areLinked : ByteArray := prog_8_method_24_code
def yX6_areLinked : MethodName := ⟨RX6, "areLinked", "(II)Z"⟩
abbrev cX6_measure : ByteArray := prog_8_method_25_code
def yX6_measure : MethodName := ⟨RX6, "measure", "(I)V"⟩
abbrev cX6_distance : ByteArray := prog_8_method_26_code
def yX6_distance : MethodName := ⟨RX6, "distance", "(II)I"⟩
abbrev cX6_offer : ByteArray := prog_8_method_27_code
def yX6_offer : MethodName := ⟨RX6, "offer", "(III)I"⟩
abbrev cX6_nextOffer : ByteArray := prog_8_method_28_code
def yX6_nextOffer : MethodName := ⟨RX6, "nextOffer", "(II)I"⟩
abbrev cX6_isSooner : ByteArray := prog_8_method_29_code
def yX6_isSooner : MethodName := ⟨RX6, "isSooner", "(II)Z"⟩
abbrev cX6_less : ByteArray := prog_8_method_30_code
def yX6_less : MethodName := ⟨RX6, "less", "(II)I"⟩
abbrev cX6_hoursOf : ByteArray := prog_8_method_31_code
def yX6_hoursOf : MethodName := ⟨RX6, "hoursOf", "(II)I"⟩
abbrev cX6_agree : ByteArray := prog_8_method_32_code
def yX6_agree : MethodName := ⟨RX6, "agree", "(III)V"⟩
abbrev cX6_buys : ByteArray := prog_8_method_33_code
def yX6_buys : MethodName := ⟨RX6, "buys", "(I)V"⟩
abbrev cX6_tradeAll : ByteArray := prog_8_method_34_code
def yX6_tradeAll : MethodName := ⟨RX6, "tradeAll", "()V"⟩
abbrev cX6_trade : ByteArray := prog_8_method_35_code
def yX6_trade : MethodName := ⟨RX6, "trade", "()I"⟩
abbrev cX6_isContract : ByteArray := prog_8_method_36_code
def yX6_isContract : MethodName := ⟨RX6, "isContract", "(I)Z"⟩
abbrev cX6_refund : ByteArray := prog_8_method_37_code
def yX6_refund : MethodName := ⟨RX6, "refund", "(II)I"⟩
abbrev cX6_dropContract : ByteArray := prog_8_method_38_code
def yX6_dropContract : MethodName := ⟨RX6, "dropContract", "(I)V"⟩
abbrev cX6_give : ByteArray := prog_8_method_39_code
def yX6_give : MethodName := ⟨RX6, "give", "(III)I"⟩
abbrev cX6_hoursBy : ByteArray := prog_8_method_40_code
def yX6_hoursBy : MethodName := ⟨RX6, "hoursBy", "(II)I"⟩
abbrev cX6_behind : ByteArray := prog_8_method_41_code
def yX6_behind : MethodName := ⟨RX6, "behind", "(I)I"⟩
abbrev cX6_ofTask : ByteArray := prog_8_method_42_code
def yX6_ofTask : MethodName := ⟨RX6, "ofTask", "(II)I"⟩
abbrev cX6_due : ByteArray := prog_8_method_43_code
def yX6_due : MethodName := ⟨RX6, "due", "(I)J"⟩
abbrev cX6_money : ByteArray := prog_8_method_44_code
def yX6_money : MethodName := ⟨RX6, "money", "(I)I"⟩
abbrev cX6_at : ByteArray := prog_8_method_45_code
def yX6_at : MethodName := ⟨RX6, "at", "(II)I"⟩
abbrev cX6_ofContract : ByteArray := prog_8_method_46_code
def yX6_ofContract : MethodName := ⟨RX6, "ofContract", "(II)I"⟩
abbrev cX6_offers : ByteArray := prog_8_method_47_code
def yX6_offers : MethodName := ⟨RX6, "offers", "()I"⟩
abbrev cX6_lateSet : ByteArray := prog_8_method_48_code
def yX6_lateSet : MethodName := ⟨RX6, "lateSet", "()I"⟩
abbrev cX6_endOfAll : ByteArray := prog_8_method_49_code
def yX6_endOfAll : MethodName := ⟨RX6, "endOfAll", "()I"⟩
abbrev cX6_sumOf : ByteArray := prog_8_method_50_code
def yX6_sumOf : MethodName := ⟨RX6, "sumOf", "(II)I"⟩
abbrev cX6_count : ByteArray := prog_8_method_51_code
def yX6_count : MethodName := ⟨RX6, "count", "(I)I"⟩
abbrev cX6_wouldBuy : ByteArray := prog_8_method_52_code
def yX6_wouldBuy : MethodName := ⟨RX6, "wouldBuy", "(II)I"⟩
abbrev cX6_leastMoney : ByteArray := prog_8_method_53_code
def yX6_leastMoney : MethodName := ⟨RX6, "leastMoney", "(I)I"⟩
abbrev cX6_endIf : ByteArray := prog_8_method_54_code
def yX6_endIf : MethodName := ⟨RX6, "endIf", "(III)I"⟩
abbrev cX6_bestPlace : ByteArray := prog_8_method_55_code
def yX6_bestPlace : MethodName := ⟨RX6, "bestPlace", "(I)I"⟩
abbrev cX6_critical : ByteArray := prog_8_method_56_code
def yX6_critical : MethodName := ⟨RX6, "critical", "()I"⟩
abbrev cX6_lateBehind : ByteArray := prog_8_method_57_code
def yX6_lateBehind : MethodName := ⟨RX6, "lateBehind", "()I"⟩
abbrev cX6_put : ByteArray := prog_8_method_58_code
def yX6_put : MethodName := ⟨RX6, "put", "(J)I"⟩
abbrev cX6_wipe : ByteArray := prog_8_method_59_code
def yX6_wipe : MethodName := ⟨RX6, "wipe", "()I"⟩
abbrev cX6_letter : ByteArray := prog_8_method_60_code
def yX6_letter : MethodName := ⟨RX6, "letter", "(I)I"⟩
abbrev cX6_isDigit : ByteArray := prog_8_method_61_code
def yX6_isDigit : MethodName := ⟨RX6, "isDigit", "(I)Z"⟩
abbrev cX6_fail : ByteArray := prog_8_method_62_code
def yX6_fail : MethodName := ⟨RX6, "fail", "()V"⟩
abbrev cX6_takes : ByteArray := prog_8_method_63_code
def yX6_takes : MethodName := ⟨RX6, "takes", "(I)V"⟩
abbrev cX6_takesNumber : ByteArray := prog_8_method_64_code
def yX6_takesNumber : MethodName := ⟨RX6, "takesNumber", "()I"⟩
abbrev cX6_takesMachine : ByteArray := prog_8_method_65_code
def yX6_takesMachine : MethodName := ⟨RX6, "takesMachine", "()I"⟩
abbrev cX6_readTask : ByteArray := prog_8_method_66_code
def yX6_readTask : MethodName := ⟨RX6, "readTask", "(I)V"⟩
abbrev cX6_readTwo : ByteArray := prog_8_method_67_code
def yX6_readTwo : MethodName := ⟨RX6, "readTwo", "(II)V"⟩
abbrev cX6_readOrder : ByteArray := prog_8_method_68_code
def yX6_readOrder : MethodName := ⟨RX6, "readOrder", "(I)V"⟩
abbrev cX6_readPad : ByteArray := prog_8_method_69_code
def yX6_readPad : MethodName := ⟨RX6, "readPad", "()V"⟩
abbrev cX6_fault : ByteArray := prog_8_method_70_code
def yX6_fault : MethodName := ⟨RX6, "fault", "()I"⟩
abbrev cX6_does : ByteArray := prog_8_method_71_code
def yX6_does : MethodName := ⟨RX6, "does", "(I)I"⟩
abbrev cX6_carryOut : ByteArray := prog_8_method_72_code
def yX6_carryOut : MethodName := ⟨RX6, "carryOut", "()I"⟩
def RJ9 : String := "java/lang/Math"
def TJ9 : u_T := fun k => match k with
  | _ => ("", "", "", false)
def tyJ9 : Nat → FieldType := fun k => match k with
  | _ => .int
abbrev wsJ90 : List Cond := u_ws RJ9 TJ9 0
theorem nmJ9 : ∀ a, a < 0 → ∀ b, b < 0 → a ≠ b → (TJ9 a).2.1 ≠ (TJ9 b).2.1 := by decide +kernel
theorem tyJ9_ok : ∀ k, k < 0 → parseFieldDescriptor (TJ9 k).2.2.1 = some (tyJ9 k) := by decide +kernel
abbrev cJ9_max_7cf53 : ByteArray := prog_9_method_65_code
def yJ9_max_7cf53 : MethodName := ⟨RJ9, "max", "(II)I"⟩
abbrev cJ9_min_7cf53 : ByteArray := prog_9_method_69_code
def yJ9_min_7cf53 : MethodName := ⟨RJ9, "min", "(II)I"⟩
def RJ10 : String := "java/lang/System"
def TJ10 : u_T := fun k => match k with
  | _ => ("", "", "", false)
def tyJ10 : Nat → FieldType := fun k => match k with
  | _ => .int
abbrev wsJ100 : List Cond := u_ws RJ10 TJ10 0
theorem nmJ10 : ∀ a, a < 0 → ∀ b, b < 0 → a ≠ b → (TJ10 a).2.1 ≠ (TJ10 b).2.1 := by decide +kernel
theorem tyJ10_ok : ∀ k, k < 0 → parseFieldDescriptor (TJ10 k).2.2.1 = some (tyJ10 k) := by decide +kernel
def RL : String := "SlackMarketLaw"
abbrev cL_law : ByteArray := code
def yL_law : MethodName := ⟨RL, "law", "([I)Z"⟩
abbrev vwCl : List vw_C := [(RX0, TX0, 5), (RX1, TX1, 3), (RX2, TX2, 9), (RX3, TX3, 6), (RX4, TX4, 10), (RX5, TX5, 6), (RX6, TX6, 19)]
end
section
/-! THE WORLD. The cells of the whole system never move once the two objects stand: the class makes all of its rows in its constructors. So a state of the
system is a memory: block (0..10 the markets, 11 the rest of SlackMarket, 12 the model), place in the block, index -> int. References are fixed. -/
def lw_gd : List Cond := lw_tbl.filter goodWord
theorem gd_of {w : Cond} (i : Nat) (h : lw_tbl[i]? = some w) (hg : goodWord w = true) : w ∈ lw_gd := List.mem_filter.mpr ⟨List.mem_of_getElem? h, hg⟩
theorem gd_good : ∀ w ∈ lw_gd, goodWord w = true := fun _ h => (List.mem_filter.mp h).2
theorem gd_sub : ∀ w ∈ lw_gd, w ∈ lw_tbl := fun _ h => (List.mem_filter.mp h).1
theorem gd_goodIn {c : Cond} (hc : c ∈ lw_gd) : GoodIn lw_gd (c :: lw_gd) := by
  intro w hw
  rcases List.mem_cons.mp hw with h | h
  · subst h
    exact ⟨hc, good_of_word (gd_good _ hc)⟩
  · exact ⟨h, good_of_word (gd_good _ h)⟩
theorem gd_X0 : ∀ w ∈ u_ws RX0 TX0 5, w ∈ lw_gd := by decide +kernel
theorem gd_X1 : ∀ w ∈ u_ws RX1 TX1 3, w ∈ lw_gd := by decide +kernel
theorem gd_X2 : ∀ w ∈ u_ws RX2 TX2 9, w ∈ lw_gd := by decide +kernel
theorem gd_X3 : ∀ w ∈ u_ws RX3 TX3 6, w ∈ lw_gd := by decide +kernel
theorem gd_X4 : ∀ w ∈ u_ws RX4 TX4 10, w ∈ lw_gd := by decide +kernel
theorem gd_X5 : ∀ w ∈ u_ws RX5 TX5 6, w ∈ lw_gd := by decide +kernel
theorem gd_X6 : ∀ w ∈ u_ws RX6 TX6 19, w ∈ lw_gd := by decide +kernel
abbrev Blk : Type := Nat → Nat → Int32
abbrev Mem : Type := Nat → Blk
def bs (B : Blk) (o k : Nat) (v : Int32) : Blk := fun o' => if o' = o then upd (B o) k v else B o'
def bc (B : Blk) (o : Nat) (f : Nat → Int32) : Blk := fun o' => if o' = o then f else B o'
def jb (M : Mem) (j : Nat) (B : Blk) : Mem := fun i => if i = j then B else M i
theorem jb_at (M : Mem) (j : Nat) (B : Blk) : jb M j B j = B := if_pos rfl
theorem jb_ne {M : Mem} {i j : Nat} {B : Blk} (h : i ≠ j) : jb M j B i = M i := if_neg h
theorem jb_jb (M : Mem) (j : Nat) (B B' : Blk) : jb (jb M j B) j B' = jb M j B' := by
  funext i
  by_cases h : i = j
  · simp [jb, h]
  · simp [jb, h]
theorem jb_self (M : Mem) (j : Nat) : jb M j (M j) = M := by
  funext i
  by_cases h : i = j
  · subst h; simp [jb]
  · simp [jb, h]
/-- the classes' ids, the addresses by block and place, the ids of int[], boolean[], char[], Market[] -/
abbrev VT : Type := va_G × (Nat → Nat → Nat) × ClassId × ClassId × ClassId × ClassId
def vD (V : VT) : va_G := V.1
def vA (V : VT) (j o : Nat) : Nat := V.2.1 j o
def vI (V : VT) : ClassId := V.2.2.1
def vZ (V : VT) : ClassId := V.2.2.2.1
def vC (V : VT) : ClassId := V.2.2.2.2.1
def vM (V : VT) : ClassId := V.2.2.2.2.2
def vT (V : VT) : List (ClassId × FieldType) := [(vI V, .int), (vZ V, .boolean), (vC V, .char), (vM V, .object "SlackMarket$Market")]
def cellM (V : VT) (j : Nat) (B : Blk) : Nat → va_E := fun o => match o with
  | 0 => .inr (2, [.ref (vA V j 1), .ref (vA V j 2), .int (B 0 2), .int (B 0 3), .ref (vA V j 16), .ref (vA V j 17), .ref (vA V j 18), .ref (vA V j 19), .ref (vA V j 20)])
  | 1 => .inr (4, [.int (B 1 0), .ref (vA V j 3), .ref (vA V j 4), .ref (vA V j 5), .ref (vA V j 6), .ref (vA V j 7), .ref (vA V j 8), .ref (vA V j 9), .ref (vA V j 10), .ref (vA V j 11)])
  | 2 => .inr (0, [.int (B 2 0), .ref (vA V j 12), .ref (vA V j 13), .ref (vA V j 14), .ref (vA V j 15)])
  | 3 => .inl (vI V, 24, .inl (B 3))
  | 4 => .inl (vI V, 24, .inl (B 4))
  | 5 => .inl (vI V, 24, .inl (B 5))
  | 6 => .inl (vI V, 24, .inl (B 6))
  | 7 => .inl (vI V, 24, .inl (B 7))
  | 8 => .inl (vI V, 96, .inl (B 8))
  | 9 => .inl (vI V, 4, .inl (B 9))
  | 10 => .inl (vI V, 4, .inl (B 10))
  | 11 => .inl (vI V, 24, .inl (B 11))
  | 12 => .inl (vI V, 40, .inl (B 12))
  | 13 => .inl (vI V, 40, .inl (B 13))
  | 14 => .inl (vI V, 40, .inl (B 14))
  | 15 => .inl (vI V, 40, .inl (B 15))
  | 16 => .inl (vI V, 24, .inl (B 16))
  | 17 => .inl (vI V, 24, .inl (B 17))
  | 18 => .inl (vI V, 24, .inl (B 18))
  | 19 => .inl (vI V, 24, .inl (B 19))
  | _ => .inl (vI V, 24, .inl (B o))
def cellX (V : VT) (B : Blk) : Nat → va_E := fun o => match o with
  | 0 => .inr (5, [.ref (vA V 0 0), .ref (vA V 1 0), .ref (vA V 11 3), .ref (vA V 11 1), .ref (vA V 11 2), .ref (vA V 11 5)])
  | 1 => .inl (vM V, 2, .inr (.inr (.inr (.inr (fun i => some (vA V (2 + i) 0))))))
  | 2 => .inl (vZ V, 2, .inl (B 2))
  | 3 => .inr (1, [.ref (vA V 11 4), .int (B 3 1), .int (B 3 2)])
  | 4 => .inl (vM V, 7, .inr (.inr (.inr (.inr (fun i => some (vA V (4 + i) 0))))))
  | 5 => .inr (3, [.ref (vA V 11 6), .int (B 5 1), .int (B 5 2), .int (B 5 3), .ref (vA V 11 7), .int (B 5 5)])
  | 6 => .inl (vC V, 80, .inl (B 6))
  | _ => .inl (vI V, 5, .inl (B o))
def cellZ (V : VT) (B : Blk) : Nat → va_E := fun o => match o with
  | 0 => .inr (6, [.ref (vA V 12 1), .ref (vA V 12 2), .ref (vA V 12 3), .ref (vA V 12 4), .ref (vA V 12 5), .int (B 0 5), .int (B 0 6), .ref (vA V 12 6), .int (B 0 8), .ref (vA V 12 7), .ref (vA V 12 8), .int (B 0 11), .int (B 0 12), .ref (vA V 12 9), .ref (vA V 12 10), .ref (vA V 12 11), .int (B 0 16), .int (B 0 17), .int (B 0 18)])
  | 1 => .inl (vI V, 356, .inl (B 1))
  | 2 => .inl (vI V, 2136, .inl (B 2))
  | 3 => .inl (vI V, 712, .inl (B 3))
  | 4 => .inl (vZ V, 2, .inl (B 4))
  | 5 => .inl (vI V, 356, .inl (B 5))
  | 6 => .inl (vC V, 80, .inl (B 6))
  | 7 => .inl (vI V, 24, .inl (B 7))
  | 8 => .inl (vI V, 24, .inl (B 8))
  | 9 => .inl (vI V, 24, .inl (B 9))
  | 10 => .inl (vI V, 24, .inl (B 10))
  | _ => .inl (vI V, 252, .inl (B o))
def cellOf (V : VT) (M : Mem) (q : Nat × Nat) : va_E := if q.1 < 11 then cellM V q.1 (M q.1) q.2 else if q.1 = 11 then cellX V (M q.1) q.2 else cellZ V (M q.1) q.2
def places : List (Nat × Nat) := ((List.range 11).flatMap fun j => (List.range 21).map fun o => (j, o)) ++ (((List.range 8).map fun o => (11, o)) ++ ((List.range 12).map fun o => (12, o)))
def wsOf (V : VT) (M : Mem) : va_W := places.map fun q => (vA V q.1 q.2, cellOf V M q)
theorem places_nodup : places.Nodup := by decide +kernel
def isPl (j o : Nat) : Prop := ∃ i : Nat, places[i]? = some (j, o)
theorem pl_M {j o : Nat} (hj : j < 11) (ho : o < 21) : isPl j o := by
  have h : ∀ j, j < 11 → ∀ o, o < 21 → places[21 * j + o]? = some (j, o) := by decide +kernel
  exact ⟨_, h j hj o ho⟩
theorem pl_X {o : Nat} (ho : o < 8) : isPl 11 o := by
  have h : ∀ o, o < 8 → places[231 + o]? = some (11, o) := by decide +kernel
  exact ⟨_, h o ho⟩
theorem pl_Z {o : Nat} (ho : o < 12) : isPl 12 o := by
  have h : ∀ o, o < 12 → places[239 + o]? = some (12, o) := by decide +kernel
  exact ⟨_, h o ho⟩
theorem cellM_congr {V : VT} {j o : Nat} {B B' : Blk} (h : B o = B' o) : cellM V j B o = cellM V j B' o := by
  unfold cellM
  split <;> simp_all
theorem cellX_congr {V : VT} {o : Nat} {B B' : Blk} (h : B o = B' o) : cellX V B o = cellX V B' o := by
  unfold cellX
  split <;> simp_all
theorem cellZ_congr {V : VT} {o : Nat} {B B' : Blk} (h : B o = B' o) : cellZ V B o = cellZ V B' o := by
  unfold cellZ
  split <;> simp_all
theorem cellOf_congr {V : VT} {M M' : Mem} {j o : Nat} (h : M j o = M' j o) : cellOf V M (j, o) = cellOf V M' (j, o) := by
  unfold cellOf
  dsimp only
  split
  · exact cellM_congr h
  · split
    · exact cellX_congr h
    · exact cellZ_congr h
theorem ws_at {V : VT} {M : Mem} {i j o : Nat} (h : places[i]? = some (j, o)) : (wsOf V M)[i]? = some (vA V j o, cellOf V M (j, o)) := by
  unfold wsOf
  rw [List.getElem?_map, h]
  rfl
theorem ws_set {V : VT} {M M' : Mem} {i j o : Nat} (h : places[i]? = some (j, o)) (hM : ∀ j' o', (j', o') ≠ (j, o) → M' j' o' = M j' o') : (wsOf V M).set i (vA V j o, cellOf V M' (j, o)) = wsOf V M' := by
  have hi : i < places.length := (List.getElem?_eq_some_iff.mp h).1
  refine List.ext_getElem? fun k => ?_
  by_cases hk : i = k
  · subst hk
    rw [ws_at h, List.getElem?_set_self (by unfold wsOf; rw [List.length_map]; exact hi)]
  · rw [List.getElem?_set_ne hk]
    unfold wsOf
    rw [List.getElem?_map, List.getElem?_map]
    cases hp : places[k]? with
    | none => rfl
    | some q =>
      obtain ⟨j', o'⟩ := q
      have hne : (j', o') ≠ (j, o) := fun e => by
        rw [e] at hp
        exact hk ((List.getElem?_inj hi places_nodup).mp (h.trans hp.symm))
      show some (vA V j' o', cellOf V M (j', o')) = some (vA V j' o', cellOf V M' (j', o'))
      rw [cellOf_congr (hM j' o' hne)]
theorem jb_off {M : Mem} {j o : Nat} {B : Blk} (hB : ∀ o', o' ≠ o → B o' = M j o') : ∀ j' o', (j', o') ≠ (j, o) → jb M j B j' o' = M j' o' := by
  intro j' o' h
  by_cases hj : j' = j
  · subst hj
    rw [jb_at]
    exact hB o' (fun e => h (by rw [e]))
  · rw [jb_ne hj]
theorem bs_ne {B : Blk} {o k o' : Nat} {v : Int32} (h : o' ≠ o) : bs B o k v o' = B o' := if_neg h
theorem bs_at {B : Blk} {o k : Nat} {v : Int32} : bs B o k v o = upd (B o) k v := if_pos rfl
theorem bc_ne {B : Blk} {o o' : Nat} {f : Nat → Int32} (h : o' ≠ o) : bc B o f o' = B o' := if_neg h
theorem bc_at {B : Blk} {o : Nat} {f : Nat → Int32} : bc B o f o = f := if_pos rfl
/-- the world holds the memory M; nothing outside A has changed since H0 -/
def Wd (V : VT) (A : Nat → Prop) (H0 : Heap) (M : Mem) (s : State) (H : Heap) (locs : List Loc) : Prop := va_K (vD V) vwCl (vT V) s ∧ va_P (vD V) vwCl (wsOf V M) H ∧ va_D A (wsOf V M) ∧ va_S A H0 H locs
abbrev WE : Type := Program × Launch × Env × Room × State × MethodId × Array Value × List Frame × Method × Code × Nat × Nat × (State → Prop)
abbrev eP (E : WE) : Program := E.1
abbrev eL (E : WE) : Launch := E.2.1
abbrev eE (E : WE) : Env := E.2.2.1
abbrev eR (E : WE) : Room := E.2.2.2.1
abbrev eS (E : WE) : State := E.2.2.2.2.1
abbrev eM (E : WE) : MethodId := E.2.2.2.2.2.1
abbrev eA (E : WE) : Array Value := E.2.2.2.2.2.2.1
abbrev eB (E : WE) : List Frame := E.2.2.2.2.2.2.2.1
abbrev eH (E : WE) : Method := E.2.2.2.2.2.2.2.2.1
abbrev eC (E : WE) : Code := E.2.2.2.2.2.2.2.2.2.1
abbrev eNc (E : WE) : Nat := E.2.2.2.2.2.2.2.2.2.2.1
abbrev eNs (E : WE) : Nat := E.2.2.2.2.2.2.2.2.2.2.2.1
abbrev eQ (E : WE) : State → Prop := E.2.2.2.2.2.2.2.2.2.2.2.2
def Wq (E : WE) (H : Heap) (locs : List Loc) (pc : Nat) (ls : Array Slot) (st : List Value) : Prop := W (eP E) (eL E) (eE E) (eR E) (eS E) (eM E) (eA E) (eB E) (eH E) (eC E) H locs (eNc E) (eNs E) (eQ E) (F0 (eM E) pc ls st)
/-- what holds all through a method's body: the machine, its code, the words, room for calls -/
def CX (E : WE) (own : String) (cc : ByteArray) (nL fr lo : Nat) : Prop := (eP E).tables.exec = Jvm.exec ∧ (eC E).code = cc ∧ (eC E).maxLocals = nL ∧ (eS E).vm.findClass own = some (eM E).cls ∧ (∀ w ∈ lw_gd, w.before (eA E) (eS E) = true) ∧ fr ≤ (eR E).frames ∧ lo ≤ (eR E).locals ∧ eNc E ≤ (eR E).cells ∧ eNs E ≤ (eR E).slots
end
section
theorem q_iconst {E : WE} {own : String} {cc : ByteArray} {nL fr lo : Nat} (Cx : CX E own cc nL fr lo) {H : Heap} {locs : List Loc} {pc : Nat} {ls : Array Slot} {rest : List Value} {n : Int} {v : Int32} (hdg : decode cc pc = .ok (.iconst n, 1)) (hv : Int32.ofInt n = v) (k : Wq E H locs (pc + 1) ls (.int v :: rest)) : Wq E H locs pc ls (rest) := lv_iconst Cx.1 Cx.2.1 hdg hv k
theorem q_bipush {E : WE} {own : String} {cc : ByteArray} {nL fr lo : Nat} (Cx : CX E own cc nL fr lo) {H : Heap} {locs : List Loc} {pc : Nat} {ls : Array Slot} {rest : List Value} {n : Int} {v : Int32} (hdg : decode cc pc = .ok (.bipush n, 2)) (hv : (Int8.ofInt n).toInt32 = v) (k : Wq E H locs (pc + 2) ls (.int v :: rest)) : Wq E H locs pc ls (rest) := lv_bipush Cx.1 Cx.2.1 hdg hv k
theorem q_sipush {E : WE} {own : String} {cc : ByteArray} {nL fr lo : Nat} (Cx : CX E own cc nL fr lo) {H : Heap} {locs : List Loc} {pc : Nat} {ls : Array Slot} {rest : List Value} {n : Int} {v : Int32} (hdg : decode cc pc = .ok (.sipush n, 3)) (hv : (Int16.ofInt n).toInt32 = v) (k : Wq E H locs (pc + 3) ls (.int v :: rest)) : Wq E H locs pc ls (rest) := lv_sipush Cx.1 Cx.2.1 hdg hv k
theorem q_lconst {E : WE} {own : String} {cc : ByteArray} {nL fr lo : Nat} (Cx : CX E own cc nL fr lo) {H : Heap} {locs : List Loc} {pc : Nat} {ls : Array Slot} {rest : List Value} {n : Fin 2} {v : Int64} (hdg : decode cc pc = .ok (.lconst n, 1)) (hv : Int64.ofNat (n : Nat) = v) (k : Wq E H locs (pc + 1) ls (.long v :: rest)) : Wq E H locs pc ls (rest) := lv_lconst Cx.1 Cx.2.1 hdg hv k
theorem q_ldc {E : WE} {own : String} {cc : ByteArray} {nL fr lo : Nat} (Cx : CX E own cc nL fr lo) {H : Heap} {locs : List Loc} {pc : Nat} {ls : Array Slot} {rest : List Value} {index : Nat} {v : Int32} (hdg : decode cc pc = .ok (.ldc index, 2)) (hc : Cond.constant own index v ∈ lw_gd) (k : Wq E H locs (pc + 2) ls (.int v :: rest)) : Wq E H locs pc ls (rest) := lv_ldc Cx.1 Cx.2.1 Cx.2.2.2.1 (Cx.2.2.2.2.1 _ hc) hdg k
theorem q_ldc2 {E : WE} {own : String} {cc : ByteArray} {nL fr lo : Nat} (Cx : CX E own cc nL fr lo) {H : Heap} {locs : List Loc} {pc : Nat} {ls : Array Slot} {rest : List Value} {index : Nat} {v : Int64} (hdg : decode cc pc = .ok (.ldc2_w index, 3)) (hc : Cond.constantLong own index v ∈ lw_gd) (k : Wq E H locs (pc + 3) ls (.long v :: rest)) : Wq E H locs pc ls (rest) := lv_ldc2 Cx.1 Cx.2.1 Cx.2.2.2.1 (Cx.2.2.2.2.1 _ hc) hdg k
theorem q_iload_n {E : WE} {own : String} {cc : ByteArray} {nL fr lo : Nat} (Cx : CX E own cc nL fr lo) {H : Heap} {locs : List Loc} {pc : Nat} {ls : Array Slot} {rest : List Value} {n : Fin 4} {i : Nat} {x : Int32} (hdg : decode cc pc = .ok (.iload_n n, 1)) (hi : (n : Nat) = i) (hl : ls[i]? = some (.val (.int x))) (k : Wq E H locs (pc + 1) ls (.int x :: rest)) : Wq E H locs pc ls (rest) := lv_iload_n Cx.1 Cx.2.1 hdg hi hl k
theorem q_iload {E : WE} {own : String} {cc : ByteArray} {nL fr lo : Nat} (Cx : CX E own cc nL fr lo) {H : Heap} {locs : List Loc} {pc : Nat} {ls : Array Slot} {rest : List Value} {i : Nat} {x : Int32} (hdg : decode cc pc = .ok (.iload i, 2)) (hl : ls[i]? = some (.val (.int x))) (k : Wq E H locs (pc + 2) ls (.int x :: rest)) : Wq E H locs pc ls (rest) := lv_iload Cx.1 Cx.2.1 hdg hl k
theorem q_lload_n {E : WE} {own : String} {cc : ByteArray} {nL fr lo : Nat} (Cx : CX E own cc nL fr lo) {H : Heap} {locs : List Loc} {pc : Nat} {ls : Array Slot} {rest : List Value} {n : Fin 4} {i : Nat} {x : Int64} (hdg : decode cc pc = .ok (.lload_n n, 1)) (hi : (n : Nat) = i) (hl : ls[i]? = some (.val (.long x))) (k : Wq E H locs (pc + 1) ls (.long x :: rest)) : Wq E H locs pc ls (rest) := lv_lload_n Cx.1 Cx.2.1 hdg hi hl k
theorem q_lload {E : WE} {own : String} {cc : ByteArray} {nL fr lo : Nat} (Cx : CX E own cc nL fr lo) {H : Heap} {locs : List Loc} {pc : Nat} {ls : Array Slot} {rest : List Value} {i : Nat} {x : Int64} (hdg : decode cc pc = .ok (.lload i, 2)) (hl : ls[i]? = some (.val (.long x))) (k : Wq E H locs (pc + 2) ls (.long x :: rest)) : Wq E H locs pc ls (rest) := lv_lload Cx.1 Cx.2.1 hdg hl k
theorem q_aload_n {E : WE} {own : String} {cc : ByteArray} {nL fr lo : Nat} (Cx : CX E own cc nL fr lo) {H : Heap} {locs : List Loc} {pc : Nat} {ls : Array Slot} {rest : List Value} {n : Fin 4} {i : Nat} {x : Nat} (hdg : decode cc pc = .ok (.aload_n n, 1)) (hi : (n : Nat) = i) (hl : ls[i]? = some (.val (.ref x))) (k : Wq E H locs (pc + 1) ls (.ref x :: rest)) : Wq E H locs pc ls (rest) := lv_aload_n Cx.1 Cx.2.1 hdg hi hl k
theorem q_aload {E : WE} {own : String} {cc : ByteArray} {nL fr lo : Nat} (Cx : CX E own cc nL fr lo) {H : Heap} {locs : List Loc} {pc : Nat} {ls : Array Slot} {rest : List Value} {i : Nat} {x : Nat} (hdg : decode cc pc = .ok (.aload i, 2)) (hl : ls[i]? = some (.val (.ref x))) (k : Wq E H locs (pc + 2) ls (.ref x :: rest)) : Wq E H locs pc ls (rest) := lv_aload Cx.1 Cx.2.1 hdg hl k
theorem q_istore_n {E : WE} {own : String} {cc : ByteArray} {nL fr lo : Nat} (Cx : CX E own cc nL fr lo) {H : Heap} {locs : List Loc} {pc : Nat} {ls : Array Slot} {rest : List Value} {n : Fin 4} {i : Nat} {x : Int32} {lv lv' : List (Nat × Value)} (hdg : decode cc pc = .ok (.istore_n n, 1)) (hi : (n : Nat) = i) (h : lv_has ls nL lv) (hn : i < nL) (hl : (i, Value.int x) :: lv.filter (fun q => !(q.1 == i) && !(q.1 + 1 == i && q.2.category == 2)) = lv') (kk : ∀ ls' : Array Slot, lv_has ls' nL lv' → Wq E H locs (pc + 1) ls' rest) : Wq E H locs pc ls (.int x :: rest) := lv_istore_n Cx.1 Cx.2.1 hdg hi h hn hl kk
theorem q_istore {E : WE} {own : String} {cc : ByteArray} {nL fr lo : Nat} (Cx : CX E own cc nL fr lo) {H : Heap} {locs : List Loc} {pc : Nat} {ls : Array Slot} {rest : List Value} {i : Nat} {x : Int32} {lv lv' : List (Nat × Value)} (hdg : decode cc pc = .ok (.istore i, 2)) (h : lv_has ls nL lv) (hn : i < nL) (hl : (i, Value.int x) :: lv.filter (fun q => !(q.1 == i) && !(q.1 + 1 == i && q.2.category == 2)) = lv') (kk : ∀ ls' : Array Slot, lv_has ls' nL lv' → Wq E H locs (pc + 2) ls' rest) : Wq E H locs pc ls (.int x :: rest) := lv_istore Cx.1 Cx.2.1 hdg h hn hl kk
theorem q_astore_n {E : WE} {own : String} {cc : ByteArray} {nL fr lo : Nat} (Cx : CX E own cc nL fr lo) {H : Heap} {locs : List Loc} {pc : Nat} {ls : Array Slot} {rest : List Value} {n : Fin 4} {i : Nat} {x : Nat} {lv lv' : List (Nat × Value)} (hdg : decode cc pc = .ok (.astore_n n, 1)) (hi : (n : Nat) = i) (h : lv_has ls nL lv) (hn : i < nL) (hl : (i, Value.ref x) :: lv.filter (fun q => !(q.1 == i) && !(q.1 + 1 == i && q.2.category == 2)) = lv') (kk : ∀ ls' : Array Slot, lv_has ls' nL lv' → Wq E H locs (pc + 1) ls' rest) : Wq E H locs pc ls (.ref x :: rest) := lv_astore_n Cx.1 Cx.2.1 hdg hi h hn hl kk
theorem q_astore {E : WE} {own : String} {cc : ByteArray} {nL fr lo : Nat} (Cx : CX E own cc nL fr lo) {H : Heap} {locs : List Loc} {pc : Nat} {ls : Array Slot} {rest : List Value} {i : Nat} {x : Nat} {lv lv' : List (Nat × Value)} (hdg : decode cc pc = .ok (.astore i, 2)) (h : lv_has ls nL lv) (hn : i < nL) (hl : (i, Value.ref x) :: lv.filter (fun q => !(q.1 == i) && !(q.1 + 1 == i && q.2.category == 2)) = lv') (kk : ∀ ls' : Array Slot, lv_has ls' nL lv' → Wq E H locs (pc + 2) ls' rest) : Wq E H locs pc ls (.ref x :: rest) := lv_astore Cx.1 Cx.2.1 hdg h hn hl kk
theorem q_lstore_n {E : WE} {own : String} {cc : ByteArray} {nL fr lo : Nat} (Cx : CX E own cc nL fr lo) {H : Heap} {locs : List Loc} {pc : Nat} {ls : Array Slot} {rest : List Value} {n : Fin 4} {i : Nat} {x : Int64} {lv lv' : List (Nat × Value)} (hdg : decode cc pc = .ok (.lstore_n n, 1)) (hi : (n : Nat) = i) (h : lv_has ls nL lv) (hn : i + 1 < nL) (hl : (i, Value.long x) :: lv.filter (fun q => !(q.1 == i) && (!(q.1 == i + 1) && !(q.1 + 1 == i && q.2.category == 2))) = lv') (kk : ∀ ls' : Array Slot, lv_has ls' nL lv' → Wq E H locs (pc + 1) ls' rest) : Wq E H locs pc ls (.long x :: rest) := lv_lstore_n Cx.1 Cx.2.1 hdg hi h hn hl kk
theorem q_lstore {E : WE} {own : String} {cc : ByteArray} {nL fr lo : Nat} (Cx : CX E own cc nL fr lo) {H : Heap} {locs : List Loc} {pc : Nat} {ls : Array Slot} {rest : List Value} {i : Nat} {x : Int64} {lv lv' : List (Nat × Value)} (hdg : decode cc pc = .ok (.lstore i, 2)) (h : lv_has ls nL lv) (hn : i + 1 < nL) (hl : (i, Value.long x) :: lv.filter (fun q => !(q.1 == i) && (!(q.1 == i + 1) && !(q.1 + 1 == i && q.2.category == 2))) = lv') (kk : ∀ ls' : Array Slot, lv_has ls' nL lv' → Wq E H locs (pc + 2) ls' rest) : Wq E H locs pc ls (.long x :: rest) := lv_lstore Cx.1 Cx.2.1 hdg h hn hl kk
theorem q_iinc {E : WE} {own : String} {cc : ByteArray} {nL fr lo : Nat} (Cx : CX E own cc nL fr lo) {H : Heap} {locs : List Loc} {pc : Nat} {ls : Array Slot} {rest : List Value} {i k : Nat} {n : Int} {x v : Int32} {lv lv' : List (Nat × Value)} (hdg : decode cc pc = .ok (.iinc i n, 3)) (h : lv_has ls nL lv) (hk : lv[k]? = some (i, .int x)) (hv : x + Int32.ofInt n = v) (hn : i < nL) (hl : (i, Value.int v) :: lv.filter (fun q => !(q.1 == i) && !(q.1 + 1 == i && q.2.category == 2)) = lv') (kk : ∀ ls' : Array Slot, lv_has ls' nL lv' → Wq E H locs (pc + 3) ls' rest) : Wq E H locs pc ls rest := lv_iinc Cx.1 Cx.2.1 hdg h hk hv hn hl kk
theorem q_iadd {E : WE} {own : String} {cc : ByteArray} {nL fr lo : Nat} (Cx : CX E own cc nL fr lo) {H : Heap} {locs : List Loc} {pc : Nat} {ls : Array Slot} {rest : List Value} {x y : Int32} (hdg : decode cc pc = .ok (.iadd, 1)) (k : Wq E H locs (pc + 1) ls (.int (x + y) :: rest)) : Wq E H locs pc ls (.int y :: .int x :: rest) := lv_iadd Cx.1 Cx.2.1 hdg k
theorem q_isub {E : WE} {own : String} {cc : ByteArray} {nL fr lo : Nat} (Cx : CX E own cc nL fr lo) {H : Heap} {locs : List Loc} {pc : Nat} {ls : Array Slot} {rest : List Value} {x y : Int32} (hdg : decode cc pc = .ok (.isub, 1)) (k : Wq E H locs (pc + 1) ls (.int (x - y) :: rest)) : Wq E H locs pc ls (.int y :: .int x :: rest) := lv_isub Cx.1 Cx.2.1 hdg k
theorem q_imul {E : WE} {own : String} {cc : ByteArray} {nL fr lo : Nat} (Cx : CX E own cc nL fr lo) {H : Heap} {locs : List Loc} {pc : Nat} {ls : Array Slot} {rest : List Value} {x y : Int32} (hdg : decode cc pc = .ok (.imul, 1)) (k : Wq E H locs (pc + 1) ls (.int (x * y) :: rest)) : Wq E H locs pc ls (.int y :: .int x :: rest) := lv_imul Cx.1 Cx.2.1 hdg k
theorem q_iand {E : WE} {own : String} {cc : ByteArray} {nL fr lo : Nat} (Cx : CX E own cc nL fr lo) {H : Heap} {locs : List Loc} {pc : Nat} {ls : Array Slot} {rest : List Value} {x y : Int32} (hdg : decode cc pc = .ok (.iand, 1)) (k : Wq E H locs (pc + 1) ls (.int (x &&& y) :: rest)) : Wq E H locs pc ls (.int y :: .int x :: rest) := lv_iand Cx.1 Cx.2.1 hdg k
theorem q_ior {E : WE} {own : String} {cc : ByteArray} {nL fr lo : Nat} (Cx : CX E own cc nL fr lo) {H : Heap} {locs : List Loc} {pc : Nat} {ls : Array Slot} {rest : List Value} {x y : Int32} (hdg : decode cc pc = .ok (.ior, 1)) (k : Wq E H locs (pc + 1) ls (.int (x ||| y) :: rest)) : Wq E H locs pc ls (.int y :: .int x :: rest) := lv_ior Cx.1 Cx.2.1 hdg k
theorem q_ishl {E : WE} {own : String} {cc : ByteArray} {nL fr lo : Nat} (Cx : CX E own cc nL fr lo) {H : Heap} {locs : List Loc} {pc : Nat} {ls : Array Slot} {rest : List Value} {x y : Int32} (hdg : decode cc pc = .ok (.ishl, 1)) (k : Wq E H locs (pc + 1) ls (.int (x <<< (y &&& 31)) :: rest)) : Wq E H locs pc ls (.int y :: .int x :: rest) := lv_ishl Cx.1 Cx.2.1 hdg k
theorem q_ishr {E : WE} {own : String} {cc : ByteArray} {nL fr lo : Nat} (Cx : CX E own cc nL fr lo) {H : Heap} {locs : List Loc} {pc : Nat} {ls : Array Slot} {rest : List Value} {x y : Int32} (hdg : decode cc pc = .ok (.ishr, 1)) (k : Wq E H locs (pc + 1) ls (.int (x >>> (y &&& 31)) :: rest)) : Wq E H locs pc ls (.int y :: .int x :: rest) := lv_ishr Cx.1 Cx.2.1 hdg k
theorem q_idiv {E : WE} {own : String} {cc : ByteArray} {nL fr lo : Nat} (Cx : CX E own cc nL fr lo) {H : Heap} {locs : List Loc} {pc : Nat} {ls : Array Slot} {rest : List Value} {x y : Int32} (hdg : decode cc pc = .ok (.idiv, 1)) (hne : ¬ y = 0) (k : Wq E H locs (pc + 1) ls (.int (x / y) :: rest)) : Wq E H locs pc ls (.int y :: .int x :: rest) := lv_idiv Cx.1 Cx.2.1 hdg hne k
theorem q_irem {E : WE} {own : String} {cc : ByteArray} {nL fr lo : Nat} (Cx : CX E own cc nL fr lo) {H : Heap} {locs : List Loc} {pc : Nat} {ls : Array Slot} {rest : List Value} {x y : Int32} (hdg : decode cc pc = .ok (.irem, 1)) (hne : ¬ y = 0) (k : Wq E H locs (pc + 1) ls (.int (x - x / y * y) :: rest)) : Wq E H locs pc ls (.int y :: .int x :: rest) := lv_irem Cx.1 Cx.2.1 hdg hne k
theorem q_land {E : WE} {own : String} {cc : ByteArray} {nL fr lo : Nat} (Cx : CX E own cc nL fr lo) {H : Heap} {locs : List Loc} {pc : Nat} {ls : Array Slot} {rest : List Value} {x y : Int64} (hdg : decode cc pc = .ok (.land, 1)) (k : Wq E H locs (pc + 1) ls (.long (x &&& y) :: rest)) : Wq E H locs pc ls (.long y :: .long x :: rest) := lv_land Cx.1 Cx.2.1 hdg k
theorem q_lor {E : WE} {own : String} {cc : ByteArray} {nL fr lo : Nat} (Cx : CX E own cc nL fr lo) {H : Heap} {locs : List Loc} {pc : Nat} {ls : Array Slot} {rest : List Value} {x y : Int64} (hdg : decode cc pc = .ok (.lor, 1)) (k : Wq E H locs (pc + 1) ls (.long (x ||| y) :: rest)) : Wq E H locs pc ls (.long y :: .long x :: rest) := lv_lor Cx.1 Cx.2.1 hdg k
theorem q_lcmp {E : WE} {own : String} {cc : ByteArray} {nL fr lo : Nat} (Cx : CX E own cc nL fr lo) {H : Heap} {locs : List Loc} {pc : Nat} {ls : Array Slot} {rest : List Value} {x y : Int64} (hdg : decode cc pc = .ok (.lcmp, 1)) (k : Wq E H locs (pc + 1) ls (.int (lg_cmp x y) :: rest)) : Wq E H locs pc ls (.long y :: .long x :: rest) := W.lcmp Cx.1 Cx.2.1 hdg k
theorem q_i2l {E : WE} {own : String} {cc : ByteArray} {nL fr lo : Nat} (Cx : CX E own cc nL fr lo) {H : Heap} {locs : List Loc} {pc : Nat} {ls : Array Slot} {rest : List Value} {x : Int32} (hdg : decode cc pc = .ok (.i2l, 1)) (k : Wq E H locs (pc + 1) ls (.long x.toInt64 :: rest)) : Wq E H locs pc ls (.int x :: rest) := lv_i2l Cx.1 Cx.2.1 hdg rfl k
theorem q_l2i {E : WE} {own : String} {cc : ByteArray} {nL fr lo : Nat} (Cx : CX E own cc nL fr lo) {H : Heap} {locs : List Loc} {pc : Nat} {ls : Array Slot} {rest : List Value} {x : Int64} (hdg : decode cc pc = .ok (.l2i, 1)) (k : Wq E H locs (pc + 1) ls (.int x.toInt32 :: rest)) : Wq E H locs pc ls (.long x :: rest) := lv_l2i Cx.1 Cx.2.1 hdg rfl k
theorem q_i2c {E : WE} {own : String} {cc : ByteArray} {nL fr lo : Nat} (Cx : CX E own cc nL fr lo) {H : Heap} {locs : List Loc} {pc : Nat} {ls : Array Slot} {rest : List Value} {x : Int32} (hdg : decode cc pc = .ok (.i2c, 1)) (k : Wq E H locs (pc + 1) ls (.int (x.toUInt32 % 65536).toInt32 :: rest)) : Wq E H locs pc ls (.int x :: rest) := lv_i2c Cx.1 Cx.2.1 hdg rfl k
theorem q_lushr {E : WE} {own : String} {cc : ByteArray} {nL fr lo : Nat} (Cx : CX E own cc nL fr lo) {H : Heap} {locs : List Loc} {pc : Nat} {ls : Array Slot} {rest : List Value} {x : Int64} {y : Int32} (hdg : decode cc pc = .ok (.lushr, 1)) (k : Wq E H locs (pc + 1) ls (.long (x.toUInt64 >>> (y.toInt64.toUInt64 &&& Int64.toUInt64 63)).toInt64 :: rest)) : Wq E H locs pc ls (.int y :: .long x :: rest) := lv_lushr Cx.1 Cx.2.1 hdg rfl k
theorem q_lshl {E : WE} {own : String} {cc : ByteArray} {nL fr lo : Nat} (Cx : CX E own cc nL fr lo) {H : Heap} {locs : List Loc} {pc : Nat} {ls : Array Slot} {rest : List Value} {x : Int64} {y : Int32} (hdg : decode cc pc = .ok (.lshl, 1)) (k : Wq E H locs (pc + 1) ls (.long (x <<< (y.toInt64 &&& 63)) :: rest)) : Wq E H locs pc ls (.int y :: .long x :: rest) := lv_lshl Cx.1 Cx.2.1 hdg rfl k
theorem q_dup {E : WE} {own : String} {cc : ByteArray} {nL fr lo : Nat} (Cx : CX E own cc nL fr lo) {H : Heap} {locs : List Loc} {pc : Nat} {ls : Array Slot} {rest : List Value} {va : Value} (hdg : decode cc pc = .ok (.dup, 1)) (hva : va.category = 1) (k : Wq E H locs (pc + 1) ls (va :: va :: rest)) : Wq E H locs pc ls (va :: rest) := lv_dup Cx.1 Cx.2.1 hdg hva k
theorem q_pop {E : WE} {own : String} {cc : ByteArray} {nL fr lo : Nat} (Cx : CX E own cc nL fr lo) {H : Heap} {locs : List Loc} {pc : Nat} {ls : Array Slot} {rest : List Value} {va : Value} (hdg : decode cc pc = .ok (.pop, 1)) (hva : va.category = 1) (k : Wq E H locs (pc + 1) ls (rest)) : Wq E H locs pc ls (va :: rest) := lv_pop Cx.1 Cx.2.1 hdg hva k
theorem q_dup2 {E : WE} {own : String} {cc : ByteArray} {nL fr lo : Nat} (Cx : CX E own cc nL fr lo) {H : Heap} {locs : List Loc} {pc : Nat} {ls : Array Slot} {rest : List Value} {va vb : Value} (hdg : decode cc pc = .ok (.dup2, 1)) (hva : va.category = 1) (hvb : vb.category = 1) (k : Wq E H locs (pc + 1) ls (va :: vb :: va :: vb :: rest)) : Wq E H locs pc ls (va :: vb :: rest) := lv_dup2_11 Cx.1 Cx.2.1 hdg hva hvb k
theorem q_if_eq {E : WE} {own : String} {cc : ByteArray} {nL fr lo : Nat} (Cx : CX E own cc nL fr lo) {H : Heap} {locs : List Loc} {pc : Nat} {ls : Array Slot} {rest : List Value} {x : Int32} {off : Int} {tgt : Nat} (hdg : decode cc pc = .ok (.ifCond .eq off, 3)) (ht : (pc : Int) + off = (tgt : Int)) (kt : x = 0 → Wq E H locs tgt ls rest) (kf : ¬ x = 0 → Wq E H locs (pc + 3) ls rest) : Wq E H locs pc ls (.int x :: rest) := lv_if_eq Cx.1 Cx.2.1 hdg ht kt kf
theorem q_if_ne {E : WE} {own : String} {cc : ByteArray} {nL fr lo : Nat} (Cx : CX E own cc nL fr lo) {H : Heap} {locs : List Loc} {pc : Nat} {ls : Array Slot} {rest : List Value} {x : Int32} {off : Int} {tgt : Nat} (hdg : decode cc pc = .ok (.ifCond .ne off, 3)) (ht : (pc : Int) + off = (tgt : Int)) (kt : ¬ x = 0 → Wq E H locs tgt ls rest) (kf : x = 0 → Wq E H locs (pc + 3) ls rest) : Wq E H locs pc ls (.int x :: rest) := lv_if_ne Cx.1 Cx.2.1 hdg ht kt kf
theorem q_if_lt {E : WE} {own : String} {cc : ByteArray} {nL fr lo : Nat} (Cx : CX E own cc nL fr lo) {H : Heap} {locs : List Loc} {pc : Nat} {ls : Array Slot} {rest : List Value} {x : Int32} {off : Int} {tgt : Nat} (hdg : decode cc pc = .ok (.ifCond .lt off, 3)) (ht : (pc : Int) + off = (tgt : Int)) (kt : x < 0 → Wq E H locs tgt ls rest) (kf : ¬ x < 0 → Wq E H locs (pc + 3) ls rest) : Wq E H locs pc ls (.int x :: rest) := lv_if_lt Cx.1 Cx.2.1 hdg ht kt kf
theorem q_if_ge {E : WE} {own : String} {cc : ByteArray} {nL fr lo : Nat} (Cx : CX E own cc nL fr lo) {H : Heap} {locs : List Loc} {pc : Nat} {ls : Array Slot} {rest : List Value} {x : Int32} {off : Int} {tgt : Nat} (hdg : decode cc pc = .ok (.ifCond .ge off, 3)) (ht : (pc : Int) + off = (tgt : Int)) (kt : 0 ≤ x → Wq E H locs tgt ls rest) (kf : ¬ 0 ≤ x → Wq E H locs (pc + 3) ls rest) : Wq E H locs pc ls (.int x :: rest) := lv_if_ge Cx.1 Cx.2.1 hdg ht kt kf
theorem q_if_gt {E : WE} {own : String} {cc : ByteArray} {nL fr lo : Nat} (Cx : CX E own cc nL fr lo) {H : Heap} {locs : List Loc} {pc : Nat} {ls : Array Slot} {rest : List Value} {x : Int32} {off : Int} {tgt : Nat} (hdg : decode cc pc = .ok (.ifCond .gt off, 3)) (ht : (pc : Int) + off = (tgt : Int)) (kt : 0 < x → Wq E H locs tgt ls rest) (kf : ¬ 0 < x → Wq E H locs (pc + 3) ls rest) : Wq E H locs pc ls (.int x :: rest) := lv_if_gt Cx.1 Cx.2.1 hdg ht kt kf
theorem q_if_le {E : WE} {own : String} {cc : ByteArray} {nL fr lo : Nat} (Cx : CX E own cc nL fr lo) {H : Heap} {locs : List Loc} {pc : Nat} {ls : Array Slot} {rest : List Value} {x : Int32} {off : Int} {tgt : Nat} (hdg : decode cc pc = .ok (.ifCond .le off, 3)) (ht : (pc : Int) + off = (tgt : Int)) (kt : x ≤ 0 → Wq E H locs tgt ls rest) (kf : ¬ x ≤ 0 → Wq E H locs (pc + 3) ls rest) : Wq E H locs pc ls (.int x :: rest) := lv_if_le Cx.1 Cx.2.1 hdg ht kt kf
theorem q_icmp_eq {E : WE} {own : String} {cc : ByteArray} {nL fr lo : Nat} (Cx : CX E own cc nL fr lo) {H : Heap} {locs : List Loc} {pc : Nat} {ls : Array Slot} {rest : List Value} {x y : Int32} {off : Int} {tgt : Nat} (hdg : decode cc pc = .ok (.if_icmp .eq off, 3)) (ht : (pc : Int) + off = (tgt : Int)) (kt : x = y → Wq E H locs tgt ls rest) (kf : ¬ x = y → Wq E H locs (pc + 3) ls rest) : Wq E H locs pc ls (.int y :: .int x :: rest) := lv_icmp_eq Cx.1 Cx.2.1 hdg ht kt kf
theorem q_icmp_ne {E : WE} {own : String} {cc : ByteArray} {nL fr lo : Nat} (Cx : CX E own cc nL fr lo) {H : Heap} {locs : List Loc} {pc : Nat} {ls : Array Slot} {rest : List Value} {x y : Int32} {off : Int} {tgt : Nat} (hdg : decode cc pc = .ok (.if_icmp .ne off, 3)) (ht : (pc : Int) + off = (tgt : Int)) (kt : ¬ x = y → Wq E H locs tgt ls rest) (kf : x = y → Wq E H locs (pc + 3) ls rest) : Wq E H locs pc ls (.int y :: .int x :: rest) := lv_icmp_ne Cx.1 Cx.2.1 hdg ht kt kf
theorem q_icmp_lt {E : WE} {own : String} {cc : ByteArray} {nL fr lo : Nat} (Cx : CX E own cc nL fr lo) {H : Heap} {locs : List Loc} {pc : Nat} {ls : Array Slot} {rest : List Value} {x y : Int32} {off : Int} {tgt : Nat} (hdg : decode cc pc = .ok (.if_icmp .lt off, 3)) (ht : (pc : Int) + off = (tgt : Int)) (kt : x < y → Wq E H locs tgt ls rest) (kf : ¬ x < y → Wq E H locs (pc + 3) ls rest) : Wq E H locs pc ls (.int y :: .int x :: rest) := lv_icmp_lt Cx.1 Cx.2.1 hdg ht kt kf
theorem q_icmp_ge {E : WE} {own : String} {cc : ByteArray} {nL fr lo : Nat} (Cx : CX E own cc nL fr lo) {H : Heap} {locs : List Loc} {pc : Nat} {ls : Array Slot} {rest : List Value} {x y : Int32} {off : Int} {tgt : Nat} (hdg : decode cc pc = .ok (.if_icmp .ge off, 3)) (ht : (pc : Int) + off = (tgt : Int)) (kt : y ≤ x → Wq E H locs tgt ls rest) (kf : ¬ y ≤ x → Wq E H locs (pc + 3) ls rest) : Wq E H locs pc ls (.int y :: .int x :: rest) := lv_icmp_ge Cx.1 Cx.2.1 hdg ht kt kf
theorem q_icmp_gt {E : WE} {own : String} {cc : ByteArray} {nL fr lo : Nat} (Cx : CX E own cc nL fr lo) {H : Heap} {locs : List Loc} {pc : Nat} {ls : Array Slot} {rest : List Value} {x y : Int32} {off : Int} {tgt : Nat} (hdg : decode cc pc = .ok (.if_icmp .gt off, 3)) (ht : (pc : Int) + off = (tgt : Int)) (kt : y < x → Wq E H locs tgt ls rest) (kf : ¬ y < x → Wq E H locs (pc + 3) ls rest) : Wq E H locs pc ls (.int y :: .int x :: rest) := lv_icmp_gt Cx.1 Cx.2.1 hdg ht kt kf
theorem q_icmp_le {E : WE} {own : String} {cc : ByteArray} {nL fr lo : Nat} (Cx : CX E own cc nL fr lo) {H : Heap} {locs : List Loc} {pc : Nat} {ls : Array Slot} {rest : List Value} {x y : Int32} {off : Int} {tgt : Nat} (hdg : decode cc pc = .ok (.if_icmp .le off, 3)) (ht : (pc : Int) + off = (tgt : Int)) (kt : x ≤ y → Wq E H locs tgt ls rest) (kf : ¬ x ≤ y → Wq E H locs (pc + 3) ls rest) : Wq E H locs pc ls (.int y :: .int x :: rest) := lv_icmp_le Cx.1 Cx.2.1 hdg ht kt kf
theorem q_goto {E : WE} {own : String} {cc : ByteArray} {nL fr lo : Nat} (Cx : CX E own cc nL fr lo) {H : Heap} {locs : List Loc} {pc : Nat} {ls : Array Slot} {rest : List Value} {off : Int} {tgt : Nat} (hdg : decode cc pc = .ok (.goto off, 3)) (ht : (pc : Int) + off = (tgt : Int)) (k : Wq E H locs tgt ls rest) : Wq E H locs pc ls rest := lv_goto Cx.1 Cx.2.1 hdg ht k
theorem q_ifnull {E : WE} {own : String} {cc : ByteArray} {nL fr lo : Nat} (Cx : CX E own cc nL fr lo) {H : Heap} {locs : List Loc} {pc : Nat} {ls : Array Slot} {rest : List Value} {x : Nat} {off : Int} (hdg : decode cc pc = .ok (.ifnull off, 3)) (k : Wq E H locs (pc + 3) ls rest) : Wq E H locs pc ls (.ref x :: rest) := lv_ifnull Cx.1 Cx.2.1 hdg k
theorem q_ifnonnull {E : WE} {own : String} {cc : ByteArray} {nL fr lo : Nat} (Cx : CX E own cc nL fr lo) {H : Heap} {locs : List Loc} {pc : Nat} {ls : Array Slot} {rest : List Value} {x : Nat} {off : Int} {tgt : Nat} (hdg : decode cc pc = .ok (.ifnonnull off, 3)) (ht : (pc : Int) + off = (tgt : Int)) (k : Wq E H locs tgt ls rest) : Wq E H locs pc ls (.ref x :: rest) := lv_ifnonnull Cx.1 Cx.2.1 hdg ht k
theorem q_lookup {E : WE} {own : String} {cc : ByteArray} {nL fr lo : Nat} (Cx : CX E own cc nL fr lo) {H : Heap} {locs : List Loc} {pc : Nat} {ls : Array Slot} {rest : List Value} {dflt : Int} {ps : Array (Int × Int)} {len : Nat} {x : Int32} {off : Int} {tgt : Nat} (hdg : decode cc pc = .ok (.lookupswitch dflt ps, len)) (hp : (ps.toList.zip (ps.toList.drop 1)).all (fun (a, next) => a.1 < next.1) = true) (ho : Op.lookupswitch.offset ps.toList dflt x.toInt = off) (ht : (pc : Int) + off = (tgt : Int)) (k : Wq E H locs tgt ls rest) : Wq E H locs pc ls (.int x :: rest) := lv_lookup Cx.1 Cx.2.1 hdg hp ho ht k
theorem q_tableOut {E : WE} {own : String} {cc : ByteArray} {nL fr lo : Nat} (Cx : CX E own cc nL fr lo) {H : Heap} {locs : List Loc} {pc : Nat} {ls : Array Slot} {rest : List Value} {dflt l0 hi : Int} {offs : Array Int} {len : Nat} {x : Int32} {tgt : Nat} (hdg : decode cc pc = .ok (.tableswitch dflt l0 hi offs, len)) (h : x.toInt < l0 ∨ hi < x.toInt) (ht : (pc : Int) + dflt = (tgt : Int)) (k : Wq E H locs tgt ls rest) : Wq E H locs pc ls (.int x :: rest) := lv_tableOut Cx.1 Cx.2.1 hdg h ht k
theorem q_tableIn {E : WE} {own : String} {cc : ByteArray} {nL fr lo : Nat} (Cx : CX E own cc nL fr lo) {H : Heap} {locs : List Loc} {pc : Nat} {ls : Array Slot} {rest : List Value} {dflt l0 hi : Int} {offs : Array Int} {len : Nat} {x : Int32} {off : Int} {tgt : Nat} (hdg : decode cc pc = .ok (.tableswitch dflt l0 hi offs, len)) (h1 : ¬ x.toInt < l0) (h2 : ¬ hi < x.toInt) (ho : offs[(x.toInt - l0).toNat]? = some off) (ht : (pc : Int) + off = (tgt : Int)) (k : Wq E H locs tgt ls rest) : Wq E H locs pc ls (.int x :: rest) := lv_tableIn Cx.1 Cx.2.1 hdg h1 h2 ho ht k
/-! the heap -/
def isI (j o n t : Nat) : Prop := isPl j o ∧ ∀ (V : VT) (M : Mem), ∃ (cA : ClassId) (ty : FieldType), (vT V)[t]? = some (cA, ty) ∧ cellOf V M (j, o) = .inl (cA, n, .inl (M j o))
/-- an object's cell: its class, its fields -/
def isO (V : VT) (j o ci : Nat) (fs : Blk → List Value) : Prop := isPl j o ∧ ∀ (M : Mem), cellOf V M (j, o) = .inr (ci, fs (M j))
theorem isI_M0 {j o : Nat} (hj : j < 11) (h : o < 21) {n : Nat} (hc : ∀ (V : VT) (B : Blk), cellM V j B o = .inl (vI V, n, .inl (B o))) : isI j o n 0 := ⟨pl_M hj h, fun V M => ⟨vI V, .int, rfl, by unfold cellOf; dsimp only; rw [if_pos hj]; exact hc V _⟩⟩
theorem ai_3 {j : Nat} (hj : j < 11) : isI j 3 24 0 := isI_M0 hj (by decide) (fun _ _ => rfl)
theorem ai_4 {j : Nat} (hj : j < 11) : isI j 4 24 0 := isI_M0 hj (by decide) (fun _ _ => rfl)
theorem ai_5 {j : Nat} (hj : j < 11) : isI j 5 24 0 := isI_M0 hj (by decide) (fun _ _ => rfl)
theorem ai_6 {j : Nat} (hj : j < 11) : isI j 6 24 0 := isI_M0 hj (by decide) (fun _ _ => rfl)
theorem ai_7 {j : Nat} (hj : j < 11) : isI j 7 24 0 := isI_M0 hj (by decide) (fun _ _ => rfl)
theorem ai_8 {j : Nat} (hj : j < 11) : isI j 8 96 0 := isI_M0 hj (by decide) (fun _ _ => rfl)
theorem ai_9 {j : Nat} (hj : j < 11) : isI j 9 4 0 := isI_M0 hj (by decide) (fun _ _ => rfl)
theorem ai_10 {j : Nat} (hj : j < 11) : isI j 10 4 0 := isI_M0 hj (by decide) (fun _ _ => rfl)
theorem ai_11 {j : Nat} (hj : j < 11) : isI j 11 24 0 := isI_M0 hj (by decide) (fun _ _ => rfl)
theorem ai_12 {j : Nat} (hj : j < 11) : isI j 12 40 0 := isI_M0 hj (by decide) (fun _ _ => rfl)
theorem ai_13 {j : Nat} (hj : j < 11) : isI j 13 40 0 := isI_M0 hj (by decide) (fun _ _ => rfl)
theorem ai_14 {j : Nat} (hj : j < 11) : isI j 14 40 0 := isI_M0 hj (by decide) (fun _ _ => rfl)
theorem ai_15 {j : Nat} (hj : j < 11) : isI j 15 40 0 := isI_M0 hj (by decide) (fun _ _ => rfl)
theorem ai_16 {j : Nat} (hj : j < 11) : isI j 16 24 0 := isI_M0 hj (by decide) (fun _ _ => rfl)
theorem ai_17 {j : Nat} (hj : j < 11) : isI j 17 24 0 := isI_M0 hj (by decide) (fun _ _ => rfl)
theorem ai_18 {j : Nat} (hj : j < 11) : isI j 18 24 0 := isI_M0 hj (by decide) (fun _ _ => rfl)
theorem ai_19 {j : Nat} (hj : j < 11) : isI j 19 24 0 := isI_M0 hj (by decide) (fun _ _ => rfl)
theorem ai_20 {j : Nat} (hj : j < 11) : isI j 20 24 0 := isI_M0 hj (by decide) (fun _ _ => rfl)
theorem ax_2 : isI 11 2 2 1 := ⟨pl_X (by decide), fun V M => ⟨vZ V, .boolean, rfl, rfl⟩⟩
theorem ax_6 : isI 11 6 80 2 := ⟨pl_X (by decide), fun V M => ⟨vC V, .char, rfl, rfl⟩⟩
theorem ax_7 : isI 11 7 5 0 := ⟨pl_X (by decide), fun V M => ⟨vI V, .int, rfl, rfl⟩⟩
theorem az_1 : isI 12 1 356 0 := ⟨pl_Z (by decide), fun V M => ⟨vI V, .int, rfl, rfl⟩⟩
theorem az_2 : isI 12 2 2136 0 := ⟨pl_Z (by decide), fun V M => ⟨vI V, .int, rfl, rfl⟩⟩
theorem az_3 : isI 12 3 712 0 := ⟨pl_Z (by decide), fun V M => ⟨vI V, .int, rfl, rfl⟩⟩
theorem az_4 : isI 12 4 2 1 := ⟨pl_Z (by decide), fun V M => ⟨vZ V, .boolean, rfl, rfl⟩⟩
theorem az_5 : isI 12 5 356 0 := ⟨pl_Z (by decide), fun V M => ⟨vI V, .int, rfl, rfl⟩⟩
theorem az_6 : isI 12 6 80 2 := ⟨pl_Z (by decide), fun V M => ⟨vC V, .char, rfl, rfl⟩⟩
theorem az_7 : isI 12 7 24 0 := ⟨pl_Z (by decide), fun V M => ⟨vI V, .int, rfl, rfl⟩⟩
theorem az_8 : isI 12 8 24 0 := ⟨pl_Z (by decide), fun V M => ⟨vI V, .int, rfl, rfl⟩⟩
theorem az_9 : isI 12 9 24 0 := ⟨pl_Z (by decide), fun V M => ⟨vI V, .int, rfl, rfl⟩⟩
theorem az_10 : isI 12 10 24 0 := ⟨pl_Z (by decide), fun V M => ⟨vI V, .int, rfl, rfl⟩⟩
theorem az_11 : isI 12 11 252 0 := ⟨pl_Z (by decide), fun V M => ⟨vI V, .int, rfl, rfl⟩⟩
theorem oM {V : VT} {j : Nat} (hj : j < 11) : isO V j 0 2 (fun B => [.ref (vA V j 1), .ref (vA V j 2), .int (B 0 2), .int (B 0 3), .ref (vA V j 16), .ref (vA V j 17), .ref (vA V j 18), .ref (vA V j 19), .ref (vA V j 20)]) := ⟨pl_M hj (by decide), fun M => by unfold cellOf; dsimp only; rw [if_pos hj]; rfl⟩
theorem oP {V : VT} {j : Nat} (hj : j < 11) : isO V j 1 4 (fun B => [.int (B 1 0), .ref (vA V j 3), .ref (vA V j 4), .ref (vA V j 5), .ref (vA V j 6), .ref (vA V j 7), .ref (vA V j 8), .ref (vA V j 9), .ref (vA V j 10), .ref (vA V j 11)]) := ⟨pl_M hj (by decide), fun M => by unfold cellOf; dsimp only; rw [if_pos hj]; rfl⟩
theorem oC {V : VT} {j : Nat} (hj : j < 11) : isO V j 2 0 (fun B => [.int (B 2 0), .ref (vA V j 12), .ref (vA V j 13), .ref (vA V j 14), .ref (vA V j 15)]) := ⟨pl_M hj (by decide), fun M => by unfold cellOf; dsimp only; rw [if_pos hj]; rfl⟩
theorem oX {V : VT} : isO V 11 0 5 (fun _ => [.ref (vA V 0 0), .ref (vA V 1 0), .ref (vA V 11 3), .ref (vA V 11 1), .ref (vA V 11 2), .ref (vA V 11 5)]) := ⟨pl_X (by decide), fun _ => rfl⟩
theorem oH {V : VT} : isO V 11 3 1 (fun B => [.ref (vA V 11 4), .int (B 3 1), .int (B 3 2)]) := ⟨pl_X (by decide), fun _ => rfl⟩
theorem oQ {V : VT} : isO V 11 5 3 (fun B => [.ref (vA V 11 6), .int (B 5 1), .int (B 5 2), .int (B 5 3), .ref (vA V 11 7), .int (B 5 5)]) := ⟨pl_X (by decide), fun _ => rfl⟩
theorem oZ {V : VT} : isO V 12 0 6 (fun B => [.ref (vA V 12 1), .ref (vA V 12 2), .ref (vA V 12 3), .ref (vA V 12 4), .ref (vA V 12 5), .int (B 0 5), .int (B 0 6), .ref (vA V 12 6), .int (B 0 8), .ref (vA V 12 7), .ref (vA V 12 8), .int (B 0 11), .int (B 0 12), .ref (vA V 12 9), .ref (vA V 12 10), .ref (vA V 12 11), .int (B 0 16), .int (B 0 17), .int (B 0 18)]) := ⟨pl_Z (by decide), fun _ => rfl⟩
/-- a class of the world: its number, name, fields -/
def isC (ci : Nat) (C : String) (T : u_T) (N : Nat) (ty : Nat → FieldType) : Prop := vwCl[ci]? = some (C, T, N) ∧ (∀ w ∈ u_ws C T N, w ∈ lw_gd) ∧ (∀ k, k < N → parseFieldDescriptor (T k).2.2.1 = some (ty k)) ∧ (∀ a, a < N → ∀ b, b < N → a ≠ b → (T a).2.1 ≠ (T b).2.1)
theorem ic0 : isC 0 RX0 TX0 5 tyX0 := ⟨rfl, gd_X0, tyX0_ok, nmX0⟩
theorem ic1 : isC 1 RX1 TX1 3 tyX1 := ⟨rfl, gd_X1, tyX1_ok, nmX1⟩
theorem ic2 : isC 2 RX2 TX2 9 tyX2 := ⟨rfl, gd_X2, tyX2_ok, nmX2⟩
theorem ic3 : isC 3 RX3 TX3 6 tyX3 := ⟨rfl, gd_X3, tyX3_ok, nmX3⟩
theorem ic4 : isC 4 RX4 TX4 10 tyX4 := ⟨rfl, gd_X4, tyX4_ok, nmX4⟩
theorem ic5 : isC 5 RX5 TX5 6 tyX5 := ⟨rfl, gd_X5, tyX5_ok, nmX5⟩
theorem ic6 : isC 6 RX6 TX6 19 tyX6 := ⟨rfl, gd_X6, tyX6_ok, nmX6⟩
/-- a field is read: 'v' is what the cell's list holds -/
theorem q_get {E : WE} {own : String} {cc : ByteArray} {nL fr lo : Nat} (Cx : CX E own cc nL fr lo) {H : Heap} {locs : List Loc} {pc : Nat} {ls : Array Slot} {rest : List Value} {V : VT} {A : Nat → Prop} {H0 : Heap} {M : Mem} (hW : Wd V A H0 M (eS E) H locs) {j o ci : Nat} {fs : Blk → List Value} (ho : isO V j o ci fs) {C : String} {T : u_T} {N : Nat} {ty : Nat → FieldType} (hc : isC ci C T N ty) (k : Nat) {v : Value} (hk : k < N) (hv : (fs (M j))[k]? = some v) {index : Nat} (hlink : Cond.fieldLink own index (T k).1 (T k).2.1 (T k).2.2.1 ∈ lw_gd) (hdg : decode cc pc = .ok (.getfield index, 3)) (kk : Wq E H locs (pc + 3) ls (v :: rest)) : Wq E H locs pc ls (.ref (vA V j o) :: rest) := by
  obtain ⟨hK, hP, hD, hS⟩ := hW
  obtain ⟨⟨i, hi⟩, hcell⟩ := ho
  exact va_get (D := vD V) (cl := vwCl) (ws := wsOf V M) (C := C) (T := T) (N := N) (ci := ci) (own := own) (Ts := lw_gd) Cx.1 Cx.2.1 Cx.2.2.2.2.1 hc.2.1 Cx.2.2.2.1 hK hP i ((ws_at hi).trans (by rw [hcell])) hc.1 k hk (Cx.2.2.2.2.1 _ hlink) (fun _ h => h) hv hdg kk
/-- a field is written -/
theorem q_put {E : WE} {own : String} {cc : ByteArray} {nL fr lo : Nat} (Cx : CX E own cc nL fr lo) {H : Heap} {locs : List Loc} {pc : Nat} {ls : Array Slot} {rest : List Value} {V : VT} {A : Nat → Prop} {H0 : Heap} {M : Mem} (hW : Wd V A H0 M (eS E) H locs) {j o ci : Nat} {fs : Blk → List Value} (ho : isO V j o ci fs) {C : String} {T : u_T} {N : Nat} {ty : Nat → FieldType} (hc : isC ci C T N ty) (k : Nat) {v : Int32} {B' : Blk} (hk : k < N) (hlen : k < (fs (M j)).length) (hB : ∀ o', o' ≠ o → B' o' = M j o') (hset : (fs (M j)).set k (.int v) = fs B') (hfin : (T k).2.2.2 = false) (hty : narrow (ty k) (.int v) = .int v ∧ fits (ty k) (.int v) = true) {index : Nat} (hlink : Cond.fieldLink own index (T k).1 (T k).2.1 (T k).2.2.1 ∈ lw_gd) (hdg : decode cc pc = .ok (.putfield index, 3)) (kk : ∀ (H1 : Heap) (locs1 : List Loc), Wd V A H0 (jb M j B') (eS E) H1 locs1 → Wq E H1 locs1 (pc + 3) ls rest) : Wq E H locs pc ls (.int v :: .ref (vA V j o) :: rest) := by
  obtain ⟨hK, hP, hD, hS⟩ := hW
  obtain ⟨⟨i, hi⟩, hcell⟩ := ho
  have e1 : (wsOf V M).set i (vA V j o, .inr (ci, (fs (M j)).set k (.int v))) = wsOf V (jb M j B') := by
    rw [hset, ← ws_set hi (jb_off hB), hcell (jb M j B'), jb_at]
  refine va_put (D := vD V) (cl := vwCl) (ws := wsOf V M) (C := C) (T := T) (N := N) (ci := ci) (own := own) (Ts := lw_gd) Cx.1 Cx.2.1 Cx.2.2.2.2.1 hc.2.1 ty hc.2.2.1 hc.2.2.2 Cx.2.2.2.1 hK hP hD hS i ((ws_at hi).trans (by rw [hcell])) hc.1 k hk (Cx.2.2.2.2.1 _ hlink) (fun _ h => h) hfin (hc.2.2.1 k hk) hty.1 hty.2 hlen hdg (fun H1 locs1 hP1 hD1 hS1 => ?_)
  rw [e1] at hP1 hD1
  exact kk H1 locs1 ⟨hK, hP1, hD1, hS1⟩
theorem isI_at {j o n t : Nat} {V : VT} {M : Mem} (h : isI j o n t) : ∃ (i : Nat) (cA : ClassId) (ty : FieldType), (vT V)[t]? = some (cA, ty) ∧ (wsOf V M)[i]? = some (vA V j o, .inl (cA, n, .inl (M j o))) ∧ ∀ (f : Nat → Int32), (wsOf V M).set i (vA V j o, .inl (cA, n, .inl f)) = wsOf V (jb M j (bc (M j) o f)) := by
  obtain ⟨⟨i, hi⟩, hc⟩ := h
  obtain ⟨cA, ty, h1, h2⟩ := hc V M
  refine ⟨i, cA, ty, h1, (ws_at hi).trans (by rw [h2]), fun f => ?_⟩
  rw [← ws_set hi (jb_off (M := M) (j := j) (o := o) (B := bc (M j) o f) (fun o' ho => bc_ne ho))]
  obtain ⟨cA2, ty2, h3, h4⟩ := hc V (jb M j (bc (M j) o f))
  have e : cA2 = cA := by rw [h1] at h3; cases h3; rfl
  rw [h4, e, jb_at, bc_at]
theorem bc_upd {B : Blk} {o k : Nat} {x : Int32} : bc B o (upd (B o) k x) = bs B o k x := rfl
theorem q_iald {E : WE} {own : String} {cc : ByteArray} {nL fr lo : Nat} (Cx : CX E own cc nL fr lo) {H : Heap} {locs : List Loc} {pc : Nat} {ls : Array Slot} {rest : List Value} {V : VT} {A : Nat → Prop} {H0 : Heap} {M : Mem} (hW : Wd V A H0 M (eS E) H locs) {j o n : Nat} (ho : isI j o n 0) {i v : Int32} (hin : vp_in i n) (hv : v = M j o i.toNatClampNeg) (hdg : decode cc pc = .ok (.iaload, 1)) (kk : Wq E H locs (pc + 1) ls (.int v :: rest)) : Wq E H locs pc ls (.int i :: .ref (vA V j o) :: rest) := by
  obtain ⟨hK, hP, hD, hS⟩ := hW
  obtain ⟨p, cA, ty, h1, h2, -⟩ := isI_at (V := V) (M := M) ho
  cases h1
  subst hv
  exact va_iald (D := vD V) (cl := vwCl) (tys := vT V) (ws := wsOf V M) Cx.1 Cx.2.1 hK hP p 0 h2 rfl hin hdg kk
theorem q_zald {E : WE} {own : String} {cc : ByteArray} {nL fr lo : Nat} (Cx : CX E own cc nL fr lo) {H : Heap} {locs : List Loc} {pc : Nat} {ls : Array Slot} {rest : List Value} {V : VT} {A : Nat → Prop} {H0 : Heap} {M : Mem} (hW : Wd V A H0 M (eS E) H locs) {j o n : Nat} (ho : isI j o n 1) {i v : Int32} (hin : vp_in i n) (hv : v = M j o i.toNatClampNeg) (hdg : decode cc pc = .ok (.baload, 1)) (kk : Wq E H locs (pc + 1) ls (.int v :: rest)) : Wq E H locs pc ls (.int i :: .ref (vA V j o) :: rest) := by
  obtain ⟨hK, hP, hD, hS⟩ := hW
  obtain ⟨p, cA, ty, h1, h2, -⟩ := isI_at (V := V) (M := M) ho
  cases h1
  subst hv
  exact va_zald (D := vD V) (cl := vwCl) (tys := vT V) (ws := wsOf V M) Cx.1 Cx.2.1 hK hP p 1 h2 rfl hin hdg kk
theorem q_cald {E : WE} {own : String} {cc : ByteArray} {nL fr lo : Nat} (Cx : CX E own cc nL fr lo) {H : Heap} {locs : List Loc} {pc : Nat} {ls : Array Slot} {rest : List Value} {V : VT} {A : Nat → Prop} {H0 : Heap} {M : Mem} (hW : Wd V A H0 M (eS E) H locs) {j o n : Nat} (ho : isI j o n 2) {i v : Int32} (hin : vp_in i n) (hv : v = M j o i.toNatClampNeg) (hdg : decode cc pc = .ok (.caload, 1)) (kk : Wq E H locs (pc + 1) ls (.int v :: rest)) : Wq E H locs pc ls (.int i :: .ref (vA V j o) :: rest) := by
  obtain ⟨hK, hP, hD, hS⟩ := hW
  obtain ⟨p, cA, ty, h1, h2, -⟩ := isI_at (V := V) (M := M) ho
  cases h1
  subst hv
  exact va_cald (D := vD V) (cl := vwCl) (tys := vT V) (ws := wsOf V M) Cx.1 Cx.2.1 hK hP p 2 h2 rfl hin hdg kk
theorem q_iast {E : WE} {own : String} {cc : ByteArray} {nL fr lo : Nat} (Cx : CX E own cc nL fr lo) {H : Heap} {locs : List Loc} {pc : Nat} {ls : Array Slot} {rest : List Value} {V : VT} {A : Nat → Prop} {H0 : Heap} {M : Mem} (hW : Wd V A H0 M (eS E) H locs) {j o n : Nat} (ho : isI j o n 0) {i x : Int32} (hin : vp_in i n) {B' : Blk} (hB : B' = bs (M j) o i.toNatClampNeg x) (hdg : decode cc pc = .ok (.iastore, 1)) (kk : ∀ (H1 : Heap) (locs1 : List Loc), Wd V A H0 (jb M j B') (eS E) H1 locs1 → Wq E H1 locs1 (pc + 1) ls rest) : Wq E H locs pc ls (.int x :: .int i :: .ref (vA V j o) :: rest) := by
  obtain ⟨hK, hP, hD, hS⟩ := hW
  obtain ⟨p, cA, ty, h1, h2, h3⟩ := isI_at (V := V) (M := M) ho
  cases h1
  refine va_iast (D := vD V) (cl := vwCl) (tys := vT V) (ws := wsOf V M) Cx.1 Cx.2.1 hK hP hD hS p 0 h2 rfl hin hdg (fun H1 locs1 hP1 hD1 hS1 => ?_)
  rw [h3, bc_upd, ← hB] at hP1 hD1
  exact kk H1 locs1 ⟨hK, hP1, hD1, hS1⟩
theorem q_zast {E : WE} {own : String} {cc : ByteArray} {nL fr lo : Nat} (Cx : CX E own cc nL fr lo) {H : Heap} {locs : List Loc} {pc : Nat} {ls : Array Slot} {rest : List Value} {V : VT} {A : Nat → Prop} {H0 : Heap} {M : Mem} (hW : Wd V A H0 M (eS E) H locs) {j o n : Nat} (ho : isI j o n 1) {i x : Int32} (hin : vp_in i n) {B' : Blk} (hB : B' = bs (M j) o i.toNatClampNeg (vp_nar .boolean x)) (hdg : decode cc pc = .ok (.bastore, 1)) (kk : ∀ (H1 : Heap) (locs1 : List Loc), Wd V A H0 (jb M j B') (eS E) H1 locs1 → Wq E H1 locs1 (pc + 1) ls rest) : Wq E H locs pc ls (.int x :: .int i :: .ref (vA V j o) :: rest) := by
  obtain ⟨hK, hP, hD, hS⟩ := hW
  obtain ⟨p, cA, ty, h1, h2, h3⟩ := isI_at (V := V) (M := M) ho
  cases h1
  refine va_zast (D := vD V) (cl := vwCl) (tys := vT V) (ws := wsOf V M) Cx.1 Cx.2.1 hK hP hD hS p 1 h2 rfl hin hdg (fun H1 locs1 hP1 hD1 hS1 => ?_)
  rw [h3, bc_upd, ← hB] at hP1 hD1
  exact kk H1 locs1 ⟨hK, hP1, hD1, hS1⟩
theorem q_cast {E : WE} {own : String} {cc : ByteArray} {nL fr lo : Nat} (Cx : CX E own cc nL fr lo) {H : Heap} {locs : List Loc} {pc : Nat} {ls : Array Slot} {rest : List Value} {V : VT} {A : Nat → Prop} {H0 : Heap} {M : Mem} (hW : Wd V A H0 M (eS E) H locs) {j o n : Nat} (ho : isI j o n 2) {i x : Int32} (hin : vp_in i n) {B' : Blk} (hB : B' = bs (M j) o i.toNatClampNeg (vp_nar .char x)) (hdg : decode cc pc = .ok (.castore, 1)) (kk : ∀ (H1 : Heap) (locs1 : List Loc), Wd V A H0 (jb M j B') (eS E) H1 locs1 → Wq E H1 locs1 (pc + 1) ls rest) : Wq E H locs pc ls (.int x :: .int i :: .ref (vA V j o) :: rest) := by
  obtain ⟨hK, hP, hD, hS⟩ := hW
  obtain ⟨p, cA, ty, h1, h2, h3⟩ := isI_at (V := V) (M := M) ho
  cases h1
  refine va_cast (D := vD V) (cl := vwCl) (tys := vT V) (ws := wsOf V M) Cx.1 Cx.2.1 hK hP hD hS p 2 h2 rfl hin hdg (fun H1 locs1 hP1 hD1 hS1 => ?_)
  rw [h3, bc_upd, ← hB] at hP1 hD1
  exact kk H1 locs1 ⟨hK, hP1, hD1, hS1⟩
theorem q_alen {E : WE} {own : String} {cc : ByteArray} {nL fr lo : Nat} (Cx : CX E own cc nL fr lo) {H : Heap} {locs : List Loc} {pc : Nat} {ls : Array Slot} {rest : List Value} {V : VT} {A : Nat → Prop} {H0 : Heap} {M : Mem} (hW : Wd V A H0 M (eS E) H locs) {j o n : Nat} (ho : isI j o n 0) {v : Int32} (hv : Int32.ofNat n = v) (hdg : decode cc pc = .ok (.arraylength, 1)) (kk : Wq E H locs (pc + 1) ls (.int v :: rest)) : Wq E H locs pc ls (.ref (vA V j o) :: rest) := by
  obtain ⟨hK, hP, hD, hS⟩ := hW
  obtain ⟨p, cA, ty, h1, h2, -⟩ := isI_at (V := V) (M := M) ho
  cases h1
  exact va_alen (D := vD V) (cl := vwCl) (tys := vT V) (ws := wsOf V M) Cx.1 Cx.2.1 hK hP p 0 h2 rfl hv hdg kk
/-- the rows of references: slots (11, 1), ring (11, 4) -/
def isR (o n b : Nat) : Prop := isPl 11 o ∧ ∀ (V : VT) (M : Mem), cellOf V M (11, o) = .inl (vM V, n, .inr (.inr (.inr (.inr (fun i => some (vA V (b + i) 0))))))
theorem ar_1 : isR 1 2 2 := ⟨pl_X (by decide), fun _ _ => rfl⟩
theorem ar_4 : isR 4 7 4 := ⟨pl_X (by decide), fun _ _ => rfl⟩
theorem q_aald {E : WE} {own : String} {cc : ByteArray} {nL fr lo : Nat} (Cx : CX E own cc nL fr lo) {H : Heap} {locs : List Loc} {pc : Nat} {ls : Array Slot} {rest : List Value} {V : VT} {A : Nat → Prop} {H0 : Heap} {M : Mem} (hW : Wd V A H0 M (eS E) H locs) {o n b : Nat} (ho : isR o n b) {i : Int32} (hin : vp_in i n) (hdg : decode cc pc = .ok (.aaload, 1)) (kk : Wq E H locs (pc + 1) ls (.ref (vA V (b + i.toNatClampNeg) 0) :: rest)) : Wq E H locs pc ls (.int i :: .ref (vA V 11 o) :: rest) := by
  obtain ⟨hK, hP, hD, hS⟩ := hW
  obtain ⟨⟨p, hp⟩, hc⟩ := ho
  exact va_aldq (D := vD V) (cl := vwCl) (tys := vT V) (ws := wsOf V M) Cx.1 Cx.2.1 hK hP p 3 (f := fun i => some (vA V (b + i) 0)) (C := "SlackMarket$Market") ((ws_at hp).trans (by rw [hc])) rfl hin hdg kk
theorem q_alenR {E : WE} {own : String} {cc : ByteArray} {nL fr lo : Nat} (Cx : CX E own cc nL fr lo) {H : Heap} {locs : List Loc} {pc : Nat} {ls : Array Slot} {rest : List Value} {V : VT} {A : Nat → Prop} {H0 : Heap} {M : Mem} (hW : Wd V A H0 M (eS E) H locs) {o n b : Nat} (ho : isR o n b) {v : Int32} (hv : Int32.ofNat n = v) (hdg : decode cc pc = .ok (.arraylength, 1)) (kk : Wq E H locs (pc + 1) ls (.int v :: rest)) : Wq E H locs pc ls (.ref (vA V 11 o) :: rest) := by
  obtain ⟨hK, hP, hD, hS⟩ := hW
  obtain ⟨⟨p, hp⟩, hc⟩ := ho
  exact va_alen (D := vD V) (cl := vwCl) (tys := vT V) (ws := wsOf V M) Cx.1 Cx.2.1 hK hP p 3 ((ws_at hp).trans (by rw [hc])) rfl hv hdg kk
theorem q_max {E : WE} {own : String} {cc : ByteArray} {nL fr lo : Nat} (Cx : CX E own cc nL fr lo) {H : Heap} {locs : List Loc} {pc : Nat} {ls : Array Slot} {rest : List Value} {x y v : Int32} {index : Nat} (hlink : Cond.methodLink own index Lib.Math.max.name ∈ lw_gd) (hstat : Cond.static Lib.Math.max.name ∈ lw_gd) (hini : Cond.initialized "java/lang/Math" ∈ lw_gd) (hcode : Cond.code Lib.Math.max.name Lib.Math.max.code 2 (some .int) ∈ lw_gd) (hls : ls.size = nL) (hfr : 1 ≤ fr) (hlo : (rest.map fun v => v.category).sum + 13 ≤ lo) (hv : (if x < y then y else x) = v) (hdg : decode cc pc = .ok (.invokestatic index, 3)) (kk : Wq E H locs (pc + 3) ls (.int v :: rest)) : Wq E H locs pc ls (.int y :: .int x :: rest) := by
  subst hv
  exact va_mmax Cx.1 Cx.2.1 (Cx.2.2.1.trans hls.symm) Cx.2.2.2.1 (Cx.2.2.2.2.1 _ hlink) (Cx.2.2.2.2.1 _ hstat) (Cx.2.2.2.2.1 _ hini) (Cx.2.2.2.2.1 _ hcode) (Nat.le_trans hfr Cx.2.2.2.2.2.1) (Nat.le_trans hlo Cx.2.2.2.2.2.2.1) Cx.2.2.2.2.2.2.2.1 Cx.2.2.2.2.2.2.2.2 hdg kk
theorem q_min {E : WE} {own : String} {cc : ByteArray} {nL fr lo : Nat} (Cx : CX E own cc nL fr lo) {H : Heap} {locs : List Loc} {pc : Nat} {ls : Array Slot} {rest : List Value} {x y v : Int32} {index : Nat} (hlink : Cond.methodLink own index Lib.Math.min.name ∈ lw_gd) (hstat : Cond.static Lib.Math.min.name ∈ lw_gd) (hini : Cond.initialized "java/lang/Math" ∈ lw_gd) (hcode : Cond.code Lib.Math.min.name Lib.Math.min.code 2 (some .int) ∈ lw_gd) (hls : ls.size = nL) (hfr : 1 ≤ fr) (hlo : (rest.map fun v => v.category).sum + 13 ≤ lo) (hv : (if y < x then y else x) = v) (hdg : decode cc pc = .ok (.invokestatic index, 3)) (kk : Wq E H locs (pc + 3) ls (.int v :: rest)) : Wq E H locs pc ls (.int y :: .int x :: rest) := by
  subst hv
  exact va_mmin Cx.1 Cx.2.1 (Cx.2.2.1.trans hls.symm) Cx.2.2.2.1 (Cx.2.2.2.2.1 _ hlink) (Cx.2.2.2.2.1 _ hstat) (Cx.2.2.2.2.1 _ hini) (Cx.2.2.2.2.1 _ hcode) (Nat.le_trans hfr Cx.2.2.2.2.2.1) (Nat.le_trans hlo Cx.2.2.2.2.2.2.1) Cx.2.2.2.2.2.2.2.1 Cx.2.2.2.2.2.2.2.2 hdg kk
/-- System.arraycopy from place (j0, o) to place (j, o), both from 0 on -/
theorem q_copy {E : WE} {own : String} {cc : ByteArray} {nL fr lo : Nat} (Cx : CX E own cc nL fr lo) {H : Heap} {locs : List Loc} {pc : Nat} {ls : Array Slot} {rest : List Value} {V : VT} {A : Nat → Prop} {H0 : Heap} {M : Mem} (hW : Wd V A H0 M (eS E) H locs) {j0 o0 n0 j o n : Nat} (ho0 : isI j0 o0 n0 0) (ho : isI j o n 0) {cnt : Int32} (hc : ¬ cnt < 0) (hn0 : cnt.toNatClampNeg ≤ n0) (hn : cnt.toNatClampNeg ≤ n) {B' : Blk} (hB : B' = bc (M j) o (va_cpy (M j0 o0) (M j o) 0 0 cnt.toNatClampNeg)) {index : Nat} (hlink : Cond.methodLink own index arraycopyName ∈ lw_gd) (hnat : Cond.native arraycopyName ∈ lw_gd) (hstat : Cond.static arraycopyName ∈ lw_gd) (hini : Cond.initialized "java/lang/System" ∈ lw_gd) (hls : ls.size = nL) (hfr : 1 ≤ fr) (hlo : (rest.map fun v => v.category).sum + (nativeFrameWords "java/lang/System" "arraycopy" 5 + 11) ≤ lo) (hdg : decode cc pc = .ok (.invokestatic index, 3)) (kk : ∀ (H1 : Heap) (locs1 : List Loc), Wd V A H0 (jb M j B') (eS E) H1 locs1 → Wq E H1 locs1 (pc + 3) ls rest) : Wq E H locs pc ls (.int cnt :: .int 0 :: .ref (vA V j o) :: .int 0 :: .ref (vA V j0 o0) :: rest) := by
  obtain ⟨hK, hP, hD, hS⟩ := hW
  obtain ⟨p0, cA0, ty0, h01, h02, -⟩ := isI_at (V := V) (M := M) ho0
  obtain ⟨p, cA, ty, h1, h2, h3⟩ := isI_at (V := V) (M := M) ho
  cases h01
  cases h1
  refine va_copyi (D := vD V) (cl := vwCl) (tys := vT V) (ws := wsOf V M) Cx.1 Cx.2.1 (Cx.2.2.1.trans hls.symm) Cx.2.2.2.1 (Cx.2.2.2.2.1 _ hlink) (Cx.2.2.2.2.1 _ hnat) (Cx.2.2.2.2.1 _ hstat) (Cx.2.2.2.2.1 _ hini) hK hP hD hS p0 p 0 0 h02 h2 rfl rfl rfl (by decide) (by decide) hc (by rw [show (0 : Int32).toNatClampNeg = 0 from rfl, Nat.zero_add]; exact hn0) (by rw [show (0 : Int32).toNatClampNeg = 0 from rfl, Nat.zero_add]; exact hn) (fun _ _ => rfl) (Nat.le_trans hfr Cx.2.2.2.2.2.1) (Nat.le_trans hlo Cx.2.2.2.2.2.2.1) hdg (fun H1 locs1 hP1 hD1 hS1 => ?_)
  rw [h3] at hP1 hD1
  subst hB
  exact kk H1 locs1 ⟨hK, hP1, hD1, hS1⟩
end
section
/-! CONTRACTS over memories, and calls -/
def AV (V : VT) : Nat → Prop := fun q => ∃ (i : Nat) (p : Nat × Nat), places[i]? = some p ∧ q = vA V p.1 p.2
def W0 (V : VT) (M : Mem) (U : State) : Prop := va_K (vD V) vwCl (vT V) U ∧ va_P (vD V) vwCl (wsOf V M) U.heap ∧ va_D (AV V) (wsOf V M)
theorem W0.blind {V : VT} {M : Mem} {U : State} {g : JFrame} {mk : MethodId} {a : Array Value} (h : W0 V M U) : W0 V M (U.calling g mk a) := ⟨va_K.moved (u := U) (U := U.calling g mk a) (Vm.Alike.refl U.vm) h.1, h.2.1, h.2.2⟩
def MetI (l : Launch) (V : VT) (y : MethodName) (cc : ByteArray) (nL : Nat) (ret : FieldType) (rm : Room) (as : List Value) (r : Int32) (M M' : Mem) : Prop := Met l y (Cond.code y cc nL (some ret) :: lw_gd) rm (va_Pc as (W0 V M)) (va_Qi (fun (x : Int32) (_ : Unit) => x = r) (fun _ t => W0 V M' t) (AV V)) 0 0 (AV V)
def MetV (l : Launch) (V : VT) (y : MethodName) (cc : ByteArray) (nL : Nat) (rm : Room) (as : List Value) (M M' : Mem) : Prop := Met l y (Cond.code y cc nL none :: lw_gd) rm (va_Pc as (W0 V M)) (va_Qv (fun (_ : Unit) => True) (fun _ t => W0 V M' t) (AV V)) 0 0 (AV V)
def MetL (l : Launch) (V : VT) (y : MethodName) (cc : ByteArray) (nL : Nat) (rm : Room) (as : List Value) (r : Int64) (M M' : Mem) : Prop := Met l y (Cond.code y cc nL (some .long) :: lw_gd) rm (va_Pc as (W0 V M)) (va_Ql (fun (x : Int64) (_ : Unit) => x = r) (fun _ t => W0 V M' t) (AV V)) 0 0 (AV V)
/-- the ends of a body -/
def RetI (E : WE) (V : VT) (A : Nat → Prop) (H0 : Heap) (cc : ByteArray) (ret : FieldType) (r : Int32) (M' : Mem) : Prop := ∀ (pc : Nat) (H : Heap) (locs : List Loc) (ls : Array Slot), decode cc pc = .ok (.ireturn, 1) → narrow ret (.int r) = .int r → Wd V A H0 M' (eS E) H locs → Wq E H locs pc ls [.int r]
def RetL (E : WE) (V : VT) (A : Nat → Prop) (H0 : Heap) (cc : ByteArray) (r : Int64) (M' : Mem) : Prop := ∀ (pc : Nat) (H : Heap) (locs : List Loc) (ls : Array Slot), decode cc pc = .ok (.lreturn, 1) → Wd V A H0 M' (eS E) H locs → Wq E H locs pc ls [.long r]
def RetV (E : WE) (V : VT) (A : Nat → Prop) (H0 : Heap) (cc : ByteArray) (M' : Mem) : Prop := ∀ (pc : Nat) (H : Heap) (locs : List Loc) (ls : Array Slot), decode cc pc = .ok (.return_, 1) → Wd V A H0 M' (eS E) H locs → Wq E H locs pc ls []
/-- what the calls of a method need of the tables -/
def CalOK (y : MethodName) (cc : ByteArray) (nL : Nat) (ret : Option FieldType) (n : Nat) : Prop := Cond.initialized y.cls ∈ lw_gd ∧ Cond.code y cc nL ret ∈ lw_gd ∧ (y.cls ≠ "java/lang/invoke/MethodHandle" ∧ y.cls ≠ "java/lang/invoke/VarHandle" ∧ (parseMethodDescriptor y.desc).map (fun d => d.parameters.length) = some n)
def VirOK (y : MethodName) : Prop := Cond.instanceMethod y ∈ lw_gd ∧ Cond.selects y.cls y y ∈ lw_gd
theorem W0_of_Wd {V : VT} {A : Nat → Prop} {H0 : Heap} {M : Mem} {s : State} {H : Heap} {locs : List Loc} (hW : Wd V A H0 M s H locs) {U : State} (hU : U.heap = H) (ha : s.WarmedH U.vm) : W0 V M U := by
  obtain ⟨hK, hP, hD, hS⟩ := hW
  refine ⟨va_K.moved ha.alike hK, by rw [hU]; exact hP, hD.1, fun k q hk => ?_⟩
  unfold wsOf at hk
  rw [List.getElem?_map] at hk
  cases hp : places[k]? with
  | none => rw [hp] at hk; cases hk
  | some p => rw [hp] at hk; cases hk; exact ⟨k, p, hp, rfl⟩
theorem AV_A {V : VT} {A : Nat → Prop} {H0 : Heap} {M : Mem} {s : State} {H : Heap} {locs : List Loc} (hW : Wd V A H0 M s H locs) : ∀ q, AV V q → A q := by
  rintro q ⟨i, p, hp, rfl⟩
  obtain ⟨j, o⟩ := p
  exact hW.2.2.1.2 i _ (ws_at hp)
theorem Wd_after {V : VT} {A : Nat → Prop} {H0 : Heap} {M M' : Mem} {s : State} {H H1 : Heap} {locs locs1 : List Loc} (hW : Wd V A H0 M s H locs) {t : State} (ht : t.heap = H1) (hv : s.vm.Alike t.vm) (h0 : W0 V M' t) (hS : va_S A H0 H1 locs1) : Wd V A H0 M' s H1 locs1 :=
  ⟨va_K.moved hv.symm h0.1, by rw [← ht]; exact h0.2.1, h0.2.2.weaken (fun _ _ _ h => AV_A hW _ h), hS⟩
section CALLS
variable {E : WE} {own : String} {cc : ByteArray} {nL fr lo : Nat} {H : Heap} {locs : List Loc} {pc : Nat} {ls : Array Slot} {rest st : List Value} {V : VT} {A : Nat → Prop} {H0 : Heap} {M M' : Mem} {y : MethodName} {bytes : ByteArray} {maxL n index : Nat} {rm : Room} {as : List Value}
theorem call_cwV (Cx : CX E own cc nL fr lo) {ret : Option FieldType} (ok : CalOK y bytes maxL ret n) (ov : VirOK y) (hl : Cond.methodLink own index y ∈ lw_gd) (hrm : rm.cells = 0 ∧ rm.slots = 0 ∧ rm.frames + 1 ≤ fr ∧ 8 + (maxL + 11) + rm.locals ≤ lo) : CallW (eR E) (eS E) (eA E) own y.cls index y bytes maxL ret (Cond.code y bytes maxL ret :: lw_gd) rm 0 0 n := by
  have hg : GoodIn lw_gd (wsV own index y.cls y (Cond.code y bytes maxL ret :: lw_gd)) := by
    intro w hw
    unfold wsV at hw
    have hm : w ∈ lw_gd := by
      rcases List.mem_append.mp hw with h | h
      · simp only [List.mem_cons, List.not_mem_nil, or_false] at h
        rcases h with rfl | rfl | rfl | rfl
        · exact hl
        · exact ov.1
        · exact ov.2
        · exact ok.1
      · rcases List.mem_cons.mp h with rfl | h
        · exact ok.2.1
        · exact h
    exact ⟨hm, good_of_word (gd_good _ hm)⟩
  exact cwV n Cx.2.2.2.2.1 hg rfl hrm.1 hrm.2.1 ⟨rfl, ok.2.2⟩ ⟨Nat.le_trans hrm.2.2.1 Cx.2.2.2.2.2.1, Nat.le_trans hrm.2.2.2 Cx.2.2.2.2.2.2.1⟩
theorem call_cwS (Cx : CX E own cc nL fr lo) {ret : Option FieldType} (ok : CalOK y bytes maxL ret n) (os : Cond.static y ∈ lw_gd) (hown : y.cls = own) (hl : Cond.methodLink own index y ∈ lw_gd) (hrm : rm.cells = 0 ∧ rm.slots = 0 ∧ rm.frames + 1 ≤ fr ∧ 8 + (maxL + 11) + rm.locals ≤ lo) : CallB (eR E) (eS E) (eA E) own index y bytes maxL ret (Cond.code y bytes maxL ret :: lw_gd) rm 0 0 n ∧ (Cond.static y).before (eA E) (eS E) = true := by
  have hg : GoodIn lw_gd (wsS own index y (Cond.code y bytes maxL ret :: lw_gd)) := by
    intro w hw
    unfold wsS at hw
    have hm : w ∈ lw_gd := by
      rcases List.mem_append.mp hw with h | h
      · simp only [List.mem_cons, List.not_mem_nil, or_false] at h
        rcases h with rfl | rfl | rfl
        · exact hl
        · exact os
        · rw [← hown]; exact ok.1
      · rcases List.mem_cons.mp h with rfl | h
        · exact ok.2.1
        · exact h
    exact ⟨hm, good_of_word (gd_good _ hm)⟩
  exact cwS n Cx.2.2.2.2.1 hg rfl hrm.1 hrm.2.1 ⟨hown, ok.2.2⟩ ⟨Nat.le_trans hrm.2.2.1 Cx.2.2.2.2.2.1, Nat.le_trans hrm.2.2.2 Cx.2.2.2.2.2.2.1⟩
theorem call_preV (hW : Wd V A H0 M (eS E) H locs) {j o ci : Nat} {fs : Blk → List Value} (ho : isO V j o ci fs) {T : u_T} {N : Nat} {ty : Nat → FieldType} (hc : isC ci y.cls T N ty) : PreV (eS E) H y.cls (vA V j o) (va_Pc (.ref (vA V j o) :: as) (W0 V M)) as := by
  obtain ⟨⟨i, hi⟩, hcell⟩ := ho
  refine ⟨fun a U g mk q => ⟨q.1, q.2.blind⟩, ?_, fun U hU hv => ⟨rfl, W0_of_Wd hW hU hv⟩⟩
  exact va_recv hW.1 hW.2.1 (ci := ci) (q0 := i) hc.1 ((ws_at hi).trans (by rw [hcell]))
theorem q_callI (Cx : CX E own cc nL fr lo) {ret : FieldType} {r : Int32} {j o ci : Nat} {fs : Blk → List Value} {T : u_T} {N : Nat} {ty : Nat → FieldType} (hM : MetI (eL E) V y bytes maxL ret rm (.ref (vA V j o) :: as) r M M') (ok : CalOK y bytes maxL (some ret) n) (ov : VirOK y) (hl : Cond.methodLink own index y ∈ lw_gd) (hrm : rm.cells = 0 ∧ rm.slots = 0 ∧ rm.frames + 1 ≤ fr ∧ 8 + (maxL + 11) + rm.locals ≤ lo) (hW : Wd V A H0 M (eS E) H locs) (ho : isO V j o ci fs) (hc : isC ci y.cls T N ty) (hn : as.length = n) (hls : ls.size = nL) (hrest : (rest.map fun v => v.category).sum ≤ 8) (hst : st = as.reverse ++ .ref (vA V j o) :: rest) (hdg : decode cc pc = .ok (.invokevirtual index, 3))
    (kk : ∀ (H1 : Heap) (locs1 : List Loc), Wd V A H0 M' (eS E) H1 locs1 → Wq E H1 locs1 (pc + 3) ls (.int r :: rest)) : Wq E H locs pc ls st := by
  subst hst
  refine va_calli (A1 := AV V) (va_runV (As := as) (rest := rest) (n := n) ⟨Cx.1, Cx.2.1, Cx.2.2.1, Cx.2.2.2.1, Cx.2.2.2.2.1⟩ hM (call_cwV Cx ok ov hl hrm) (call_preV hW ho hc) rfl hn hls rfl (lv_room hrest) hdg ⟨Cx.2.2.2.2.2.2.2.1, Cx.2.2.2.2.2.2.2.2⟩) hW.2.2.2 (fun q _ h => AV_A hW q h) (fun q h => AV_A hW q h) (fun r1 u t H1 locs1 ht hv hr hB hz hk hS => ?_)
  subst hr
  exact kk H1 locs1 (Wd_after hW ht hv hB hS)
theorem q_callL (Cx : CX E own cc nL fr lo) {r : Int64} {j o ci : Nat} {fs : Blk → List Value} {T : u_T} {N : Nat} {ty : Nat → FieldType} (hM : MetL (eL E) V y bytes maxL rm (.ref (vA V j o) :: as) r M M') (ok : CalOK y bytes maxL (some .long) n) (ov : VirOK y) (hl : Cond.methodLink own index y ∈ lw_gd) (hrm : rm.cells = 0 ∧ rm.slots = 0 ∧ rm.frames + 1 ≤ fr ∧ 8 + (maxL + 11) + rm.locals ≤ lo) (hW : Wd V A H0 M (eS E) H locs) (ho : isO V j o ci fs) (hc : isC ci y.cls T N ty) (hn : as.length = n) (hls : ls.size = nL) (hrest : (rest.map fun v => v.category).sum ≤ 8) (hst : st = as.reverse ++ .ref (vA V j o) :: rest) (hdg : decode cc pc = .ok (.invokevirtual index, 3))
    (kk : ∀ (H1 : Heap) (locs1 : List Loc), Wd V A H0 M' (eS E) H1 locs1 → Wq E H1 locs1 (pc + 3) ls (.long r :: rest)) : Wq E H locs pc ls st := by
  subst hst
  refine va_calll (A1 := AV V) (va_runV (As := as) (rest := rest) (n := n) ⟨Cx.1, Cx.2.1, Cx.2.2.1, Cx.2.2.2.1, Cx.2.2.2.2.1⟩ hM (call_cwV Cx ok ov hl hrm) (call_preV hW ho hc) rfl hn hls rfl (lv_room hrest) hdg ⟨Cx.2.2.2.2.2.2.2.1, Cx.2.2.2.2.2.2.2.2⟩) hW.2.2.2 (fun q _ h => AV_A hW q h) (fun q h => AV_A hW q h) (fun r1 u t H1 locs1 ht hv hr hB hz hk hS => ?_)
  subst hr
  exact kk H1 locs1 (Wd_after hW ht hv hB hS)
theorem q_callV (Cx : CX E own cc nL fr lo) {j o ci : Nat} {fs : Blk → List Value} {T : u_T} {N : Nat} {ty : Nat → FieldType} (hM : MetV (eL E) V y bytes maxL rm (.ref (vA V j o) :: as) M M') (ok : CalOK y bytes maxL none n) (ov : VirOK y) (hl : Cond.methodLink own index y ∈ lw_gd) (hrm : rm.cells = 0 ∧ rm.slots = 0 ∧ rm.frames + 1 ≤ fr ∧ 8 + (maxL + 11) + rm.locals ≤ lo) (hW : Wd V A H0 M (eS E) H locs) (ho : isO V j o ci fs) (hc : isC ci y.cls T N ty) (hn : as.length = n) (hls : ls.size = nL) (hrest : (rest.map fun v => v.category).sum ≤ 8) (hst : st = as.reverse ++ .ref (vA V j o) :: rest) (hdg : decode cc pc = .ok (.invokevirtual index, 3))
    (kk : ∀ (H1 : Heap) (locs1 : List Loc), Wd V A H0 M' (eS E) H1 locs1 → Wq E H1 locs1 (pc + 3) ls rest) : Wq E H locs pc ls st := by
  subst hst
  refine va_callv (A1 := AV V) (va_runV (As := as) (rest := rest) (n := n) ⟨Cx.1, Cx.2.1, Cx.2.2.1, Cx.2.2.2.1, Cx.2.2.2.2.1⟩ hM (call_cwV Cx ok ov hl hrm) (call_preV hW ho hc) rfl hn hls rfl (lv_room hrest) hdg ⟨Cx.2.2.2.2.2.2.2.1, Cx.2.2.2.2.2.2.2.2⟩) hW.2.2.2 (fun q _ h => AV_A hW q h) (fun q h => AV_A hW q h) (fun u t H1 locs1 ht hv hr hB hz hk hS => ?_)
  exact kk H1 locs1 (Wd_after hW ht hv hB hS)
theorem q_callSI (Cx : CX E own cc nL fr lo) {ret : FieldType} {r : Int32} (hM : MetI (eL E) V y bytes maxL ret rm as r M M') (ok : CalOK y bytes maxL (some ret) n) (os : Cond.static y ∈ lw_gd) (hown : y.cls = own) (hl : Cond.methodLink own index y ∈ lw_gd) (hrm : rm.cells = 0 ∧ rm.slots = 0 ∧ rm.frames + 1 ≤ fr ∧ 8 + (maxL + 11) + rm.locals ≤ lo) (hW : Wd V A H0 M (eS E) H locs) (hn : as.length = n) (hls : ls.size = nL) (hrest : (rest.map fun v => v.category).sum ≤ 8) (hst : st = as.reverse ++ rest) (hdg : decode cc pc = .ok (.invokestatic index, 3))
    (kk : ∀ (H1 : Heap) (locs1 : List Loc), Wd V A H0 M' (eS E) H1 locs1 → Wq E H1 locs1 (pc + 3) ls (.int r :: rest)) : Wq E H locs pc ls st := by
  subst hst
  refine va_calli (A1 := AV V) (va_runS (As := as) (rest := rest) (n := n) ⟨Cx.1, Cx.2.1, Cx.2.2.1, Cx.2.2.2.1, Cx.2.2.2.2.1⟩ hM (call_cwS Cx ok os hown hl hrm) ⟨fun a U g mk q => ⟨q.1, q.2.blind⟩, fun U hU hv => ⟨rfl, W0_of_Wd hW hU hv⟩⟩ rfl hn hls rfl (lv_room hrest) hdg ⟨Cx.2.2.2.2.2.2.2.1, Cx.2.2.2.2.2.2.2.2⟩) hW.2.2.2 (fun q _ h => AV_A hW q h) (fun q h => AV_A hW q h) (fun r1 u t H1 locs1 ht hv hr hB hz hk hS => ?_)
  subst hr
  exact kk H1 locs1 (Wd_after hW ht hv hB hS)
end CALLS
/-- a body's world, at its start -/
theorem Wd_start {V : VT} {M : Mem} {s : State} (h : W0 V M s) : Wd V (AV V) s.heap M s s.heap [] := ⟨h.1, h.2.1, h.2.2, va_S.rf⟩
theorem W0_end {V : VT} {H0 : Heap} {M : Mem} {s : State} {H : Heap} {locs : List Loc} (hW : Wd V (AV V) H0 M s H locs) {t : State} (ht : t.heap = H) (hv : s.WarmedH t.vm) : W0 V M t := ⟨va_K.moved hv.alike hW.1, by rw [ht]; exact hW.2.1, hW.2.2.1⟩
theorem metI_of {l : Launch} {V : VT} {y : MethodName} {cc : ByteArray} {nL : Nat} {ret : FieldType} {rm : Room} {as : List Value} {r : Int32} {M M' : Mem} (hy : plainName y.cls = true) (hlen : (lg_sl as).length ≤ nL)
    (body : ∀ (E : WE) (H0 : Heap), eL E = l → CX E y.cls cc nL rm.frames rm.locals → RetI E V (AV V) H0 cc ret r M' → ∀ (H : Heap) (locs : List Loc) (ls : Array Slot), Wd V (AV V) H0 M (eS E) H locs → lv_has ls nL (lv_args 0 as) → Wq E H locs 0 ls []) : MetI l V y cc nL ret rm as r M M' := by
  refine Met.ofW (cc := cc) (maxL := nL) (ret := some ret) hy rfl ?_
  intro p e s m args below meth c s₁ B hml hv
  obtain ⟨rfl, hW⟩ := hv
  have hts := atoms_spec (ws := Cond.code y cc nL (some ret) :: lw_gd) B.pre
  have hl := lv_entry as (n := nL) hlen
  rw [lg_entry_eq]
  have hlocks := B.notSynchronized
  refine body (p, l, e, rm, s, m, as.toArray, below, meth, c, 0, 0, _) s.heap rfl ⟨B.exec, B.bytes, hml, findClass_of_methodNamed B.named, fun w hw => hts w (List.mem_cons_of_mem _ hw), Nat.le_refl _, Nat.le_refl _, Nat.zero_le _, Nat.zero_le _⟩ (fun pc H locs ls hdg hn hW1 => ?_) s.heap [] _ (Wd_start hW) hl
  exact W.zret (v := r) B.exec B.bytes B.returns hn (fun t ht hv => ⟨⟨r, (), rfl, rfl, W0_end hW1 ht hv⟩, hW1.2.2.2.F ht⟩) hW1.2.2.2.2.2 hdg
theorem metL_of {l : Launch} {V : VT} {y : MethodName} {cc : ByteArray} {nL : Nat} {rm : Room} {as : List Value} {r : Int64} {M M' : Mem} (hy : plainName y.cls = true) (hlen : (lg_sl as).length ≤ nL)
    (body : ∀ (E : WE) (H0 : Heap), eL E = l → CX E y.cls cc nL rm.frames rm.locals → RetL E V (AV V) H0 cc r M' → ∀ (H : Heap) (locs : List Loc) (ls : Array Slot), Wd V (AV V) H0 M (eS E) H locs → lv_has ls nL (lv_args 0 as) → Wq E H locs 0 ls []) : MetL l V y cc nL rm as r M M' := by
  refine Met.ofW (cc := cc) (maxL := nL) (ret := some .long) hy rfl ?_
  intro p e s m args below meth c s₁ B hml hv
  obtain ⟨rfl, hW⟩ := hv
  have hts := atoms_spec (ws := Cond.code y cc nL (some .long) :: lw_gd) B.pre
  have hl := lv_entry as (n := nL) hlen
  rw [lg_entry_eq]
  have hlocks := B.notSynchronized
  refine body (p, l, e, rm, s, m, as.toArray, below, meth, c, 0, 0, _) s.heap rfl ⟨B.exec, B.bytes, hml, findClass_of_methodNamed B.named, fun w hw => hts w (List.mem_cons_of_mem _ hw), Nat.le_refl _, Nat.le_refl _, Nat.zero_le _, Nat.zero_le _⟩ (fun pc H locs ls hdg hW1 => ?_) s.heap [] _ (Wd_start hW) hl
  exact W.lret (v := r) B.exec B.bytes B.returns (fun t ht hv => ⟨⟨r, (), rfl, rfl, W0_end hW1 ht hv⟩, hW1.2.2.2.F ht⟩) hW1.2.2.2.2.2 hdg
theorem metV_of {l : Launch} {V : VT} {y : MethodName} {cc : ByteArray} {nL : Nat} {rm : Room} {as : List Value} {M M' : Mem} (hy : plainName y.cls = true) (hlen : (lg_sl as).length ≤ nL)
    (body : ∀ (E : WE) (H0 : Heap), eL E = l → CX E y.cls cc nL rm.frames rm.locals → RetV E V (AV V) H0 cc M' → ∀ (H : Heap) (locs : List Loc) (ls : Array Slot), Wd V (AV V) H0 M (eS E) H locs → lv_has ls nL (lv_args 0 as) → Wq E H locs 0 ls []) : MetV l V y cc nL rm as M M' := by
  refine Met.ofW (cc := cc) (maxL := nL) (ret := none) hy rfl ?_
  intro p e s m args below meth c s₁ B hml hv
  obtain ⟨rfl, hW⟩ := hv
  have hts := atoms_spec (ws := Cond.code y cc nL none :: lw_gd) B.pre
  have hl := lv_entry as (n := nL) hlen
  rw [lg_entry_eq]
  have hlocks := B.notSynchronized
  refine body (p, l, e, rm, s, m, as.toArray, below, meth, c, 0, 0, _) s.heap rfl ⟨B.exec, B.bytes, hml, findClass_of_methodNamed B.named, fun w hw => hts w (List.mem_cons_of_mem _ hw), Nat.le_refl _, Nat.le_refl _, Nat.zero_le _, Nat.zero_le _⟩ (fun pc H locs ls hdg hW1 => ?_) s.heap [] _ (Wd_start hW) hl
  exact W.vret B.exec B.bytes B.returns (fun t ht hv => ⟨⟨(), rfl, trivial, W0_end hW1 ht hv⟩, hW1.2.2.2.F ht⟩) hW1.2.2.2.2.2 hdg
/-! THE WORDS OF THE PURE FUNCTIONS (F_..): a method's answer and memory as a plain function, 'none' where the machine itself would throw -/
section PURE
variable {α β γ : Type}
def ld (f : Nat → Int32) (n : Nat) (i : Int32) (k : Int32 → Option α) : Option α := if i < 0 ∨ n ≤ i.toNatClampNeg then none else k (f i.toNatClampNeg)
def stb (B : Blk) (o n : Nat) (i v : Int32) (k : Blk → Option α) : Option α := if i < 0 ∨ n ≤ i.toNatClampNeg then none else k (bs B o i.toNatClampNeg v)
def gi (i : Int32) (n : Nat) (k : Option α) : Option α := if i < 0 ∨ n ≤ i.toNatClampNeg then none else k
def lt1 (x : β) (k : β → Option α) : Option α := k x
def nz (y : Int32) (k : Option α) : Option α := if y = 0 then none else k
def c1 (x : Option β) (k : β → Option α) : Option α := match x with
  | none => none
  | some r => k r
def c2 (x : Option (β × γ)) (k : β → γ → Option α) : Option α := match x with
  | none => none
  | some r => k r.1 r.2
def rZ (v : Int32) (k : Option α) : Option α := if v = 0 ∨ v = 1 then k else none
def fu : Nat := 100000
theorem ld_some {f : Nat → Int32} {n : Nat} {i : Int32} {k : Int32 → Option α} {x : α} (h : ld f n i k = some x) : vp_in i n ∧ ∃ v, v = f i.toNatClampNeg ∧ k v = some x := by
  unfold ld at h
  by_cases hi : i < 0 ∨ n ≤ i.toNatClampNeg
  · rw [if_pos hi] at h; cases h
  · rw [if_neg hi] at h; exact ⟨hi, _, rfl, h⟩
theorem stb_some {B : Blk} {o n : Nat} {i v : Int32} {k : Blk → Option α} {x : α} (h : stb B o n i v k = some x) : vp_in i n ∧ ∃ B', B' = bs B o i.toNatClampNeg v ∧ k B' = some x := by
  unfold stb at h
  by_cases hi : i < 0 ∨ n ≤ i.toNatClampNeg
  · rw [if_pos hi] at h; cases h
  · rw [if_neg hi] at h; exact ⟨hi, _, rfl, h⟩
theorem gi_some {i : Int32} {n : Nat} {k : Option α} {x : α} (h : gi i n k = some x) : vp_in i n ∧ k = some x := by
  unfold gi at h
  by_cases hi : i < 0 ∨ n ≤ i.toNatClampNeg
  · rw [if_pos hi] at h; cases h
  · rw [if_neg hi] at h; exact ⟨hi, h⟩
theorem lt1_some {y : β} {k : β → Option α} {x : α} (h : lt1 y k = some x) : ∃ z, z = y ∧ k z = some x := ⟨y, rfl, h⟩
theorem nz_some {y : Int32} {k : Option α} {x : α} (h : nz y k = some x) : ¬ y = 0 ∧ k = some x := by
  unfold nz at h
  by_cases hy : y = 0
  · rw [if_pos hy] at h; cases h
  · rw [if_neg hy] at h; exact ⟨hy, h⟩
theorem c1_some {y : Option β} {k : β → Option α} {x : α} (h : c1 y k = some x) : ∃ z, y = some z ∧ k z = some x := by
  cases y with
  | none => cases h
  | some z => exact ⟨z, rfl, h⟩
theorem c2_some {y : Option (β × γ)} {k : β → γ → Option α} {x : α} (h : c2 y k = some x) : ∃ z w, y = some (z, w) ∧ k z w = some x := by
  cases y with
  | none => cases h
  | some z => exact ⟨z.1, z.2, rfl, h⟩
theorem rZ_some {v : Int32} {k : Option α} {x : α} (h : rZ v k = some x) : narrow .boolean (.int v) = .int v ∧ k = some x := by
  unfold rZ at h
  by_cases hv : v = 0 ∨ v = 1
  · rw [if_pos hv] at h
    refine ⟨?_, h⟩
    rcases hv with rfl | rfl <;> rfl
  · rw [if_neg hv] at h; cases h
theorem nI32 (r : Int32) : narrow .int (.int r) = .int r := rfl
end PURE
end
section
/-! the same rows over one block B of the memory (qb_), and over the whole memory with a new name for it (qw_) -/
theorem q_topi {E : WE} {H : Heap} {locs : List Loc} {pc : Nat} {ls : Array Slot} {rest : List Value} {x y : Int32} (e : y = x) (k : Wq E H locs pc ls (.int y :: rest)) : Wq E H locs pc ls (.int x :: rest) := e ▸ k
theorem q_topl {E : WE} {H : Heap} {locs : List Loc} {pc : Nat} {ls : Array Slot} {rest : List Value} {x y : Int64} (e : y = x) (k : Wq E H locs pc ls (.long y :: rest)) : Wq E H locs pc ls (.long x :: rest) := e ▸ k
theorem qb_get {E : WE} {own : String} {cc : ByteArray} {nL fr lo : Nat} (Cx : CX E own cc nL fr lo) {H : Heap} {locs : List Loc} {pc : Nat} {ls : Array Slot} {rest : List Value} {V : VT} {A : Nat → Prop} {H0 : Heap} {M : Mem} {j : Nat} {B : Blk} (hW : Wd V A H0 (jb M j B) (eS E) H locs) {o ci : Nat} {fs : Blk → List Value} (ho : isO V j o ci fs) {C : String} {T : u_T} {N : Nat} {ty : Nat → FieldType} (hc : isC ci C T N ty) (k : Nat) {v : Value} (hk : k < N) (hv : (fs B)[k]? = some v) {index : Nat} (hlink : Cond.fieldLink own index (T k).1 (T k).2.1 (T k).2.2.1 ∈ lw_gd) (hdg : decode cc pc = .ok (.getfield index, 3)) (kk : Wq E H locs (pc + 3) ls (v :: rest)) : Wq E H locs pc ls (.ref (vA V j o) :: rest) := q_get Cx hW ho hc k hk (by rw [jb_at]; exact hv) hlink hdg kk
theorem qb_put {E : WE} {own : String} {cc : ByteArray} {nL fr lo : Nat} (Cx : CX E own cc nL fr lo) {H : Heap} {locs : List Loc} {pc : Nat} {ls : Array Slot} {rest : List Value} {V : VT} {A : Nat → Prop} {H0 : Heap} {M : Mem} {j : Nat} {B : Blk} (hW : Wd V A H0 (jb M j B) (eS E) H locs) {o ci : Nat} {fs : Blk → List Value} (ho : isO V j o ci fs) {C : String} {T : u_T} {N : Nat} {ty : Nat → FieldType} (hc : isC ci C T N ty) (k : Nat) {v : Int32} {B' : Blk} (hk : k < N) (hlen : k < (fs B).length) (hB : B' = bs B o k v) (hset : (fs B).set k (.int v) = fs (bs B o k v)) (hfin : (T k).2.2.2 = false) (hty : narrow (ty k) (.int v) = .int v ∧ fits (ty k) (.int v) = true) {index : Nat} (hlink : Cond.fieldLink own index (T k).1 (T k).2.1 (T k).2.2.1 ∈ lw_gd) (hdg : decode cc pc = .ok (.putfield index, 3)) (kk : ∀ (H1 : Heap) (locs1 : List Loc), Wd V A H0 (jb M j B') (eS E) H1 locs1 → Wq E H1 locs1 (pc + 3) ls rest) : Wq E H locs pc ls (.int v :: .ref (vA V j o) :: rest) := by
  subst hB
  refine q_put Cx hW ho hc k (B' := bs B o k v) hk (by rw [jb_at]; exact hlen) (fun o' h => by rw [jb_at]; exact bs_ne h) (by rw [jb_at]; exact hset) hfin hty hlink hdg (fun H1 locs1 hW1 => kk H1 locs1 (by rw [jb_jb] at hW1; exact hW1))
theorem qw_put {E : WE} {own : String} {cc : ByteArray} {nL fr lo : Nat} (Cx : CX E own cc nL fr lo) {H : Heap} {locs : List Loc} {pc : Nat} {ls : Array Slot} {rest : List Value} {V : VT} {A : Nat → Prop} {H0 : Heap} {M : Mem} {j : Nat} (hW : Wd V A H0 M (eS E) H locs) {o ci : Nat} {fs : Blk → List Value} (ho : isO V j o ci fs) {C : String} {T : u_T} {N : Nat} {ty : Nat → FieldType} (hc : isC ci C T N ty) (k : Nat) {v : Int32} {M' : Mem} (hk : k < N) (hlen : k < (fs (M j)).length) (hM : M' = jb M j (bs (M j) o k v)) (hset : (fs (M j)).set k (.int v) = fs (bs (M j) o k v)) (hfin : (T k).2.2.2 = false) (hty : narrow (ty k) (.int v) = .int v ∧ fits (ty k) (.int v) = true) {index : Nat} (hlink : Cond.fieldLink own index (T k).1 (T k).2.1 (T k).2.2.1 ∈ lw_gd) (hdg : decode cc pc = .ok (.putfield index, 3)) (kk : ∀ (H1 : Heap) (locs1 : List Loc), Wd V A H0 M' (eS E) H1 locs1 → Wq E H1 locs1 (pc + 3) ls rest) : Wq E H locs pc ls (.int v :: .ref (vA V j o) :: rest) := by
  subst hM
  exact q_put Cx hW ho hc k (B' := bs (M j) o k v) hk hlen (fun o' h => bs_ne h) hset hfin hty hlink hdg kk
theorem qb_iald {E : WE} {own : String} {cc : ByteArray} {nL fr lo : Nat} (Cx : CX E own cc nL fr lo) {H : Heap} {locs : List Loc} {pc : Nat} {ls : Array Slot} {rest : List Value} {V : VT} {A : Nat → Prop} {H0 : Heap} {M : Mem} {j : Nat} {B : Blk} (hW : Wd V A H0 (jb M j B) (eS E) H locs) {o n : Nat} (ho : isI j o n 0) {i v : Int32} (hin : vp_in i n) (hv : v = B o i.toNatClampNeg) (hdg : decode cc pc = .ok (.iaload, 1)) (kk : Wq E H locs (pc + 1) ls (.int v :: rest)) : Wq E H locs pc ls (.int i :: .ref (vA V j o) :: rest) := q_iald Cx hW ho hin (by rw [jb_at]; exact hv) hdg kk
theorem qb_zald {E : WE} {own : String} {cc : ByteArray} {nL fr lo : Nat} (Cx : CX E own cc nL fr lo) {H : Heap} {locs : List Loc} {pc : Nat} {ls : Array Slot} {rest : List Value} {V : VT} {A : Nat → Prop} {H0 : Heap} {M : Mem} {j : Nat} {B : Blk} (hW : Wd V A H0 (jb M j B) (eS E) H locs) {o n : Nat} (ho : isI j o n 1) {i v : Int32} (hin : vp_in i n) (hv : v = B o i.toNatClampNeg) (hdg : decode cc pc = .ok (.baload, 1)) (kk : Wq E H locs (pc + 1) ls (.int v :: rest)) : Wq E H locs pc ls (.int i :: .ref (vA V j o) :: rest) := q_zald Cx hW ho hin (by rw [jb_at]; exact hv) hdg kk
theorem qb_cald {E : WE} {own : String} {cc : ByteArray} {nL fr lo : Nat} (Cx : CX E own cc nL fr lo) {H : Heap} {locs : List Loc} {pc : Nat} {ls : Array Slot} {rest : List Value} {V : VT} {A : Nat → Prop} {H0 : Heap} {M : Mem} {j : Nat} {B : Blk} (hW : Wd V A H0 (jb M j B) (eS E) H locs) {o n : Nat} (ho : isI j o n 2) {i v : Int32} (hin : vp_in i n) (hv : v = B o i.toNatClampNeg) (hdg : decode cc pc = .ok (.caload, 1)) (kk : Wq E H locs (pc + 1) ls (.int v :: rest)) : Wq E H locs pc ls (.int i :: .ref (vA V j o) :: rest) := q_cald Cx hW ho hin (by rw [jb_at]; exact hv) hdg kk
theorem qb_iast {E : WE} {own : String} {cc : ByteArray} {nL fr lo : Nat} (Cx : CX E own cc nL fr lo) {H : Heap} {locs : List Loc} {pc : Nat} {ls : Array Slot} {rest : List Value} {V : VT} {A : Nat → Prop} {H0 : Heap} {M : Mem} {j : Nat} {B : Blk} (hW : Wd V A H0 (jb M j B) (eS E) H locs) {o n : Nat} (ho : isI j o n 0) {i x : Int32} (hin : vp_in i n) {B' : Blk} (hB : B' = bs B o i.toNatClampNeg x) (hdg : decode cc pc = .ok (.iastore, 1)) (kk : ∀ (H1 : Heap) (locs1 : List Loc), Wd V A H0 (jb M j B') (eS E) H1 locs1 → Wq E H1 locs1 (pc + 1) ls rest) : Wq E H locs pc ls (.int x :: .int i :: .ref (vA V j o) :: rest) := q_iast Cx hW ho hin (B' := B') (by rw [jb_at]; exact hB) hdg (fun H1 locs1 hW1 => kk H1 locs1 (by rw [jb_jb] at hW1; exact hW1))
theorem qw_iast {E : WE} {own : String} {cc : ByteArray} {nL fr lo : Nat} (Cx : CX E own cc nL fr lo) {H : Heap} {locs : List Loc} {pc : Nat} {ls : Array Slot} {rest : List Value} {V : VT} {A : Nat → Prop} {H0 : Heap} {M : Mem} {j : Nat} (hW : Wd V A H0 M (eS E) H locs) {o n : Nat} (ho : isI j o n 0) {i x : Int32} (hin : vp_in i n) {M' : Mem} (hM : M' = jb M j (bs (M j) o i.toNatClampNeg x)) (hdg : decode cc pc = .ok (.iastore, 1)) (kk : ∀ (H1 : Heap) (locs1 : List Loc), Wd V A H0 M' (eS E) H1 locs1 → Wq E H1 locs1 (pc + 1) ls rest) : Wq E H locs pc ls (.int x :: .int i :: .ref (vA V j o) :: rest) := by
  subst hM
  exact q_iast Cx hW ho hin rfl hdg kk
theorem qb_zast {E : WE} {own : String} {cc : ByteArray} {nL fr lo : Nat} (Cx : CX E own cc nL fr lo) {H : Heap} {locs : List Loc} {pc : Nat} {ls : Array Slot} {rest : List Value} {V : VT} {A : Nat → Prop} {H0 : Heap} {M : Mem} {j : Nat} {B : Blk} (hW : Wd V A H0 (jb M j B) (eS E) H locs) {o n : Nat} (ho : isI j o n 1) {i x : Int32} (hin : vp_in i n) {B' : Blk} (hB : B' = bs B o i.toNatClampNeg (vp_nar .boolean x)) (hdg : decode cc pc = .ok (.bastore, 1)) (kk : ∀ (H1 : Heap) (locs1 : List Loc), Wd V A H0 (jb M j B') (eS E) H1 locs1 → Wq E H1 locs1 (pc + 1) ls rest) : Wq E H locs pc ls (.int x :: .int i :: .ref (vA V j o) :: rest) := q_zast Cx hW ho hin (B' := B') (by rw [jb_at]; exact hB) hdg (fun H1 locs1 hW1 => kk H1 locs1 (by rw [jb_jb] at hW1; exact hW1))
theorem qw_zast {E : WE} {own : String} {cc : ByteArray} {nL fr lo : Nat} (Cx : CX E own cc nL fr lo) {H : Heap} {locs : List Loc} {pc : Nat} {ls : Array Slot} {rest : List Value} {V : VT} {A : Nat → Prop} {H0 : Heap} {M : Mem} {j : Nat} (hW : Wd V A H0 M (eS E) H locs) {o n : Nat} (ho : isI j o n 1) {i x : Int32} (hin : vp_in i n) {M' : Mem} (hM : M' = jb M j (bs (M j) o i.toNatClampNeg (vp_nar .boolean x))) (hdg : decode cc pc = .ok (.bastore, 1)) (kk : ∀ (H1 : Heap) (locs1 : List Loc), Wd V A H0 M' (eS E) H1 locs1 → Wq E H1 locs1 (pc + 1) ls rest) : Wq E H locs pc ls (.int x :: .int i :: .ref (vA V j o) :: rest) := by
  subst hM
  exact q_zast Cx hW ho hin rfl hdg kk
theorem qb_cast {E : WE} {own : String} {cc : ByteArray} {nL fr lo : Nat} (Cx : CX E own cc nL fr lo) {H : Heap} {locs : List Loc} {pc : Nat} {ls : Array Slot} {rest : List Value} {V : VT} {A : Nat → Prop} {H0 : Heap} {M : Mem} {j : Nat} {B : Blk} (hW : Wd V A H0 (jb M j B) (eS E) H locs) {o n : Nat} (ho : isI j o n 2) {i x : Int32} (hin : vp_in i n) {B' : Blk} (hB : B' = bs B o i.toNatClampNeg (vp_nar .char x)) (hdg : decode cc pc = .ok (.castore, 1)) (kk : ∀ (H1 : Heap) (locs1 : List Loc), Wd V A H0 (jb M j B') (eS E) H1 locs1 → Wq E H1 locs1 (pc + 1) ls rest) : Wq E H locs pc ls (.int x :: .int i :: .ref (vA V j o) :: rest) := q_cast Cx hW ho hin (B' := B') (by rw [jb_at]; exact hB) hdg (fun H1 locs1 hW1 => kk H1 locs1 (by rw [jb_jb] at hW1; exact hW1))
theorem qw_cast {E : WE} {own : String} {cc : ByteArray} {nL fr lo : Nat} (Cx : CX E own cc nL fr lo) {H : Heap} {locs : List Loc} {pc : Nat} {ls : Array Slot} {rest : List Value} {V : VT} {A : Nat → Prop} {H0 : Heap} {M : Mem} {j : Nat} (hW : Wd V A H0 M (eS E) H locs) {o n : Nat} (ho : isI j o n 2) {i x : Int32} (hin : vp_in i n) {M' : Mem} (hM : M' = jb M j (bs (M j) o i.toNatClampNeg (vp_nar .char x))) (hdg : decode cc pc = .ok (.castore, 1)) (kk : ∀ (H1 : Heap) (locs1 : List Loc), Wd V A H0 M' (eS E) H1 locs1 → Wq E H1 locs1 (pc + 1) ls rest) : Wq E H locs pc ls (.int x :: .int i :: .ref (vA V j o) :: rest) := by
  subst hM
  exact q_cast Cx hW ho hin rfl hdg kk
theorem qb_copy {E : WE} {own : String} {cc : ByteArray} {nL fr lo : Nat} (Cx : CX E own cc nL fr lo) {H : Heap} {locs : List Loc} {pc : Nat} {ls : Array Slot} {rest : List Value} {V : VT} {A : Nat → Prop} {H0 : Heap} {M : Mem} {j : Nat} {B : Blk} (hW : Wd V A H0 (jb M j B) (eS E) H locs) {j0 o0 n0 o n : Nat} (ho0 : isI j0 o0 n0 0) (ho : isI j o n 0) (hne : j0 ≠ j) {cnt : Int32} (hc : ¬ cnt < 0) (hn0 : cnt.toNatClampNeg ≤ n0) (hn : cnt.toNatClampNeg ≤ n) {B' : Blk} (hB : B' = bc B o (va_cpy (M j0 o0) (B o) 0 0 cnt.toNatClampNeg)) {index : Nat} (hlink : Cond.methodLink own index arraycopyName ∈ lw_gd) (hnat : Cond.native arraycopyName ∈ lw_gd) (hstat : Cond.static arraycopyName ∈ lw_gd) (hini : Cond.initialized "java/lang/System" ∈ lw_gd) (hls : ls.size = nL) (hfr : 1 ≤ fr) (hlo : (rest.map fun v => v.category).sum + (nativeFrameWords "java/lang/System" "arraycopy" 5 + 11) ≤ lo) (hdg : decode cc pc = .ok (.invokestatic index, 3)) (kk : ∀ (H1 : Heap) (locs1 : List Loc), Wd V A H0 (jb M j B') (eS E) H1 locs1 → Wq E H1 locs1 (pc + 3) ls rest) : Wq E H locs pc ls (.int cnt :: .int 0 :: .ref (vA V j o) :: .int 0 :: .ref (vA V j0 o0) :: rest) := q_copy Cx hW ho0 ho hc hn0 hn (B' := B') (by rw [jb_at, jb_ne hne]; exact hB) hlink hnat hstat hini hls hfr hlo hdg (fun H1 locs1 hW1 => kk H1 locs1 (by rw [jb_jb] at hW1; exact hW1))
theorem vp_lt {i : Int32} {n : Nat} (h : vp_in i n) : i.toNatClampNeg < n := Nat.not_le.mp fun q => h (Or.inr q)
theorem met_w {l : Launch} {V : VT} {y : MethodName} {cc : ByteArray} {nL : Nat} {ret : FieldType} {rm : Room} {as : List Value} {r : Int32} {M M' : Mem} {j : Nat} (h : MetI l V y cc nL ret rm as r (jb M j (M j)) M') : MetI l V y cc nL ret rm as r M M' := by rw [jb_self] at h; exact h
theorem met_r {l : Launch} {V : VT} {y : MethodName} {cc : ByteArray} {nL : Nat} {ret : FieldType} {rm : Room} {as : List Value} {r : Int32} {M : Mem} {j : Nat} (h : MetI l V y cc nL ret rm as r (jb M j (M j)) (jb M j (M j))) : MetI l V y cc nL ret rm as r M M := by rw [jb_self] at h; exact h
theorem met_v {l : Launch} {V : VT} {y : MethodName} {cc : ByteArray} {nL : Nat} {rm : Room} {as : List Value} {M M' : Mem} {j : Nat} (h : MetV l V y cc nL rm as (jb M j (M j)) M') : MetV l V y cc nL rm as M M' := by rw [jb_self] at h; exact h
section PURE2
variable {α : Type}
def stm (M : Mem) (j o n : Nat) (i v : Int32) (k : Mem → Option α) : Option α := if i < 0 ∨ n ≤ i.toNatClampNeg then none else k (jb M j (bs (M j) o i.toNatClampNeg v))
theorem stm_some {M : Mem} {j o n : Nat} {i v : Int32} {k : Mem → Option α} {x : α} (h : stm M j o n i v k = some x) : vp_in i n ∧ ∃ M', M' = jb M j (bs (M j) o i.toNatClampNeg v) ∧ k M' = some x := by
  unfold stm at h
  by_cases hi : i < 0 ∨ n ≤ i.toNatClampNeg
  · rw [if_pos hi] at h; cases h
  · rw [if_neg hi] at h; exact ⟨hi, _, rfl, h⟩
end PURE2
theorem tbl_out {x : Int32} {l0 hi : Int} (h : ∀ i : Int, l0 ≤ i → i ≤ hi → x.toInt ≠ i) : x.toInt < l0 ∨ hi < x.toInt := by
  rcases Int.lt_or_le x.toInt l0 with h1 | h1
  · exact Or.inl h1
  · rcases Int.lt_or_le hi x.toInt with h2 | h2
    · exact Or.inr h2
    · exact absurd rfl (h _ h1 h2)
theorem tbl_cons {x : Int32} {l0 hi l1 : Int} {k : Int32} (hk : k.toInt = l0) (h1 : l1 = l0 + 1) (hne : ¬ x = k) (h : ∀ i : Int, l1 ≤ i → i ≤ hi → x.toInt ≠ i) : ∀ i : Int, l0 ≤ i → i ≤ hi → x.toInt ≠ i := by
  intro i ha hb he
  rcases Int.lt_or_le i l1 with h2 | h2
  · have : i = l0 := by omega
    subst this
    exact hne (Int32.toInt_inj.mp (he.trans hk.symm))
  · exact h i h2 hb he
theorem tbl_nil {x : Int32} {l0 hi : Int} (h1 : hi < l0) : ∀ i : Int, l0 ≤ i → i ≤ hi → x.toInt ≠ i := by
  intro i ha hb
  omega
end
section
/-! the words of the tables that the rows use -/
set_option maxRecDepth 100000 in
theorem wd_0 : Cond.selects RX4 yX4_scheduleRow yX4_scheduleRow ∈ lw_gd := gd_of 0 rfl rfl
set_option maxRecDepth 100000 in
theorem wd_1 : Cond.selects RX2 yX2_setOffer yX2_setOffer ∈ lw_gd := gd_of 1 rfl rfl
set_option maxRecDepth 100000 in
theorem wd_2 : Cond.selects RX2 yX2_latestExcept yX2_latestExcept ∈ lw_gd := gd_of 2 rfl rfl
set_option maxRecDepth 100000 in
theorem wd_3 : Cond.selects RX4 yX4_linkFrom yX4_linkFrom ∈ lw_gd := gd_of 3 rfl rfl
set_option maxRecDepth 100000 in
theorem wd_4 : Cond.selects RX2 yX2_bestSellerExcept yX2_bestSellerExcept ∈ lw_gd := gd_of 4 rfl rfl
set_option maxRecDepth 100000 in
theorem wd_5 : Cond.selects RX2 yX2_isInReach yX2_isInReach ∈ lw_gd := gd_of 5 rfl rfl
set_option maxRecDepth 100000 in
theorem wd_6 : Cond.selects RX2 yX2_isBetterSeller yX2_isBetterSeller ∈ lw_gd := gd_of 6 rfl rfl
set_option maxRecDepth 100000 in
theorem wd_7 : Cond.selects RX2 yX2_buyFrom yX2_buyFrom ∈ lw_gd := gd_of 7 rfl rfl
set_option maxRecDepth 100000 in
theorem wd_8 : Cond.selects RX0 yX0_remove yX0_remove ∈ lw_gd := gd_of 8 rfl rfl
set_option maxRecDepth 100000 in
theorem wd_9 : Cond.selects RX2 yX2_slackOf yX2_slackOf ∈ lw_gd := gd_of 9 rfl rfl
set_option maxRecDepth 100000 in
theorem wd_10 : Cond.selects RX2 yX2_lowerLatestEnd yX2_lowerLatestEnd ∈ lw_gd := gd_of 10 rfl rfl
set_option maxRecDepth 100000 in
theorem wd_11 : Cond.selects RX2 yX2_offers yX2_offers ∈ lw_gd := gd_of 11 rfl rfl
set_option maxRecDepth 100000 in
theorem wd_12 : Cond.selects RX2 yX2_lateTasks yX2_lateTasks ∈ lw_gd := gd_of 12 rfl rfl
set_option maxRecDepth 100000 in
theorem wd_13 : Cond.selects RX2 yX2_allMoney yX2_allMoney ∈ lw_gd := gd_of 13 rfl rfl
set_option maxRecDepth 100000 in
theorem wd_14 : Cond.selects RX4 yX4_waitedFor yX4_waitedFor ∈ lw_gd := gd_of 14 rfl rfl
set_option maxRecDepth 100000 in
theorem wd_15 : Cond.selects RX3 yX3_here yX3_here ∈ lw_gd := gd_of 15 rfl rfl
set_option maxRecDepth 100000 in
theorem wd_16 : Cond.selects RX3 yX3_readSign yX3_readSign ∈ lw_gd := gd_of 16 rfl rfl
set_option maxRecDepth 100000 in
theorem wd_17 : Cond.selects RX3 yX3_readTask yX3_readTask ∈ lw_gd := gd_of 17 rfl rfl
set_option maxRecDepth 100000 in
theorem wd_18 : Cond.selects RX3 yX3_readDigit yX3_readDigit ∈ lw_gd := gd_of 18 rfl rfl
set_option maxRecDepth 100000 in
theorem wd_19 : Cond.selects RX3 yX3_isDigit yX3_isDigit ∈ lw_gd := gd_of 19 rfl rfl
set_option maxRecDepth 100000 in
theorem wd_20 : Cond.selects RX3 yX3_keep yX3_keep ∈ lw_gd := gd_of 20 rfl rfl
set_option maxRecDepth 100000 in
theorem wd_21 : Cond.selects RX3 yX3_readNumber yX3_readNumber ∈ lw_gd := gd_of 21 rfl rfl
set_option maxRecDepth 100000 in
theorem wd_22 : Cond.selects RX3 yX3_readPair yX3_readPair ∈ lw_gd := gd_of 22 rfl rfl
set_option maxRecDepth 100000 in
theorem wd_23 : Cond.selects RX5 yX5_carryOrders yX5_carryOrders ∈ lw_gd := gd_of 23 rfl rfl
set_option maxRecDepth 100000 in
theorem wd_24 : Cond.selects RX5 yX5_carryOrder yX5_carryOrder ∈ lw_gd := gd_of 24 rfl rfl
set_option maxRecDepth 100000 in
theorem wd_25 : Cond.selects RX6 yX6_record yX6_record ∈ lw_gd := gd_of 25 rfl rfl
set_option maxRecDepth 100000 in
theorem wd_26 : Cond.selects RX6 yX6_isTask yX6_isTask ∈ lw_gd := gd_of 26 rfl rfl
set_option maxRecDepth 100000 in
theorem wd_27 : Cond.selects RX6 yX6_manyOn yX6_manyOn ∈ lw_gd := gd_of 27 rfl rfl
set_option maxRecDepth 100000 in
theorem wd_28 : Cond.selects RX6 yX6_putAt yX6_putAt ∈ lw_gd := gd_of 28 rfl rfl
set_option maxRecDepth 100000 in
theorem wd_29 : Cond.selects RX6 yX6_reckon yX6_reckon ∈ lw_gd := gd_of 29 rfl rfl
set_option maxRecDepth 100000 in
theorem wd_30 : Cond.selects RX6 yX6_endOf yX6_endOf ∈ lw_gd := gd_of 30 rfl rfl
set_option maxRecDepth 100000 in
theorem wd_31 : Cond.selects RX6 yX6_taskAt yX6_taskAt ∈ lw_gd := gd_of 31 rfl rfl
set_option maxRecDepth 100000 in
theorem wd_32 : Cond.selects RX6 yX6_measure yX6_measure ∈ lw_gd := gd_of 32 rfl rfl
set_option maxRecDepth 100000 in
theorem wd_33 : Cond.selects RX6 yX6_areLinked yX6_areLinked ∈ lw_gd := gd_of 33 rfl rfl
set_option maxRecDepth 100000 in
theorem wd_34 : Cond.selects RX6 yX6_tradeAll yX6_tradeAll ∈ lw_gd := gd_of 34 rfl rfl
set_option maxRecDepth 100000 in
theorem wd_35 : Cond.selects RX6 yX6_late yX6_late ∈ lw_gd := gd_of 35 rfl rfl
set_option maxRecDepth 100000 in
theorem wd_36 : Cond.selects RX6 yX6_buys yX6_buys ∈ lw_gd := gd_of 36 rfl rfl
set_option maxRecDepth 100000 in
theorem wd_37 : Cond.selects RX6 yX6_nextOffer yX6_nextOffer ∈ lw_gd := gd_of 37 rfl rfl
set_option maxRecDepth 100000 in
theorem wd_38 : Cond.selects RX6 yX6_isSooner yX6_isSooner ∈ lw_gd := gd_of 38 rfl rfl
set_option maxRecDepth 100000 in
theorem wd_39 : Cond.selects RX6 yX6_hoursOf yX6_hoursOf ∈ lw_gd := gd_of 39 rfl rfl
set_option maxRecDepth 100000 in
theorem wd_40 : Cond.selects RX6 yX6_spared yX6_spared ∈ lw_gd := gd_of 40 rfl rfl
set_option maxRecDepth 100000 in
theorem wd_41 : Cond.selects RX6 yX6_agree yX6_agree ∈ lw_gd := gd_of 41 rfl rfl
set_option maxRecDepth 100000 in
theorem wd_42 : Cond.selects RX6 yX6_isContract yX6_isContract ∈ lw_gd := gd_of 42 rfl rfl
set_option maxRecDepth 100000 in
theorem wd_43 : Cond.selects RX6 yX6_dropContract yX6_dropContract ∈ lw_gd := gd_of 43 rfl rfl
set_option maxRecDepth 100000 in
theorem wd_44 : Cond.selects RX6 yX6_slack yX6_slack ∈ lw_gd := gd_of 44 rfl rfl
set_option maxRecDepth 100000 in
theorem wd_45 : Cond.selects RX6 yX6_canBeHeld yX6_canBeHeld ∈ lw_gd := gd_of 45 rfl rfl
set_option maxRecDepth 100000 in
theorem wd_46 : Cond.selects RX6 yX6_lateTogether yX6_lateTogether ∈ lw_gd := gd_of 46 rfl rfl
set_option maxRecDepth 100000 in
theorem wd_47 : Cond.selects RX6 yX6_hoursBy yX6_hoursBy ∈ lw_gd := gd_of 47 rfl rfl
set_option maxRecDepth 100000 in
theorem wd_48 : Cond.selects RX6 yX6_behind yX6_behind ∈ lw_gd := gd_of 48 rfl rfl
set_option maxRecDepth 100000 in
theorem wd_49 : Cond.selects RX6 yX6_offers yX6_offers ∈ lw_gd := gd_of 49 rfl rfl
set_option maxRecDepth 100000 in
theorem wd_50 : Cond.selects RX6 yX6_lateSet yX6_lateSet ∈ lw_gd := gd_of 50 rfl rfl
set_option maxRecDepth 100000 in
theorem wd_51 : Cond.selects RX6 yX6_endOfAll yX6_endOfAll ∈ lw_gd := gd_of 51 rfl rfl
set_option maxRecDepth 100000 in
theorem wd_52 : Cond.selects RX6 yX6_sumOf yX6_sumOf ∈ lw_gd := gd_of 52 rfl rfl
set_option maxRecDepth 100000 in
theorem wd_53 : Cond.selects RX6 yX6_putAside yX6_putAside ∈ lw_gd := gd_of 53 rfl rfl
set_option maxRecDepth 100000 in
theorem wd_54 : Cond.selects RX6 yX6_bringBack yX6_bringBack ∈ lw_gd := gd_of 54 rfl rfl
set_option maxRecDepth 100000 in
theorem wd_55 : Cond.selects RX6 yX6_readPad yX6_readPad ∈ lw_gd := gd_of 55 rfl rfl
set_option maxRecDepth 100000 in
theorem wd_56 : Cond.selects RX6 yX6_readOrder yX6_readOrder ∈ lw_gd := gd_of 56 rfl rfl
set_option maxRecDepth 100000 in
theorem wd_57 : Cond.selects RX6 yX6_letter yX6_letter ∈ lw_gd := gd_of 57 rfl rfl
set_option maxRecDepth 100000 in
theorem wd_58 : Cond.selects RX6 yX6_readTask yX6_readTask ∈ lw_gd := gd_of 58 rfl rfl
set_option maxRecDepth 100000 in
theorem wd_59 : Cond.selects RX6 yX6_takesMachine yX6_takesMachine ∈ lw_gd := gd_of 59 rfl rfl
set_option maxRecDepth 100000 in
theorem wd_60 : Cond.selects RX6 yX6_fail yX6_fail ∈ lw_gd := gd_of 60 rfl rfl
set_option maxRecDepth 100000 in
theorem wd_61 : Cond.selects RX6 yX6_takes yX6_takes ∈ lw_gd := gd_of 61 rfl rfl
set_option maxRecDepth 100000 in
theorem wd_62 : Cond.selects RX6 yX6_takesNumber yX6_takesNumber ∈ lw_gd := gd_of 62 rfl rfl
set_option maxRecDepth 100000 in
theorem wd_63 : Cond.selects RX6 yX6_isDigit yX6_isDigit ∈ lw_gd := gd_of 63 rfl rfl
set_option maxRecDepth 100000 in
theorem wd_64 : Cond.selects RX6 yX6_readTwo yX6_readTwo ∈ lw_gd := gd_of 64 rfl rfl
set_option maxRecDepth 100000 in
theorem wd_65 : Cond.selects RX6 yX6_does yX6_does ∈ lw_gd := gd_of 65 rfl rfl
set_option maxRecDepth 100000 in
theorem wd_67 : Cond.initialized RX5 ∈ lw_gd := gd_of 67 rfl rfl
set_option maxRecDepth 100000 in
theorem wd_68 : Cond.initialized RX2 ∈ lw_gd := gd_of 68 rfl rfl
set_option maxRecDepth 100000 in
theorem wd_69 : Cond.initialized RX4 ∈ lw_gd := gd_of 69 rfl rfl
set_option maxRecDepth 100000 in
theorem wd_70 : Cond.initialized RX0 ∈ lw_gd := gd_of 70 rfl rfl
set_option maxRecDepth 100000 in
theorem wd_71 : Cond.initialized RX1 ∈ lw_gd := gd_of 71 rfl rfl
set_option maxRecDepth 100000 in
theorem wd_72 : Cond.initialized RX3 ∈ lw_gd := gd_of 72 rfl rfl
set_option maxRecDepth 100000 in
theorem wd_73 : Cond.initialized RX6 ∈ lw_gd := gd_of 73 rfl rfl
set_option maxRecDepth 100000 in
theorem wd_74 : Cond.initialized "java/lang/System" ∈ lw_gd := gd_of 74 rfl rfl
set_option maxRecDepth 100000 in
theorem wd_75 : Cond.initialized "java/lang/Math" ∈ lw_gd := gd_of 75 rfl rfl
set_option maxRecDepth 100000 in
theorem wd_96 : Cond.fieldLink RX4 39 (TX4 0).1 (TX4 0).2.1 (TX4 0).2.2.1 ∈ lw_gd := gd_of 96 rfl rfl
set_option maxRecDepth 100000 in
theorem wd_97 : Cond.fieldLink RX2 66 (TX4 0).1 (TX4 0).2.1 (TX4 0).2.2.1 ∈ lw_gd := gd_of 97 rfl rfl
set_option maxRecDepth 100000 in
theorem wd_98 : Cond.fieldLink RX5 192 (TX4 0).1 (TX4 0).2.1 (TX4 0).2.2.1 ∈ lw_gd := gd_of 98 rfl rfl
set_option maxRecDepth 100000 in
theorem wd_99 : Cond.fieldLink RX4 9 (TX4 1).1 (TX4 1).2.1 (TX4 1).2.2.1 ∈ lw_gd := gd_of 99 rfl rfl
set_option maxRecDepth 100000 in
theorem wd_100 : Cond.fieldLink RX2 83 (TX4 1).1 (TX4 1).2.1 (TX4 1).2.2.1 ∈ lw_gd := gd_of 100 rfl rfl
set_option maxRecDepth 100000 in
theorem wd_101 : Cond.fieldLink RX4 15 (TX4 2).1 (TX4 2).2.1 (TX4 2).2.2.1 ∈ lw_gd := gd_of 101 rfl rfl
set_option maxRecDepth 100000 in
theorem wd_102 : Cond.fieldLink RX2 77 (TX4 2).1 (TX4 2).2.1 (TX4 2).2.2.1 ∈ lw_gd := gd_of 102 rfl rfl
set_option maxRecDepth 100000 in
theorem wd_103 : Cond.fieldLink RX4 18 (TX4 3).1 (TX4 3).2.1 (TX4 3).2.2.1 ∈ lw_gd := gd_of 103 rfl rfl
set_option maxRecDepth 100000 in
theorem wd_104 : Cond.fieldLink RX2 177 (TX4 3).1 (TX4 3).2.1 (TX4 3).2.2.1 ∈ lw_gd := gd_of 104 rfl rfl
set_option maxRecDepth 100000 in
theorem wd_105 : Cond.fieldLink RX4 21 (TX4 4).1 (TX4 4).2.1 (TX4 4).2.2.1 ∈ lw_gd := gd_of 105 rfl rfl
set_option maxRecDepth 100000 in
theorem wd_106 : Cond.fieldLink RX2 108 (TX4 4).1 (TX4 4).2.1 (TX4 4).2.2.1 ∈ lw_gd := gd_of 106 rfl rfl
set_option maxRecDepth 100000 in
theorem wd_107 : Cond.fieldLink RX4 24 (TX4 5).1 (TX4 5).2.1 (TX4 5).2.2.1 ∈ lw_gd := gd_of 107 rfl rfl
set_option maxRecDepth 100000 in
theorem wd_108 : Cond.fieldLink RX2 168 (TX4 5).1 (TX4 5).2.1 (TX4 5).2.2.1 ∈ lw_gd := gd_of 108 rfl rfl
set_option maxRecDepth 100000 in
theorem wd_109 : Cond.fieldLink RX4 27 (TX4 6).1 (TX4 6).2.1 (TX4 6).2.2.1 ∈ lw_gd := gd_of 109 rfl rfl
set_option maxRecDepth 100000 in
theorem wd_110 : Cond.fieldLink RX4 30 (TX4 7).1 (TX4 7).2.1 (TX4 7).2.2.1 ∈ lw_gd := gd_of 110 rfl rfl
set_option maxRecDepth 100000 in
theorem wd_111 : Cond.fieldLink RX2 80 (TX4 7).1 (TX4 7).2.1 (TX4 7).2.2.1 ∈ lw_gd := gd_of 111 rfl rfl
set_option maxRecDepth 100000 in
theorem wd_112 : Cond.fieldLink RX4 33 (TX4 8).1 (TX4 8).2.1 (TX4 8).2.2.1 ∈ lw_gd := gd_of 112 rfl rfl
set_option maxRecDepth 100000 in
theorem wd_113 : Cond.fieldLink RX4 36 (TX4 9).1 (TX4 9).2.1 (TX4 9).2.2.1 ∈ lw_gd := gd_of 113 rfl rfl
set_option maxRecDepth 100000 in
theorem wd_114 : Cond.fieldLink RX2 144 (TX4 9).1 (TX4 9).2.1 (TX4 9).2.2.1 ∈ lw_gd := gd_of 114 rfl rfl
set_option maxRecDepth 100000 in
theorem wd_115 : Cond.fieldLink RX5 125 (TX4 9).1 (TX4 9).2.1 (TX4 9).2.2.1 ∈ lw_gd := gd_of 115 rfl rfl
set_option maxRecDepth 100000 in
theorem wd_144 : Cond.fieldLink RX0 24 (TX0 0).1 (TX0 0).2.1 (TX0 0).2.2.1 ∈ lw_gd := gd_of 144 rfl rfl
set_option maxRecDepth 100000 in
theorem wd_145 : Cond.fieldLink RX2 115 (TX0 0).1 (TX0 0).2.1 (TX0 0).2.2.1 ∈ lw_gd := gd_of 145 rfl rfl
set_option maxRecDepth 100000 in
theorem wd_146 : Cond.fieldLink RX5 137 (TX0 0).1 (TX0 0).2.1 (TX0 0).2.2.1 ∈ lw_gd := gd_of 146 rfl rfl
set_option maxRecDepth 100000 in
theorem wd_147 : Cond.fieldLink RX0 9 (TX0 1).1 (TX0 1).2.1 (TX0 1).2.2.1 ∈ lw_gd := gd_of 147 rfl rfl
set_option maxRecDepth 100000 in
theorem wd_148 : Cond.fieldLink RX2 101 (TX0 1).1 (TX0 1).2.1 (TX0 1).2.2.1 ∈ lw_gd := gd_of 148 rfl rfl
set_option maxRecDepth 100000 in
theorem wd_149 : Cond.fieldLink RX0 15 (TX0 2).1 (TX0 2).2.1 (TX0 2).2.2.1 ∈ lw_gd := gd_of 149 rfl rfl
set_option maxRecDepth 100000 in
theorem wd_150 : Cond.fieldLink RX2 104 (TX0 2).1 (TX0 2).2.1 (TX0 2).2.2.1 ∈ lw_gd := gd_of 150 rfl rfl
set_option maxRecDepth 100000 in
theorem wd_151 : Cond.fieldLink RX0 18 (TX0 3).1 (TX0 3).2.1 (TX0 3).2.2.1 ∈ lw_gd := gd_of 151 rfl rfl
set_option maxRecDepth 100000 in
theorem wd_152 : Cond.fieldLink RX2 98 (TX0 3).1 (TX0 3).2.1 (TX0 3).2.2.1 ∈ lw_gd := gd_of 152 rfl rfl
set_option maxRecDepth 100000 in
theorem wd_153 : Cond.fieldLink RX0 21 (TX0 4).1 (TX0 4).2.1 (TX0 4).2.2.1 ∈ lw_gd := gd_of 153 rfl rfl
set_option maxRecDepth 100000 in
theorem wd_154 : Cond.fieldLink RX2 107 (TX0 4).1 (TX0 4).2.1 (TX0 4).2.2.1 ∈ lw_gd := gd_of 154 rfl rfl
set_option maxRecDepth 100000 in
theorem wd_166 : Cond.fieldLink RX2 12 (TX2 0).1 (TX2 0).2.1 (TX2 0).2.2.1 ∈ lw_gd := gd_of 166 rfl rfl
set_option maxRecDepth 100000 in
theorem wd_167 : Cond.fieldLink RX5 80 (TX2 0).1 (TX2 0).2.1 (TX2 0).2.2.1 ∈ lw_gd := gd_of 167 rfl rfl
set_option maxRecDepth 100000 in
theorem wd_168 : Cond.fieldLink RX2 21 (TX2 1).1 (TX2 1).2.1 (TX2 1).2.2.1 ∈ lw_gd := gd_of 168 rfl rfl
set_option maxRecDepth 100000 in
theorem wd_169 : Cond.fieldLink RX5 102 (TX2 1).1 (TX2 1).2.1 (TX2 1).2.2.1 ∈ lw_gd := gd_of 169 rfl rfl
set_option maxRecDepth 100000 in
theorem wd_170 : Cond.fieldLink RX2 25 (TX2 2).1 (TX2 2).2.1 (TX2 2).2.2.1 ∈ lw_gd := gd_of 170 rfl rfl
set_option maxRecDepth 100000 in
theorem wd_171 : Cond.fieldLink RX2 29 (TX2 3).1 (TX2 3).2.1 (TX2 3).2.2.1 ∈ lw_gd := gd_of 171 rfl rfl
set_option maxRecDepth 100000 in
theorem wd_172 : Cond.fieldLink RX2 32 (TX2 4).1 (TX2 4).2.1 (TX2 4).2.2.1 ∈ lw_gd := gd_of 172 rfl rfl
set_option maxRecDepth 100000 in
theorem wd_173 : Cond.fieldLink RX5 90 (TX2 4).1 (TX2 4).2.1 (TX2 4).2.2.1 ∈ lw_gd := gd_of 173 rfl rfl
set_option maxRecDepth 100000 in
theorem wd_174 : Cond.fieldLink RX2 36 (TX2 5).1 (TX2 5).2.1 (TX2 5).2.2.1 ∈ lw_gd := gd_of 174 rfl rfl
set_option maxRecDepth 100000 in
theorem wd_175 : Cond.fieldLink RX5 96 (TX2 5).1 (TX2 5).2.1 (TX2 5).2.2.1 ∈ lw_gd := gd_of 175 rfl rfl
set_option maxRecDepth 100000 in
theorem wd_176 : Cond.fieldLink RX2 39 (TX2 6).1 (TX2 6).2.1 (TX2 6).2.2.1 ∈ lw_gd := gd_of 176 rfl rfl
set_option maxRecDepth 100000 in
theorem wd_177 : Cond.fieldLink RX2 42 (TX2 7).1 (TX2 7).2.1 (TX2 7).2.2.1 ∈ lw_gd := gd_of 177 rfl rfl
set_option maxRecDepth 100000 in
theorem wd_178 : Cond.fieldLink RX2 45 (TX2 8).1 (TX2 8).2.1 (TX2 8).2.2.1 ∈ lw_gd := gd_of 178 rfl rfl
set_option maxRecDepth 100000 in
theorem wd_207 : Cond.fieldLink RX1 11 (TX1 0).1 (TX1 0).2.1 (TX1 0).2.2.1 ∈ lw_gd := gd_of 207 rfl rfl
set_option maxRecDepth 100000 in
theorem wd_208 : Cond.fieldLink RX1 18 (TX1 1).1 (TX1 1).2.1 (TX1 1).2.2.1 ∈ lw_gd := gd_of 208 rfl rfl
set_option maxRecDepth 100000 in
theorem wd_209 : Cond.fieldLink RX1 22 (TX1 2).1 (TX1 2).2.1 (TX1 2).2.2.1 ∈ lw_gd := gd_of 209 rfl rfl
set_option maxRecDepth 100000 in
theorem wd_210 : Cond.fieldLink RX5 115 (TX1 2).1 (TX1 2).2.1 (TX1 2).2.2.1 ∈ lw_gd := gd_of 210 rfl rfl
set_option maxRecDepth 100000 in
theorem wd_224 : Cond.fieldLink RX3 9 (TX3 0).1 (TX3 0).2.1 (TX3 0).2.2.1 ∈ lw_gd := gd_of 224 rfl rfl
set_option maxRecDepth 100000 in
theorem wd_225 : Cond.fieldLink RX3 25 (TX3 1).1 (TX3 1).2.1 (TX3 1).2.2.1 ∈ lw_gd := gd_of 225 rfl rfl
set_option maxRecDepth 100000 in
theorem wd_226 : Cond.fieldLink RX5 111 (TX3 1).1 (TX3 1).2.1 (TX3 1).2.2.1 ∈ lw_gd := gd_of 226 rfl rfl
set_option maxRecDepth 100000 in
theorem wd_227 : Cond.fieldLink RX3 29 (TX3 2).1 (TX3 2).2.1 (TX3 2).2.2.1 ∈ lw_gd := gd_of 227 rfl rfl
set_option maxRecDepth 100000 in
theorem wd_228 : Cond.fieldLink RX3 53 (TX3 3).1 (TX3 3).2.1 (TX3 3).2.2.1 ∈ lw_gd := gd_of 228 rfl rfl
set_option maxRecDepth 100000 in
theorem wd_229 : Cond.fieldLink RX5 185 (TX3 3).1 (TX3 3).2.1 (TX3 3).2.2.1 ∈ lw_gd := gd_of 229 rfl rfl
set_option maxRecDepth 100000 in
theorem wd_230 : Cond.fieldLink RX3 15 (TX3 4).1 (TX3 4).2.1 (TX3 4).2.2.1 ∈ lw_gd := gd_of 230 rfl rfl
set_option maxRecDepth 100000 in
theorem wd_231 : Cond.fieldLink RX5 182 (TX3 4).1 (TX3 4).2.1 (TX3 4).2.2.1 ∈ lw_gd := gd_of 231 rfl rfl
set_option maxRecDepth 100000 in
theorem wd_232 : Cond.fieldLink RX3 46 (TX3 5).1 (TX3 5).2.1 (TX3 5).2.2.1 ∈ lw_gd := gd_of 232 rfl rfl
set_option maxRecDepth 100000 in
theorem wd_248 : Cond.fieldLink RX5 10 (TX5 0).1 (TX5 0).2.1 (TX5 0).2.2.1 ∈ lw_gd := gd_of 248 rfl rfl
set_option maxRecDepth 100000 in
theorem wd_249 : Cond.fieldLink RX5 16 (TX5 1).1 (TX5 1).2.1 (TX5 1).2.2.1 ∈ lw_gd := gd_of 249 rfl rfl
set_option maxRecDepth 100000 in
theorem wd_250 : Cond.fieldLink RX5 22 (TX5 2).1 (TX5 2).2.1 (TX5 2).2.2.1 ∈ lw_gd := gd_of 250 rfl rfl
set_option maxRecDepth 100000 in
theorem wd_251 : Cond.fieldLink RX5 26 (TX5 3).1 (TX5 3).2.1 (TX5 3).2.2.1 ∈ lw_gd := gd_of 251 rfl rfl
set_option maxRecDepth 100000 in
theorem wd_252 : Cond.fieldLink RX5 30 (TX5 4).1 (TX5 4).2.1 (TX5 4).2.2.1 ∈ lw_gd := gd_of 252 rfl rfl
set_option maxRecDepth 100000 in
theorem wd_253 : Cond.fieldLink RX5 37 (TX5 5).1 (TX5 5).2.1 (TX5 5).2.2.1 ∈ lw_gd := gd_of 253 rfl rfl
set_option maxRecDepth 100000 in
theorem wd_268 : Cond.instanceMethod yX5_set ∈ lw_gd := gd_of 268 rfl rfl
set_option maxRecDepth 100000 in
theorem wd_269 : Cond.selects RX5 yX5_set yX5_set ∈ lw_gd := gd_of 269 rfl rfl
set_option maxRecDepth 100000 in
theorem wd_270 : Cond.code yX5_set cX5_set 3 (some .int) ∈ lw_gd := gd_of 270 rfl rfl
set_option maxRecDepth 100000 in
theorem wd_271 : Cond.methodLink RX5 41 yX1_prepare ∈ lw_gd := gd_of 271 rfl rfl
set_option maxRecDepth 100000 in
theorem wd_272 : Cond.instanceMethod yX1_prepare ∈ lw_gd := gd_of 272 rfl rfl
set_option maxRecDepth 100000 in
theorem wd_273 : Cond.selects RX1 yX1_prepare yX1_prepare ∈ lw_gd := gd_of 273 rfl rfl
set_option maxRecDepth 100000 in
theorem wd_274 : Cond.code yX1_prepare cX1_prepare 3 (none) ∈ lw_gd := gd_of 274 rfl rfl
set_option maxRecDepth 100000 in
theorem wd_275 : Cond.methodLink RX1 25 yX2_copyFrom ∈ lw_gd := gd_of 275 rfl rfl
set_option maxRecDepth 100000 in
theorem wd_276 : Cond.instanceMethod yX2_copyFrom ∈ lw_gd := gd_of 276 rfl rfl
set_option maxRecDepth 100000 in
theorem wd_277 : Cond.selects RX2 yX2_copyFrom yX2_copyFrom ∈ lw_gd := gd_of 277 rfl rfl
set_option maxRecDepth 100000 in
theorem wd_278 : Cond.code yX2_copyFrom cX2_copyFrom 2 (none) ∈ lw_gd := gd_of 278 rfl rfl
set_option maxRecDepth 100000 in
theorem wd_279 : Cond.methodLink RX2 48 yX4_copyFrom ∈ lw_gd := gd_of 279 rfl rfl
set_option maxRecDepth 100000 in
theorem wd_280 : Cond.instanceMethod yX4_copyFrom ∈ lw_gd := gd_of 280 rfl rfl
set_option maxRecDepth 100000 in
theorem wd_281 : Cond.selects RX4 yX4_copyFrom yX4_copyFrom ∈ lw_gd := gd_of 281 rfl rfl
set_option maxRecDepth 100000 in
theorem wd_282 : Cond.code yX4_copyFrom cX4_copyFrom 2 (none) ∈ lw_gd := gd_of 282 rfl rfl
set_option maxRecDepth 100000 in
theorem wd_283 : Cond.methodLink RX4 43 arraycopyName ∈ lw_gd := gd_of 283 rfl rfl
set_option maxRecDepth 100000 in
theorem wd_284 : Cond.static arraycopyName ∈ lw_gd := gd_of 284 rfl rfl
set_option maxRecDepth 100000 in
theorem wd_285 : Cond.native arraycopyName ∈ lw_gd := gd_of 285 rfl rfl
set_option maxRecDepth 100000 in
theorem wd_286 : Cond.methodLink RX2 52 yX0_copyFrom ∈ lw_gd := gd_of 286 rfl rfl
set_option maxRecDepth 100000 in
theorem wd_287 : Cond.instanceMethod yX0_copyFrom ∈ lw_gd := gd_of 287 rfl rfl
set_option maxRecDepth 100000 in
theorem wd_288 : Cond.selects RX0 yX0_copyFrom yX0_copyFrom ∈ lw_gd := gd_of 288 rfl rfl
set_option maxRecDepth 100000 in
theorem wd_289 : Cond.code yX0_copyFrom cX0_copyFrom 2 (none) ∈ lw_gd := gd_of 289 rfl rfl
set_option maxRecDepth 100000 in
theorem wd_290 : Cond.methodLink RX0 28 arraycopyName ∈ lw_gd := gd_of 290 rfl rfl
set_option maxRecDepth 100000 in
theorem wd_291 : Cond.methodLink RX2 55 arraycopyName ∈ lw_gd := gd_of 291 rfl rfl
set_option maxRecDepth 100000 in
theorem wd_292 : Cond.methodLink RX5 45 yX2_changeSetting ∈ lw_gd := gd_of 292 rfl rfl
set_option maxRecDepth 100000 in
theorem wd_293 : Cond.instanceMethod yX2_changeSetting ∈ lw_gd := gd_of 293 rfl rfl
set_option maxRecDepth 100000 in
theorem wd_294 : Cond.selects RX2 yX2_changeSetting yX2_changeSetting ∈ lw_gd := gd_of 294 rfl rfl
set_option maxRecDepth 100000 in
theorem wd_295 : Cond.code yX2_changeSetting cX2_changeSetting 4 (some .int) ∈ lw_gd := gd_of 295 rfl rfl
set_option maxRecDepth 100000 in
theorem wd_296 : Cond.methodLink RX5 49 yX1_record ∈ lw_gd := gd_of 296 rfl rfl
set_option maxRecDepth 100000 in
theorem wd_297 : Cond.instanceMethod yX1_record ∈ lw_gd := gd_of 297 rfl rfl
set_option maxRecDepth 100000 in
theorem wd_298 : Cond.selects RX1 yX1_record yX1_record ∈ lw_gd := gd_of 298 rfl rfl
set_option maxRecDepth 100000 in
theorem wd_299 : Cond.code yX1_record cX1_record 2 (some .int) ∈ lw_gd := gd_of 299 rfl rfl
set_option maxRecDepth 100000 in
theorem wd_301 : Cond.instanceMethod yX5_task ∈ lw_gd := gd_of 301 rfl rfl
set_option maxRecDepth 100000 in
theorem wd_302 : Cond.selects RX5 yX5_task yX5_task ∈ lw_gd := gd_of 302 rfl rfl
set_option maxRecDepth 100000 in
theorem wd_303 : Cond.code yX5_task cX5_task 6 (some .int) ∈ lw_gd := gd_of 303 rfl rfl
set_option maxRecDepth 100000 in
theorem wd_304 : Cond.methodLink RX5 53 yX2_addTask ∈ lw_gd := gd_of 304 rfl rfl
set_option maxRecDepth 100000 in
theorem wd_305 : Cond.instanceMethod yX2_addTask ∈ lw_gd := gd_of 305 rfl rfl
set_option maxRecDepth 100000 in
theorem wd_306 : Cond.selects RX2 yX2_addTask yX2_addTask ∈ lw_gd := gd_of 306 rfl rfl
set_option maxRecDepth 100000 in
theorem wd_307 : Cond.code yX2_addTask cX2_addTask 7 (some .int) ∈ lw_gd := gd_of 307 rfl rfl
set_option maxRecDepth 100000 in
theorem wd_308 : Cond.methodLink RX2 61 yX4_has ∈ lw_gd := gd_of 308 rfl rfl
set_option maxRecDepth 100000 in
theorem wd_309 : Cond.instanceMethod yX4_has ∈ lw_gd := gd_of 309 rfl rfl
set_option maxRecDepth 100000 in
theorem wd_310 : Cond.selects RX4 yX4_has yX4_has ∈ lw_gd := gd_of 310 rfl rfl
set_option maxRecDepth 100000 in
theorem wd_311 : Cond.code yX4_has cX4_has 2 (some .boolean) ∈ lw_gd := gd_of 311 rfl rfl
set_option maxRecDepth 100000 in
theorem wd_312 : Cond.constant RX2 65 (100000 : Int32) ∈ lw_gd := gd_of 312 rfl rfl
set_option maxRecDepth 100000 in
theorem wd_313 : Cond.methodLink RX2 69 yX4_append ∈ lw_gd := gd_of 313 rfl rfl
set_option maxRecDepth 100000 in
theorem wd_314 : Cond.instanceMethod yX4_append ∈ lw_gd := gd_of 314 rfl rfl
set_option maxRecDepth 100000 in
theorem wd_315 : Cond.selects RX4 yX4_append yX4_append ∈ lw_gd := gd_of 315 rfl rfl
set_option maxRecDepth 100000 in
theorem wd_316 : Cond.code yX4_append cX4_append 5 (none) ∈ lw_gd := gd_of 316 rfl rfl
set_option maxRecDepth 100000 in
theorem wd_317 : Cond.methodLink RX2 73 yX4_schedule ∈ lw_gd := gd_of 317 rfl rfl
set_option maxRecDepth 100000 in
theorem wd_318 : Cond.instanceMethod yX4_schedule ∈ lw_gd := gd_of 318 rfl rfl
set_option maxRecDepth 100000 in
theorem wd_319 : Cond.selects RX4 yX4_schedule yX4_schedule ∈ lw_gd := gd_of 319 rfl rfl
set_option maxRecDepth 100000 in
theorem wd_320 : Cond.code yX4_schedule cX4_schedule 4 (some .boolean) ∈ lw_gd := gd_of 320 rfl rfl
set_option maxRecDepth 100000 in
theorem wd_321 : Cond.methodLink RX4 62 yX4_scheduleRow ∈ lw_gd := gd_of 321 rfl rfl
set_option maxRecDepth 100000 in
theorem wd_323 : Cond.instanceMethod yX4_scheduleRow ∈ lw_gd := gd_of 323 rfl rfl
set_option maxRecDepth 100000 in
theorem wd_324 : Cond.code yX4_scheduleRow cX4_scheduleRow 6 (some .int) ∈ lw_gd := gd_of 324 rfl rfl
set_option maxRecDepth 100000 in
theorem wd_325 : Cond.methodLink RX4 49 yX4_inRow ∈ lw_gd := gd_of 325 rfl rfl
set_option maxRecDepth 100000 in
theorem wd_326 : Cond.instanceMethod yX4_inRow ∈ lw_gd := gd_of 326 rfl rfl
set_option maxRecDepth 100000 in
theorem wd_327 : Cond.selects RX4 yX4_inRow yX4_inRow ∈ lw_gd := gd_of 327 rfl rfl
set_option maxRecDepth 100000 in
theorem wd_328 : Cond.code yX4_inRow cX4_inRow 3 (some .int) ∈ lw_gd := gd_of 328 rfl rfl
set_option maxRecDepth 100000 in
theorem wd_329 : Cond.methodLink RX4 65 yX4_endOf ∈ lw_gd := gd_of 329 rfl rfl
set_option maxRecDepth 100000 in
theorem wd_330 : Cond.instanceMethod yX4_endOf ∈ lw_gd := gd_of 330 rfl rfl
set_option maxRecDepth 100000 in
theorem wd_331 : Cond.selects RX4 yX4_endOf yX4_endOf ∈ lw_gd := gd_of 331 rfl rfl
set_option maxRecDepth 100000 in
theorem wd_332 : Cond.code yX4_endOf cX4_endOf 2 (some .int) ∈ lw_gd := gd_of 332 rfl rfl
set_option maxRecDepth 100000 in
theorem wd_333 : Cond.methodLink RX4 68 yX4_has ∈ lw_gd := gd_of 333 rfl rfl
set_option maxRecDepth 100000 in
theorem wd_334 : Cond.methodLink RX4 57 Lib.Math.max.name ∈ lw_gd := gd_of 334 rfl rfl
set_option maxRecDepth 100000 in
theorem wd_335 : Cond.static Lib.Math.max.name ∈ lw_gd := gd_of 335 rfl rfl
set_option maxRecDepth 100000 in
theorem wd_336 : Cond.code Lib.Math.max.name Lib.Math.max.code 2 (some .int) ∈ lw_gd := gd_of 336 rfl rfl
set_option maxRecDepth 100000 in
theorem wd_338 : Cond.instanceMethod yX5_duration ∈ lw_gd := gd_of 338 rfl rfl
set_option maxRecDepth 100000 in
theorem wd_339 : Cond.selects RX5 yX5_duration yX5_duration ∈ lw_gd := gd_of 339 rfl rfl
set_option maxRecDepth 100000 in
theorem wd_340 : Cond.code yX5_duration cX5_duration 3 (some .int) ∈ lw_gd := gd_of 340 rfl rfl
set_option maxRecDepth 100000 in
theorem wd_341 : Cond.methodLink RX5 57 yX2_changeDuration ∈ lw_gd := gd_of 341 rfl rfl
set_option maxRecDepth 100000 in
theorem wd_342 : Cond.instanceMethod yX2_changeDuration ∈ lw_gd := gd_of 342 rfl rfl
set_option maxRecDepth 100000 in
theorem wd_343 : Cond.selects RX2 yX2_changeDuration yX2_changeDuration ∈ lw_gd := gd_of 343 rfl rfl
set_option maxRecDepth 100000 in
theorem wd_344 : Cond.code yX2_changeDuration cX2_changeDuration 4 (some .int) ∈ lw_gd := gd_of 344 rfl rfl
set_option maxRecDepth 100000 in
theorem wd_346 : Cond.instanceMethod yX5_move ∈ lw_gd := gd_of 346 rfl rfl
set_option maxRecDepth 100000 in
theorem wd_347 : Cond.selects RX5 yX5_move yX5_move ∈ lw_gd := gd_of 347 rfl rfl
set_option maxRecDepth 100000 in
theorem wd_348 : Cond.code yX5_move cX5_move 3 (some .int) ∈ lw_gd := gd_of 348 rfl rfl
set_option maxRecDepth 100000 in
theorem wd_349 : Cond.methodLink RX5 60 yX2_moveTask ∈ lw_gd := gd_of 349 rfl rfl
set_option maxRecDepth 100000 in
theorem wd_350 : Cond.instanceMethod yX2_moveTask ∈ lw_gd := gd_of 350 rfl rfl
set_option maxRecDepth 100000 in
theorem wd_351 : Cond.selects RX2 yX2_moveTask yX2_moveTask ∈ lw_gd := gd_of 351 rfl rfl
set_option maxRecDepth 100000 in
theorem wd_352 : Cond.code yX2_moveTask cX2_moveTask 4 (some .int) ∈ lw_gd := gd_of 352 rfl rfl
set_option maxRecDepth 100000 in
theorem wd_353 : Cond.methodLink RX2 86 yX4_placeOf ∈ lw_gd := gd_of 353 rfl rfl
set_option maxRecDepth 100000 in
theorem wd_354 : Cond.instanceMethod yX4_placeOf ∈ lw_gd := gd_of 354 rfl rfl
set_option maxRecDepth 100000 in
theorem wd_355 : Cond.selects RX4 yX4_placeOf yX4_placeOf ∈ lw_gd := gd_of 355 rfl rfl
set_option maxRecDepth 100000 in
theorem wd_356 : Cond.code yX4_placeOf cX4_placeOf 4 (some .int) ∈ lw_gd := gd_of 356 rfl rfl
set_option maxRecDepth 100000 in
theorem wd_357 : Cond.methodLink RX2 90 yX4_shift ∈ lw_gd := gd_of 357 rfl rfl
set_option maxRecDepth 100000 in
theorem wd_358 : Cond.instanceMethod yX4_shift ∈ lw_gd := gd_of 358 rfl rfl
set_option maxRecDepth 100000 in
theorem wd_359 : Cond.selects RX4 yX4_shift yX4_shift ∈ lw_gd := gd_of 359 rfl rfl
set_option maxRecDepth 100000 in
theorem wd_360 : Cond.code yX4_shift cX4_shift 6 (none) ∈ lw_gd := gd_of 360 rfl rfl
set_option maxRecDepth 100000 in
theorem wd_361 : Cond.methodLink RX4 53 yX4_placeOf ∈ lw_gd := gd_of 361 rfl rfl
set_option maxRecDepth 100000 in
theorem wd_363 : Cond.instanceMethod yX5_offer ∈ lw_gd := gd_of 363 rfl rfl
set_option maxRecDepth 100000 in
theorem wd_364 : Cond.selects RX5 yX5_offer yX5_offer ∈ lw_gd := gd_of 364 rfl rfl
set_option maxRecDepth 100000 in
theorem wd_365 : Cond.code yX5_offer cX5_offer 4 (some .int) ∈ lw_gd := gd_of 365 rfl rfl
set_option maxRecDepth 100000 in
theorem wd_366 : Cond.methodLink RX5 63 yX2_makeOffer ∈ lw_gd := gd_of 366 rfl rfl
set_option maxRecDepth 100000 in
theorem wd_367 : Cond.instanceMethod yX2_makeOffer ∈ lw_gd := gd_of 367 rfl rfl
set_option maxRecDepth 100000 in
theorem wd_368 : Cond.selects RX2 yX2_makeOffer yX2_makeOffer ∈ lw_gd := gd_of 368 rfl rfl
set_option maxRecDepth 100000 in
theorem wd_369 : Cond.code yX2_makeOffer cX2_makeOffer 5 (some .int) ∈ lw_gd := gd_of 369 rfl rfl
set_option maxRecDepth 100000 in
theorem wd_370 : Cond.methodLink RX2 94 yX2_setOffer ∈ lw_gd := gd_of 370 rfl rfl
set_option maxRecDepth 100000 in
theorem wd_372 : Cond.instanceMethod yX2_setOffer ∈ lw_gd := gd_of 372 rfl rfl
set_option maxRecDepth 100000 in
theorem wd_373 : Cond.code yX2_setOffer cX2_setOffer 4 (none) ∈ lw_gd := gd_of 373 rfl rfl
set_option maxRecDepth 100000 in
theorem wd_375 : Cond.instanceMethod yX5_trade ∈ lw_gd := gd_of 375 rfl rfl
set_option maxRecDepth 100000 in
theorem wd_376 : Cond.selects RX5 yX5_trade yX5_trade ∈ lw_gd := gd_of 376 rfl rfl
set_option maxRecDepth 100000 in
theorem wd_377 : Cond.code yX5_trade cX5_trade 1 (some .int) ∈ lw_gd := gd_of 377 rfl rfl
set_option maxRecDepth 100000 in
theorem wd_378 : Cond.methodLink RX5 67 yX2_tradeAll ∈ lw_gd := gd_of 378 rfl rfl
set_option maxRecDepth 100000 in
theorem wd_379 : Cond.instanceMethod yX2_tradeAll ∈ lw_gd := gd_of 379 rfl rfl
set_option maxRecDepth 100000 in
theorem wd_380 : Cond.selects RX2 yX2_tradeAll yX2_tradeAll ∈ lw_gd := gd_of 380 rfl rfl
set_option maxRecDepth 100000 in
theorem wd_381 : Cond.code yX2_tradeAll cX2_tradeAll 5 (some .int) ∈ lw_gd := gd_of 381 rfl rfl
set_option maxRecDepth 100000 in
theorem wd_382 : Cond.methodLink RX2 118 yX2_latestExcept ∈ lw_gd := gd_of 382 rfl rfl
set_option maxRecDepth 100000 in
theorem wd_384 : Cond.instanceMethod yX2_latestExcept ∈ lw_gd := gd_of 384 rfl rfl
set_option maxRecDepth 100000 in
theorem wd_385 : Cond.code yX2_latestExcept cX2_latestExcept 4 (some .int) ∈ lw_gd := gd_of 385 rfl rfl
set_option maxRecDepth 100000 in
theorem wd_386 : Cond.methodLink RX2 125 yX2_lateOf ∈ lw_gd := gd_of 386 rfl rfl
set_option maxRecDepth 100000 in
theorem wd_387 : Cond.instanceMethod yX2_lateOf ∈ lw_gd := gd_of 387 rfl rfl
set_option maxRecDepth 100000 in
theorem wd_388 : Cond.selects RX2 yX2_lateOf yX2_lateOf ∈ lw_gd := gd_of 388 rfl rfl
set_option maxRecDepth 100000 in
theorem wd_389 : Cond.code yX2_lateOf cX2_lateOf 2 (some .int) ∈ lw_gd := gd_of 389 rfl rfl
set_option maxRecDepth 100000 in
theorem wd_390 : Cond.methodLink RX2 161 Lib.Math.max.name ∈ lw_gd := gd_of 390 rfl rfl
set_option maxRecDepth 100000 in
theorem wd_391 : Cond.methodLink RX2 121 yX2_buyFor ∈ lw_gd := gd_of 391 rfl rfl
set_option maxRecDepth 100000 in
theorem wd_392 : Cond.instanceMethod yX2_buyFor ∈ lw_gd := gd_of 392 rfl rfl
set_option maxRecDepth 100000 in
theorem wd_393 : Cond.selects RX2 yX2_buyFor yX2_buyFor ∈ lw_gd := gd_of 393 rfl rfl
set_option maxRecDepth 100000 in
theorem wd_394 : Cond.code yX2_buyFor cX2_buyFor 5 (none) ∈ lw_gd := gd_of 394 rfl rfl
set_option maxRecDepth 100000 in
theorem wd_395 : Cond.methodLink RX2 128 yX4_measureFrom ∈ lw_gd := gd_of 395 rfl rfl
set_option maxRecDepth 100000 in
theorem wd_396 : Cond.instanceMethod yX4_measureFrom ∈ lw_gd := gd_of 396 rfl rfl
set_option maxRecDepth 100000 in
theorem wd_397 : Cond.selects RX4 yX4_measureFrom yX4_measureFrom ∈ lw_gd := gd_of 397 rfl rfl
set_option maxRecDepth 100000 in
theorem wd_398 : Cond.code yX4_measureFrom cX4_measureFrom 4 (none) ∈ lw_gd := gd_of 398 rfl rfl
set_option maxRecDepth 100000 in
theorem wd_399 : Cond.methodLink RX4 85 yX4_linkFrom ∈ lw_gd := gd_of 399 rfl rfl
set_option maxRecDepth 100000 in
theorem wd_401 : Cond.instanceMethod yX4_linkFrom ∈ lw_gd := gd_of 401 rfl rfl
set_option maxRecDepth 100000 in
theorem wd_402 : Cond.code yX4_linkFrom cX4_linkFrom 4 (none) ∈ lw_gd := gd_of 402 rfl rfl
set_option maxRecDepth 100000 in
theorem wd_403 : Cond.methodLink RX2 131 yX2_bestSellerExcept ∈ lw_gd := gd_of 403 rfl rfl
set_option maxRecDepth 100000 in
theorem wd_405 : Cond.instanceMethod yX2_bestSellerExcept ∈ lw_gd := gd_of 405 rfl rfl
set_option maxRecDepth 100000 in
theorem wd_406 : Cond.code yX2_bestSellerExcept cX2_bestSellerExcept 4 (some .int) ∈ lw_gd := gd_of 406 rfl rfl
set_option maxRecDepth 100000 in
theorem wd_407 : Cond.methodLink RX2 137 yX2_isInReach ∈ lw_gd := gd_of 407 rfl rfl
set_option maxRecDepth 100000 in
theorem wd_409 : Cond.instanceMethod yX2_isInReach ∈ lw_gd := gd_of 409 rfl rfl
set_option maxRecDepth 100000 in
theorem wd_410 : Cond.code yX2_isInReach cX2_isInReach 3 (some .boolean) ∈ lw_gd := gd_of 410 rfl rfl
set_option maxRecDepth 100000 in
theorem wd_411 : Cond.methodLink RX2 140 yX2_isBetterSeller ∈ lw_gd := gd_of 411 rfl rfl
set_option maxRecDepth 100000 in
theorem wd_413 : Cond.instanceMethod yX2_isBetterSeller ∈ lw_gd := gd_of 413 rfl rfl
set_option maxRecDepth 100000 in
theorem wd_414 : Cond.code yX2_isBetterSeller cX2_isBetterSeller 3 (some .boolean) ∈ lw_gd := gd_of 414 rfl rfl
set_option maxRecDepth 100000 in
theorem wd_415 : Cond.methodLink RX2 134 yX2_buyFrom ∈ lw_gd := gd_of 415 rfl rfl
set_option maxRecDepth 100000 in
theorem wd_417 : Cond.instanceMethod yX2_buyFrom ∈ lw_gd := gd_of 417 rfl rfl
set_option maxRecDepth 100000 in
theorem wd_418 : Cond.code yX2_buyFrom cX2_buyFrom 5 (none) ∈ lw_gd := gd_of 418 rfl rfl
set_option maxRecDepth 100000 in
theorem wd_419 : Cond.methodLink RX2 147 yX0_isFull ∈ lw_gd := gd_of 419 rfl rfl
set_option maxRecDepth 100000 in
theorem wd_420 : Cond.instanceMethod yX0_isFull ∈ lw_gd := gd_of 420 rfl rfl
set_option maxRecDepth 100000 in
theorem wd_421 : Cond.selects RX0 yX0_isFull yX0_isFull ∈ lw_gd := gd_of 421 rfl rfl
set_option maxRecDepth 100000 in
theorem wd_422 : Cond.code yX0_isFull cX0_isFull 1 (some .boolean) ∈ lw_gd := gd_of 422 rfl rfl
set_option maxRecDepth 100000 in
theorem wd_423 : Cond.methodLink RX2 150 yX2_spareOf ∈ lw_gd := gd_of 423 rfl rfl
set_option maxRecDepth 100000 in
theorem wd_424 : Cond.instanceMethod yX2_spareOf ∈ lw_gd := gd_of 424 rfl rfl
set_option maxRecDepth 100000 in
theorem wd_425 : Cond.selects RX2 yX2_spareOf yX2_spareOf ∈ lw_gd := gd_of 425 rfl rfl
set_option maxRecDepth 100000 in
theorem wd_426 : Cond.code yX2_spareOf cX2_spareOf 2 (some .int) ∈ lw_gd := gd_of 426 rfl rfl
set_option maxRecDepth 100000 in
theorem wd_427 : Cond.methodLink RX2 153 Lib.Math.min.name ∈ lw_gd := gd_of 427 rfl rfl
set_option maxRecDepth 100000 in
theorem wd_428 : Cond.static Lib.Math.min.name ∈ lw_gd := gd_of 428 rfl rfl
set_option maxRecDepth 100000 in
theorem wd_429 : Cond.code Lib.Math.min.name Lib.Math.min.code 2 (some .int) ∈ lw_gd := gd_of 429 rfl rfl
set_option maxRecDepth 100000 in
theorem wd_430 : Cond.methodLink RX2 158 yX0_append ∈ lw_gd := gd_of 430 rfl rfl
set_option maxRecDepth 100000 in
theorem wd_431 : Cond.instanceMethod yX0_append ∈ lw_gd := gd_of 431 rfl rfl
set_option maxRecDepth 100000 in
theorem wd_432 : Cond.selects RX0 yX0_append yX0_append ∈ lw_gd := gd_of 432 rfl rfl
set_option maxRecDepth 100000 in
theorem wd_433 : Cond.code yX0_append cX0_append 5 (none) ∈ lw_gd := gd_of 433 rfl rfl
set_option maxRecDepth 100000 in
theorem wd_434 : Cond.methodLink RX0 38 yX0_isFull ∈ lw_gd := gd_of 434 rfl rfl
set_option maxRecDepth 100000 in
theorem wd_436 : Cond.instanceMethod yX5_refund ∈ lw_gd := gd_of 436 rfl rfl
set_option maxRecDepth 100000 in
theorem wd_437 : Cond.selects RX5 yX5_refund yX5_refund ∈ lw_gd := gd_of 437 rfl rfl
set_option maxRecDepth 100000 in
theorem wd_438 : Cond.code yX5_refund cX5_refund 3 (some .int) ∈ lw_gd := gd_of 438 rfl rfl
set_option maxRecDepth 100000 in
theorem wd_439 : Cond.methodLink RX5 71 yX2_giveBack ∈ lw_gd := gd_of 439 rfl rfl
set_option maxRecDepth 100000 in
theorem wd_440 : Cond.instanceMethod yX2_giveBack ∈ lw_gd := gd_of 440 rfl rfl
set_option maxRecDepth 100000 in
theorem wd_441 : Cond.selects RX2 yX2_giveBack yX2_giveBack ∈ lw_gd := gd_of 441 rfl rfl
set_option maxRecDepth 100000 in
theorem wd_442 : Cond.code yX2_giveBack cX2_giveBack 6 (some .int) ∈ lw_gd := gd_of 442 rfl rfl
set_option maxRecDepth 100000 in
theorem wd_443 : Cond.methodLink RX2 97 yX0_has ∈ lw_gd := gd_of 443 rfl rfl
set_option maxRecDepth 100000 in
theorem wd_444 : Cond.instanceMethod yX0_has ∈ lw_gd := gd_of 444 rfl rfl
set_option maxRecDepth 100000 in
theorem wd_445 : Cond.selects RX0 yX0_has yX0_has ∈ lw_gd := gd_of 445 rfl rfl
set_option maxRecDepth 100000 in
theorem wd_446 : Cond.code yX0_has cX0_has 2 (some .boolean) ∈ lw_gd := gd_of 446 rfl rfl
set_option maxRecDepth 100000 in
theorem wd_447 : Cond.methodLink RX2 111 yX0_lessen ∈ lw_gd := gd_of 447 rfl rfl
set_option maxRecDepth 100000 in
theorem wd_448 : Cond.instanceMethod yX0_lessen ∈ lw_gd := gd_of 448 rfl rfl
set_option maxRecDepth 100000 in
theorem wd_449 : Cond.selects RX0 yX0_lessen yX0_lessen ∈ lw_gd := gd_of 449 rfl rfl
set_option maxRecDepth 100000 in
theorem wd_450 : Cond.code yX0_lessen cX0_lessen 4 (some .int) ∈ lw_gd := gd_of 450 rfl rfl
set_option maxRecDepth 100000 in
theorem wd_451 : Cond.methodLink RX0 42 yX0_remove ∈ lw_gd := gd_of 451 rfl rfl
set_option maxRecDepth 100000 in
theorem wd_453 : Cond.instanceMethod yX0_remove ∈ lw_gd := gd_of 453 rfl rfl
set_option maxRecDepth 100000 in
theorem wd_454 : Cond.code yX0_remove cX0_remove 3 (none) ∈ lw_gd := gd_of 454 rfl rfl
set_option maxRecDepth 100000 in
theorem wd_456 : Cond.instanceMethod yX5_give ∈ lw_gd := gd_of 456 rfl rfl
set_option maxRecDepth 100000 in
theorem wd_457 : Cond.selects RX5 yX5_give yX5_give ∈ lw_gd := gd_of 457 rfl rfl
set_option maxRecDepth 100000 in
theorem wd_458 : Cond.code yX5_give cX5_give 4 (some .int) ∈ lw_gd := gd_of 458 rfl rfl
set_option maxRecDepth 100000 in
theorem wd_459 : Cond.methodLink RX5 74 yX2_giveMoney ∈ lw_gd := gd_of 459 rfl rfl
set_option maxRecDepth 100000 in
theorem wd_460 : Cond.instanceMethod yX2_giveMoney ∈ lw_gd := gd_of 460 rfl rfl
set_option maxRecDepth 100000 in
theorem wd_461 : Cond.selects RX2 yX2_giveMoney yX2_giveMoney ∈ lw_gd := gd_of 461 rfl rfl
set_option maxRecDepth 100000 in
theorem wd_462 : Cond.code yX2_giveMoney cX2_giveMoney 4 (some .int) ∈ lw_gd := gd_of 462 rfl rfl
set_option maxRecDepth 100000 in
theorem wd_464 : Cond.instanceMethod yX5_ofTask ∈ lw_gd := gd_of 464 rfl rfl
set_option maxRecDepth 100000 in
theorem wd_465 : Cond.selects RX5 yX5_ofTask yX5_ofTask ∈ lw_gd := gd_of 465 rfl rfl
set_option maxRecDepth 100000 in
theorem wd_466 : Cond.code yX5_ofTask cX5_ofTask 3 (some .int) ∈ lw_gd := gd_of 466 rfl rfl
set_option maxRecDepth 100000 in
theorem wd_467 : Cond.methodLink RX5 77 yX2_tellOfTask ∈ lw_gd := gd_of 467 rfl rfl
set_option maxRecDepth 100000 in
theorem wd_468 : Cond.instanceMethod yX2_tellOfTask ∈ lw_gd := gd_of 468 rfl rfl
set_option maxRecDepth 100000 in
theorem wd_469 : Cond.selects RX2 yX2_tellOfTask yX2_tellOfTask ∈ lw_gd := gd_of 469 rfl rfl
set_option maxRecDepth 100000 in
theorem wd_470 : Cond.code yX2_tellOfTask cX2_tellOfTask 3 (some .int) ∈ lw_gd := gd_of 470 rfl rfl
set_option maxRecDepth 100000 in
theorem wd_471 : Cond.methodLink RX2 180 yX4_startOf ∈ lw_gd := gd_of 471 rfl rfl
set_option maxRecDepth 100000 in
theorem wd_472 : Cond.instanceMethod yX4_startOf ∈ lw_gd := gd_of 472 rfl rfl
set_option maxRecDepth 100000 in
theorem wd_473 : Cond.selects RX4 yX4_startOf yX4_startOf ∈ lw_gd := gd_of 473 rfl rfl
set_option maxRecDepth 100000 in
theorem wd_474 : Cond.code yX4_startOf cX4_startOf 2 (some .int) ∈ lw_gd := gd_of 474 rfl rfl
set_option maxRecDepth 100000 in
theorem wd_475 : Cond.methodLink RX2 183 yX4_endOf ∈ lw_gd := gd_of 475 rfl rfl
set_option maxRecDepth 100000 in
theorem wd_476 : Cond.methodLink RX2 186 yX2_slackOf ∈ lw_gd := gd_of 476 rfl rfl
set_option maxRecDepth 100000 in
theorem wd_478 : Cond.instanceMethod yX2_slackOf ∈ lw_gd := gd_of 478 rfl rfl
set_option maxRecDepth 100000 in
theorem wd_479 : Cond.code yX2_slackOf cX2_slackOf 5 (some .int) ∈ lw_gd := gd_of 479 rfl rfl
set_option maxRecDepth 100000 in
theorem wd_480 : Cond.methodLink RX2 164 yX2_lateTogether ∈ lw_gd := gd_of 480 rfl rfl
set_option maxRecDepth 100000 in
theorem wd_481 : Cond.instanceMethod yX2_lateTogether ∈ lw_gd := gd_of 481 rfl rfl
set_option maxRecDepth 100000 in
theorem wd_482 : Cond.selects RX2 yX2_lateTogether yX2_lateTogether ∈ lw_gd := gd_of 482 rfl rfl
set_option maxRecDepth 100000 in
theorem wd_483 : Cond.code yX2_lateTogether cX2_lateTogether 3 (some .int) ∈ lw_gd := gd_of 483 rfl rfl
set_option maxRecDepth 100000 in
theorem wd_484 : Cond.methodLink RX2 171 yX4_inFrontOf ∈ lw_gd := gd_of 484 rfl rfl
set_option maxRecDepth 100000 in
theorem wd_485 : Cond.instanceMethod yX4_inFrontOf ∈ lw_gd := gd_of 485 rfl rfl
set_option maxRecDepth 100000 in
theorem wd_486 : Cond.selects RX4 yX4_inFrontOf yX4_inFrontOf ∈ lw_gd := gd_of 486 rfl rfl
set_option maxRecDepth 100000 in
theorem wd_487 : Cond.code yX4_inFrontOf cX4_inFrontOf 2 (some .int) ∈ lw_gd := gd_of 487 rfl rfl
set_option maxRecDepth 100000 in
theorem wd_488 : Cond.methodLink RX2 174 yX2_lowerLatestEnd ∈ lw_gd := gd_of 488 rfl rfl
set_option maxRecDepth 100000 in
theorem wd_490 : Cond.instanceMethod yX2_lowerLatestEnd ∈ lw_gd := gd_of 490 rfl rfl
set_option maxRecDepth 100000 in
theorem wd_491 : Cond.code yX2_lowerLatestEnd cX2_lowerLatestEnd 3 (none) ∈ lw_gd := gd_of 491 rfl rfl
set_option maxRecDepth 100000 in
theorem wd_492 : Cond.methodLink RX2 189 yX0_soldBy ∈ lw_gd := gd_of 492 rfl rfl
set_option maxRecDepth 100000 in
theorem wd_493 : Cond.instanceMethod yX0_soldBy ∈ lw_gd := gd_of 493 rfl rfl
set_option maxRecDepth 100000 in
theorem wd_494 : Cond.selects RX0 yX0_soldBy yX0_soldBy ∈ lw_gd := gd_of 494 rfl rfl
set_option maxRecDepth 100000 in
theorem wd_495 : Cond.code yX0_soldBy cX0_soldBy 4 (some .int) ∈ lw_gd := gd_of 495 rfl rfl
set_option maxRecDepth 100000 in
theorem wd_496 : Cond.methodLink RX2 192 yX0_boughtBy ∈ lw_gd := gd_of 496 rfl rfl
set_option maxRecDepth 100000 in
theorem wd_497 : Cond.instanceMethod yX0_boughtBy ∈ lw_gd := gd_of 497 rfl rfl
set_option maxRecDepth 100000 in
theorem wd_498 : Cond.selects RX0 yX0_boughtBy yX0_boughtBy ∈ lw_gd := gd_of 498 rfl rfl
set_option maxRecDepth 100000 in
theorem wd_499 : Cond.code yX0_boughtBy cX0_boughtBy 4 (some .int) ∈ lw_gd := gd_of 499 rfl rfl
set_option maxRecDepth 100000 in
theorem wd_500 : Cond.methodLink RX2 195 yX4_followersOf ∈ lw_gd := gd_of 500 rfl rfl
set_option maxRecDepth 100000 in
theorem wd_501 : Cond.instanceMethod yX4_followersOf ∈ lw_gd := gd_of 501 rfl rfl
set_option maxRecDepth 100000 in
theorem wd_502 : Cond.selects RX4 yX4_followersOf yX4_followersOf ∈ lw_gd := gd_of 502 rfl rfl
set_option maxRecDepth 100000 in
theorem wd_503 : Cond.code yX4_followersOf cX4_followersOf 5 (some .int) ∈ lw_gd := gd_of 503 rfl rfl
set_option maxRecDepth 100000 in
theorem wd_505 : Cond.instanceMethod yX5_due ∈ lw_gd := gd_of 505 rfl rfl
set_option maxRecDepth 100000 in
theorem wd_506 : Cond.selects RX5 yX5_due yX5_due ∈ lw_gd := gd_of 506 rfl rfl
set_option maxRecDepth 100000 in
theorem wd_507 : Cond.code yX5_due cX5_due 2 (some .long) ∈ lw_gd := gd_of 507 rfl rfl
set_option maxRecDepth 100000 in
theorem wd_508 : Cond.methodLink RX5 84 yX4_has ∈ lw_gd := gd_of 508 rfl rfl
set_option maxRecDepth 100000 in
theorem wd_509 : Cond.constantLong RX5 94 (-1 : Int64) ∈ lw_gd := gd_of 509 rfl rfl
set_option maxRecDepth 100000 in
theorem wd_511 : Cond.instanceMethod yX5_money ∈ lw_gd := gd_of 511 rfl rfl
set_option maxRecDepth 100000 in
theorem wd_512 : Cond.selects RX5 yX5_money yX5_money ∈ lw_gd := gd_of 512 rfl rfl
set_option maxRecDepth 100000 in
theorem wd_513 : Cond.code yX5_money cX5_money 2 (some .int) ∈ lw_gd := gd_of 513 rfl rfl
set_option maxRecDepth 100000 in
theorem wd_515 : Cond.instanceMethod yX5_at ∈ lw_gd := gd_of 515 rfl rfl
set_option maxRecDepth 100000 in
theorem wd_516 : Cond.selects RX5 yX5_at yX5_at ∈ lw_gd := gd_of 516 rfl rfl
set_option maxRecDepth 100000 in
theorem wd_517 : Cond.code yX5_at cX5_at 3 (some .int) ∈ lw_gd := gd_of 517 rfl rfl
set_option maxRecDepth 100000 in
theorem wd_518 : Cond.methodLink RX5 99 yX4_inRow ∈ lw_gd := gd_of 518 rfl rfl
set_option maxRecDepth 100000 in
theorem wd_520 : Cond.instanceMethod yX5_ofContract ∈ lw_gd := gd_of 520 rfl rfl
set_option maxRecDepth 100000 in
theorem wd_521 : Cond.selects RX5 yX5_ofContract yX5_ofContract ∈ lw_gd := gd_of 521 rfl rfl
set_option maxRecDepth 100000 in
theorem wd_522 : Cond.code yX5_ofContract cX5_ofContract 3 (some .int) ∈ lw_gd := gd_of 522 rfl rfl
set_option maxRecDepth 100000 in
theorem wd_523 : Cond.methodLink RX5 106 yX0_tell ∈ lw_gd := gd_of 523 rfl rfl
set_option maxRecDepth 100000 in
theorem wd_524 : Cond.instanceMethod yX0_tell ∈ lw_gd := gd_of 524 rfl rfl
set_option maxRecDepth 100000 in
theorem wd_525 : Cond.selects RX0 yX0_tell yX0_tell ∈ lw_gd := gd_of 525 rfl rfl
set_option maxRecDepth 100000 in
theorem wd_526 : Cond.code yX0_tell cX0_tell 3 (some .int) ∈ lw_gd := gd_of 526 rfl rfl
set_option maxRecDepth 100000 in
theorem wd_527 : Cond.methodLink RX0 34 yX0_has ∈ lw_gd := gd_of 527 rfl rfl
set_option maxRecDepth 100000 in
theorem wd_529 : Cond.instanceMethod yX5_count ∈ lw_gd := gd_of 529 rfl rfl
set_option maxRecDepth 100000 in
theorem wd_530 : Cond.selects RX5 yX5_count yX5_count ∈ lw_gd := gd_of 530 rfl rfl
set_option maxRecDepth 100000 in
theorem wd_531 : Cond.code yX5_count cX5_count 2 (some .int) ∈ lw_gd := gd_of 531 rfl rfl
set_option maxRecDepth 100000 in
theorem wd_532 : Cond.methodLink RX5 118 yX2_tellOfAll ∈ lw_gd := gd_of 532 rfl rfl
set_option maxRecDepth 100000 in
theorem wd_533 : Cond.instanceMethod yX2_tellOfAll ∈ lw_gd := gd_of 533 rfl rfl
set_option maxRecDepth 100000 in
theorem wd_534 : Cond.selects RX2 yX2_tellOfAll yX2_tellOfAll ∈ lw_gd := gd_of 534 rfl rfl
set_option maxRecDepth 100000 in
theorem wd_535 : Cond.code yX2_tellOfAll cX2_tellOfAll 2 (some .int) ∈ lw_gd := gd_of 535 rfl rfl
set_option maxRecDepth 100000 in
theorem wd_536 : Cond.methodLink RX2 198 yX2_offers ∈ lw_gd := gd_of 536 rfl rfl
set_option maxRecDepth 100000 in
theorem wd_538 : Cond.instanceMethod yX2_offers ∈ lw_gd := gd_of 538 rfl rfl
set_option maxRecDepth 100000 in
theorem wd_539 : Cond.code yX2_offers cX2_offers 3 (some .int) ∈ lw_gd := gd_of 539 rfl rfl
set_option maxRecDepth 100000 in
theorem wd_540 : Cond.methodLink RX2 201 yX2_lateTasks ∈ lw_gd := gd_of 540 rfl rfl
set_option maxRecDepth 100000 in
theorem wd_542 : Cond.instanceMethod yX2_lateTasks ∈ lw_gd := gd_of 542 rfl rfl
set_option maxRecDepth 100000 in
theorem wd_543 : Cond.code yX2_lateTasks cX2_lateTasks 3 (some .int) ∈ lw_gd := gd_of 543 rfl rfl
set_option maxRecDepth 100000 in
theorem wd_544 : Cond.methodLink RX2 204 yX4_endOfAll ∈ lw_gd := gd_of 544 rfl rfl
set_option maxRecDepth 100000 in
theorem wd_545 : Cond.instanceMethod yX4_endOfAll ∈ lw_gd := gd_of 545 rfl rfl
set_option maxRecDepth 100000 in
theorem wd_546 : Cond.selects RX4 yX4_endOfAll yX4_endOfAll ∈ lw_gd := gd_of 546 rfl rfl
set_option maxRecDepth 100000 in
theorem wd_547 : Cond.code yX4_endOfAll cX4_endOfAll 3 (some .int) ∈ lw_gd := gd_of 547 rfl rfl
set_option maxRecDepth 100000 in
theorem wd_548 : Cond.methodLink RX2 207 yX2_allMoney ∈ lw_gd := gd_of 548 rfl rfl
set_option maxRecDepth 100000 in
theorem wd_550 : Cond.instanceMethod yX2_allMoney ∈ lw_gd := gd_of 550 rfl rfl
set_option maxRecDepth 100000 in
theorem wd_551 : Cond.code yX2_allMoney cX2_allMoney 3 (some .int) ∈ lw_gd := gd_of 551 rfl rfl
set_option maxRecDepth 100000 in
theorem wd_552 : Cond.methodLink RX2 210 yX0_allHours ∈ lw_gd := gd_of 552 rfl rfl
set_option maxRecDepth 100000 in
theorem wd_553 : Cond.instanceMethod yX0_allHours ∈ lw_gd := gd_of 553 rfl rfl
set_option maxRecDepth 100000 in
theorem wd_554 : Cond.selects RX0 yX0_allHours yX0_allHours ∈ lw_gd := gd_of 554 rfl rfl
set_option maxRecDepth 100000 in
theorem wd_555 : Cond.code yX0_allHours cX0_allHours 3 (some .int) ∈ lw_gd := gd_of 555 rfl rfl
set_option maxRecDepth 100000 in
theorem wd_557 : Cond.instanceMethod yX5_distance ∈ lw_gd := gd_of 557 rfl rfl
set_option maxRecDepth 100000 in
theorem wd_558 : Cond.selects RX5 yX5_distance yX5_distance ∈ lw_gd := gd_of 558 rfl rfl
set_option maxRecDepth 100000 in
theorem wd_559 : Cond.code yX5_distance cX5_distance 3 (some .int) ∈ lw_gd := gd_of 559 rfl rfl
set_option maxRecDepth 100000 in
theorem wd_560 : Cond.methodLink RX5 121 yX4_measureFrom ∈ lw_gd := gd_of 560 rfl rfl
set_option maxRecDepth 100000 in
theorem wd_562 : Cond.instanceMethod yX5_wouldBuy ∈ lw_gd := gd_of 562 rfl rfl
set_option maxRecDepth 100000 in
theorem wd_563 : Cond.selects RX5 yX5_wouldBuy yX5_wouldBuy ∈ lw_gd := gd_of 563 rfl rfl
set_option maxRecDepth 100000 in
theorem wd_564 : Cond.code yX5_wouldBuy cX5_wouldBuy 3 (some .int) ∈ lw_gd := gd_of 564 rfl rfl
set_option maxRecDepth 100000 in
theorem wd_565 : Cond.methodLink RX5 128 yX2_copyFrom ∈ lw_gd := gd_of 565 rfl rfl
set_option maxRecDepth 100000 in
theorem wd_566 : Cond.methodLink RX5 131 yX2_buyFor ∈ lw_gd := gd_of 566 rfl rfl
set_option maxRecDepth 100000 in
theorem wd_567 : Cond.methodLink RX5 134 yX2_lateOf ∈ lw_gd := gd_of 567 rfl rfl
set_option maxRecDepth 100000 in
theorem wd_568 : Cond.methodLink RX5 140 yX0_sellersSince ∈ lw_gd := gd_of 568 rfl rfl
set_option maxRecDepth 100000 in
theorem wd_569 : Cond.instanceMethod yX0_sellersSince ∈ lw_gd := gd_of 569 rfl rfl
set_option maxRecDepth 100000 in
theorem wd_570 : Cond.selects RX0 yX0_sellersSince yX0_sellersSince ∈ lw_gd := gd_of 570 rfl rfl
set_option maxRecDepth 100000 in
theorem wd_571 : Cond.code yX0_sellersSince cX0_sellersSince 4 (some .int) ∈ lw_gd := gd_of 571 rfl rfl
set_option maxRecDepth 100000 in
theorem wd_572 : Cond.methodLink RX0 46 Lib.Math.max.name ∈ lw_gd := gd_of 572 rfl rfl
set_option maxRecDepth 100000 in
theorem wd_574 : Cond.instanceMethod yX5_leastMoney ∈ lw_gd := gd_of 574 rfl rfl
set_option maxRecDepth 100000 in
theorem wd_575 : Cond.selects RX5 yX5_leastMoney yX5_leastMoney ∈ lw_gd := gd_of 575 rfl rfl
set_option maxRecDepth 100000 in
theorem wd_576 : Cond.code yX5_leastMoney cX5_leastMoney 2 (some .int) ∈ lw_gd := gd_of 576 rfl rfl
set_option maxRecDepth 100000 in
theorem wd_577 : Cond.constant RX5 143 (100000000 : Int32) ∈ lw_gd := gd_of 577 rfl rfl
set_option maxRecDepth 100000 in
theorem wd_579 : Cond.instanceMethod yX5_endIf ∈ lw_gd := gd_of 579 rfl rfl
set_option maxRecDepth 100000 in
theorem wd_580 : Cond.selects RX5 yX5_endIf yX5_endIf ∈ lw_gd := gd_of 580 rfl rfl
set_option maxRecDepth 100000 in
theorem wd_581 : Cond.code yX5_endIf cX5_endIf 5 (some .int) ∈ lw_gd := gd_of 581 rfl rfl
set_option maxRecDepth 100000 in
theorem wd_582 : Cond.methodLink RX5 144 yX4_endOf ∈ lw_gd := gd_of 582 rfl rfl
set_option maxRecDepth 100000 in
theorem wd_584 : Cond.instanceMethod yX5_bestPlace ∈ lw_gd := gd_of 584 rfl rfl
set_option maxRecDepth 100000 in
theorem wd_585 : Cond.selects RX5 yX5_bestPlace yX5_bestPlace ∈ lw_gd := gd_of 585 rfl rfl
set_option maxRecDepth 100000 in
theorem wd_586 : Cond.code yX5_bestPlace cX5_bestPlace 2 (some .int) ∈ lw_gd := gd_of 586 rfl rfl
set_option maxRecDepth 100000 in
theorem wd_587 : Cond.methodLink RX5 147 yX2_findBestPlace ∈ lw_gd := gd_of 587 rfl rfl
set_option maxRecDepth 100000 in
theorem wd_588 : Cond.instanceMethod yX2_findBestPlace ∈ lw_gd := gd_of 588 rfl rfl
set_option maxRecDepth 100000 in
theorem wd_589 : Cond.selects RX2 yX2_findBestPlace yX2_findBestPlace ∈ lw_gd := gd_of 589 rfl rfl
set_option maxRecDepth 100000 in
theorem wd_590 : Cond.code yX2_findBestPlace cX2_findBestPlace 5 (some .int) ∈ lw_gd := gd_of 590 rfl rfl
set_option maxRecDepth 100000 in
theorem wd_592 : Cond.instanceMethod yX5_critical ∈ lw_gd := gd_of 592 rfl rfl
set_option maxRecDepth 100000 in
theorem wd_593 : Cond.selects RX5 yX5_critical yX5_critical ∈ lw_gd := gd_of 593 rfl rfl
set_option maxRecDepth 100000 in
theorem wd_594 : Cond.code yX5_critical cX5_critical 1 (some .int) ∈ lw_gd := gd_of 594 rfl rfl
set_option maxRecDepth 100000 in
theorem wd_595 : Cond.methodLink RX5 150 yX4_longestChain ∈ lw_gd := gd_of 595 rfl rfl
set_option maxRecDepth 100000 in
theorem wd_596 : Cond.instanceMethod yX4_longestChain ∈ lw_gd := gd_of 596 rfl rfl
set_option maxRecDepth 100000 in
theorem wd_597 : Cond.selects RX4 yX4_longestChain yX4_longestChain ∈ lw_gd := gd_of 597 rfl rfl
set_option maxRecDepth 100000 in
theorem wd_598 : Cond.code yX4_longestChain cX4_longestChain 5 (some .int) ∈ lw_gd := gd_of 598 rfl rfl
set_option maxRecDepth 100000 in
theorem wd_599 : Cond.methodLink RX4 72 yX4_endOfAll ∈ lw_gd := gd_of 599 rfl rfl
set_option maxRecDepth 100000 in
theorem wd_600 : Cond.methodLink RX4 76 yX4_waitedFor ∈ lw_gd := gd_of 600 rfl rfl
set_option maxRecDepth 100000 in
theorem wd_602 : Cond.instanceMethod yX4_waitedFor ∈ lw_gd := gd_of 602 rfl rfl
set_option maxRecDepth 100000 in
theorem wd_603 : Cond.code yX4_waitedFor cX4_waitedFor 6 (some .int) ∈ lw_gd := gd_of 603 rfl rfl
set_option maxRecDepth 100000 in
theorem wd_604 : Cond.methodLink RX4 79 yX4_startOf ∈ lw_gd := gd_of 604 rfl rfl
set_option maxRecDepth 100000 in
theorem wd_605 : Cond.methodLink RX4 82 yX4_inFrontOf ∈ lw_gd := gd_of 605 rfl rfl
set_option maxRecDepth 100000 in
theorem wd_607 : Cond.instanceMethod yX5_lateBehind ∈ lw_gd := gd_of 607 rfl rfl
set_option maxRecDepth 100000 in
theorem wd_608 : Cond.selects RX5 yX5_lateBehind yX5_lateBehind ∈ lw_gd := gd_of 608 rfl rfl
set_option maxRecDepth 100000 in
theorem wd_609 : Cond.code yX5_lateBehind cX5_lateBehind 1 (some .int) ∈ lw_gd := gd_of 609 rfl rfl
set_option maxRecDepth 100000 in
theorem wd_610 : Cond.methodLink RX5 153 yX2_lateTogether ∈ lw_gd := gd_of 610 rfl rfl
set_option maxRecDepth 100000 in
theorem wd_612 : Cond.instanceMethod yX5_put ∈ lw_gd := gd_of 612 rfl rfl
set_option maxRecDepth 100000 in
theorem wd_613 : Cond.selects RX5 yX5_put yX5_put ∈ lw_gd := gd_of 613 rfl rfl
set_option maxRecDepth 100000 in
theorem wd_614 : Cond.code yX5_put cX5_put 3 (some .int) ∈ lw_gd := gd_of 614 rfl rfl
set_option maxRecDepth 100000 in
theorem wd_615 : Cond.methodLink RX5 156 yX3_append ∈ lw_gd := gd_of 615 rfl rfl
set_option maxRecDepth 100000 in
theorem wd_616 : Cond.instanceMethod yX3_append ∈ lw_gd := gd_of 616 rfl rfl
set_option maxRecDepth 100000 in
theorem wd_617 : Cond.selects RX3 yX3_append yX3_append ∈ lw_gd := gd_of 617 rfl rfl
set_option maxRecDepth 100000 in
theorem wd_618 : Cond.code yX3_append cX3_append 7 (some .int) ∈ lw_gd := gd_of 618 rfl rfl
set_option maxRecDepth 100000 in
theorem wd_619 : Cond.constantLong RX3 19 (255 : Int64) ∈ lw_gd := gd_of 619 rfl rfl
set_option maxRecDepth 100000 in
theorem wd_620 : Cond.constantLong RX3 21 (33 : Int64) ∈ lw_gd := gd_of 620 rfl rfl
set_option maxRecDepth 100000 in
theorem wd_621 : Cond.constantLong RX3 23 (126 : Int64) ∈ lw_gd := gd_of 621 rfl rfl
set_option maxRecDepth 100000 in
theorem wd_623 : Cond.instanceMethod yX5_wipe ∈ lw_gd := gd_of 623 rfl rfl
set_option maxRecDepth 100000 in
theorem wd_624 : Cond.selects RX5 yX5_wipe yX5_wipe ∈ lw_gd := gd_of 624 rfl rfl
set_option maxRecDepth 100000 in
theorem wd_625 : Cond.code yX5_wipe cX5_wipe 1 (some .int) ∈ lw_gd := gd_of 625 rfl rfl
set_option maxRecDepth 100000 in
theorem wd_626 : Cond.methodLink RX5 160 yX3_clear ∈ lw_gd := gd_of 626 rfl rfl
set_option maxRecDepth 100000 in
theorem wd_627 : Cond.instanceMethod yX3_clear ∈ lw_gd := gd_of 627 rfl rfl
set_option maxRecDepth 100000 in
theorem wd_628 : Cond.selects RX3 yX3_clear yX3_clear ∈ lw_gd := gd_of 628 rfl rfl
set_option maxRecDepth 100000 in
theorem wd_629 : Cond.code yX3_clear cX3_clear 2 (some .int) ∈ lw_gd := gd_of 629 rfl rfl
set_option maxRecDepth 100000 in
theorem wd_631 : Cond.instanceMethod yX5_fault ∈ lw_gd := gd_of 631 rfl rfl
set_option maxRecDepth 100000 in
theorem wd_632 : Cond.selects RX5 yX5_fault yX5_fault ∈ lw_gd := gd_of 632 rfl rfl
set_option maxRecDepth 100000 in
theorem wd_633 : Cond.code yX5_fault cX5_fault 1 (some .int) ∈ lw_gd := gd_of 633 rfl rfl
set_option maxRecDepth 100000 in
theorem wd_634 : Cond.methodLink RX5 163 yX3_findFault ∈ lw_gd := gd_of 634 rfl rfl
set_option maxRecDepth 100000 in
theorem wd_635 : Cond.instanceMethod yX3_findFault ∈ lw_gd := gd_of 635 rfl rfl
set_option maxRecDepth 100000 in
theorem wd_636 : Cond.selects RX3 yX3_findFault yX3_findFault ∈ lw_gd := gd_of 636 rfl rfl
set_option maxRecDepth 100000 in
theorem wd_637 : Cond.code yX3_findFault cX3_findFault 2 (some .int) ∈ lw_gd := gd_of 637 rfl rfl
set_option maxRecDepth 100000 in
theorem wd_638 : Cond.methodLink RX3 32 yX3_toStart ∈ lw_gd := gd_of 638 rfl rfl
set_option maxRecDepth 100000 in
theorem wd_639 : Cond.instanceMethod yX3_toStart ∈ lw_gd := gd_of 639 rfl rfl
set_option maxRecDepth 100000 in
theorem wd_640 : Cond.selects RX3 yX3_toStart yX3_toStart ∈ lw_gd := gd_of 640 rfl rfl
set_option maxRecDepth 100000 in
theorem wd_641 : Cond.code yX3_toStart cX3_toStart 1 (none) ∈ lw_gd := gd_of 641 rfl rfl
set_option maxRecDepth 100000 in
theorem wd_642 : Cond.methodLink RX3 35 yX3_readOrder ∈ lw_gd := gd_of 642 rfl rfl
set_option maxRecDepth 100000 in
theorem wd_643 : Cond.instanceMethod yX3_readOrder ∈ lw_gd := gd_of 643 rfl rfl
set_option maxRecDepth 100000 in
theorem wd_644 : Cond.selects RX3 yX3_readOrder yX3_readOrder ∈ lw_gd := gd_of 644 rfl rfl
set_option maxRecDepth 100000 in
theorem wd_645 : Cond.code yX3_readOrder cX3_readOrder 1 (some .boolean) ∈ lw_gd := gd_of 645 rfl rfl
set_option maxRecDepth 100000 in
theorem wd_646 : Cond.methodLink RX3 49 yX3_here ∈ lw_gd := gd_of 646 rfl rfl
set_option maxRecDepth 100000 in
theorem wd_648 : Cond.instanceMethod yX3_here ∈ lw_gd := gd_of 648 rfl rfl
set_option maxRecDepth 100000 in
theorem wd_649 : Cond.code yX3_here cX3_here 1 (some .int) ∈ lw_gd := gd_of 649 rfl rfl
set_option maxRecDepth 100000 in
theorem wd_650 : Cond.methodLink RX3 42 yX3_readSign ∈ lw_gd := gd_of 650 rfl rfl
set_option maxRecDepth 100000 in
theorem wd_652 : Cond.instanceMethod yX3_readSign ∈ lw_gd := gd_of 652 rfl rfl
set_option maxRecDepth 100000 in
theorem wd_653 : Cond.code yX3_readSign cX3_readSign 2 (some .boolean) ∈ lw_gd := gd_of 653 rfl rfl
set_option maxRecDepth 100000 in
theorem wd_654 : Cond.methodLink RX3 56 yX3_readTask ∈ lw_gd := gd_of 654 rfl rfl
set_option maxRecDepth 100000 in
theorem wd_656 : Cond.instanceMethod yX3_readTask ∈ lw_gd := gd_of 656 rfl rfl
set_option maxRecDepth 100000 in
theorem wd_657 : Cond.code yX3_readTask cX3_readTask 2 (some .boolean) ∈ lw_gd := gd_of 657 rfl rfl
set_option maxRecDepth 100000 in
theorem wd_658 : Cond.methodLink RX3 65 yX3_readDigit ∈ lw_gd := gd_of 658 rfl rfl
set_option maxRecDepth 100000 in
theorem wd_660 : Cond.instanceMethod yX3_readDigit ∈ lw_gd := gd_of 660 rfl rfl
set_option maxRecDepth 100000 in
theorem wd_661 : Cond.code yX3_readDigit cX3_readDigit 2 (some .boolean) ∈ lw_gd := gd_of 661 rfl rfl
set_option maxRecDepth 100000 in
theorem wd_662 : Cond.methodLink RX3 72 yX3_isDigit ∈ lw_gd := gd_of 662 rfl rfl
set_option maxRecDepth 100000 in
theorem wd_664 : Cond.instanceMethod yX3_isDigit ∈ lw_gd := gd_of 664 rfl rfl
set_option maxRecDepth 100000 in
theorem wd_665 : Cond.code yX3_isDigit cX3_isDigit 1 (some .boolean) ∈ lw_gd := gd_of 665 rfl rfl
set_option maxRecDepth 100000 in
theorem wd_666 : Cond.methodLink RX3 68 yX3_keep ∈ lw_gd := gd_of 666 rfl rfl
set_option maxRecDepth 100000 in
theorem wd_668 : Cond.instanceMethod yX3_keep ∈ lw_gd := gd_of 668 rfl rfl
set_option maxRecDepth 100000 in
theorem wd_669 : Cond.code yX3_keep cX3_keep 2 (some .boolean) ∈ lw_gd := gd_of 669 rfl rfl
set_option maxRecDepth 100000 in
theorem wd_670 : Cond.methodLink RX3 62 yX3_readNumber ∈ lw_gd := gd_of 670 rfl rfl
set_option maxRecDepth 100000 in
theorem wd_672 : Cond.instanceMethod yX3_readNumber ∈ lw_gd := gd_of 672 rfl rfl
set_option maxRecDepth 100000 in
theorem wd_673 : Cond.code yX3_readNumber cX3_readNumber 3 (some .boolean) ∈ lw_gd := gd_of 673 rfl rfl
set_option maxRecDepth 100000 in
theorem wd_674 : Cond.methodLink RX3 59 yX3_readPair ∈ lw_gd := gd_of 674 rfl rfl
set_option maxRecDepth 100000 in
theorem wd_676 : Cond.instanceMethod yX3_readPair ∈ lw_gd := gd_of 676 rfl rfl
set_option maxRecDepth 100000 in
theorem wd_677 : Cond.code yX3_readPair cX3_readPair 2 (some .boolean) ∈ lw_gd := gd_of 677 rfl rfl
set_option maxRecDepth 100000 in
theorem wd_678 : Cond.methodLink RX3 39 yX3_readNext ∈ lw_gd := gd_of 678 rfl rfl
set_option maxRecDepth 100000 in
theorem wd_679 : Cond.instanceMethod yX3_readNext ∈ lw_gd := gd_of 679 rfl rfl
set_option maxRecDepth 100000 in
theorem wd_680 : Cond.selects RX3 yX3_readNext yX3_readNext ∈ lw_gd := gd_of 680 rfl rfl
set_option maxRecDepth 100000 in
theorem wd_681 : Cond.code yX3_readNext cX3_readNext 1 (some .boolean) ∈ lw_gd := gd_of 681 rfl rfl
set_option maxRecDepth 100000 in
theorem wd_683 : Cond.instanceMethod yX5_carryOut ∈ lw_gd := gd_of 683 rfl rfl
set_option maxRecDepth 100000 in
theorem wd_684 : Cond.selects RX5 yX5_carryOut yX5_carryOut ∈ lw_gd := gd_of 684 rfl rfl
set_option maxRecDepth 100000 in
theorem wd_685 : Cond.code yX5_carryOut cX5_carryOut 2 (some .int) ∈ lw_gd := gd_of 685 rfl rfl
set_option maxRecDepth 100000 in
theorem wd_686 : Cond.methodLink RX5 166 yX5_carryOrders ∈ lw_gd := gd_of 686 rfl rfl
set_option maxRecDepth 100000 in
theorem wd_688 : Cond.instanceMethod yX5_carryOrders ∈ lw_gd := gd_of 688 rfl rfl
set_option maxRecDepth 100000 in
theorem wd_689 : Cond.code yX5_carryOrders cX5_carryOrders 3 (some .int) ∈ lw_gd := gd_of 689 rfl rfl
set_option maxRecDepth 100000 in
theorem wd_690 : Cond.methodLink RX5 169 yX3_toStart ∈ lw_gd := gd_of 690 rfl rfl
set_option maxRecDepth 100000 in
theorem wd_691 : Cond.methodLink RX5 172 yX3_readOrder ∈ lw_gd := gd_of 691 rfl rfl
set_option maxRecDepth 100000 in
theorem wd_692 : Cond.methodLink RX5 176 yX5_carryOrder ∈ lw_gd := gd_of 692 rfl rfl
set_option maxRecDepth 100000 in
theorem wd_694 : Cond.instanceMethod yX5_carryOrder ∈ lw_gd := gd_of 694 rfl rfl
set_option maxRecDepth 100000 in
theorem wd_695 : Cond.code yX5_carryOrder cX5_carryOrder 2 (some .int) ∈ lw_gd := gd_of 695 rfl rfl
set_option maxRecDepth 100000 in
theorem wd_696 : Cond.methodLink RX5 179 yX3_readNext ∈ lw_gd := gd_of 696 rfl rfl
set_option maxRecDepth 100000 in
theorem wd_698 : Cond.instanceMethod yX5_undo ∈ lw_gd := gd_of 698 rfl rfl
set_option maxRecDepth 100000 in
theorem wd_699 : Cond.selects RX5 yX5_undo yX5_undo ∈ lw_gd := gd_of 699 rfl rfl
set_option maxRecDepth 100000 in
theorem wd_700 : Cond.code yX5_undo cX5_undo 1 (some .int) ∈ lw_gd := gd_of 700 rfl rfl
set_option maxRecDepth 100000 in
theorem wd_701 : Cond.methodLink RX5 188 yX1_takeBack ∈ lw_gd := gd_of 701 rfl rfl
set_option maxRecDepth 100000 in
theorem wd_702 : Cond.instanceMethod yX1_takeBack ∈ lw_gd := gd_of 702 rfl rfl
set_option maxRecDepth 100000 in
theorem wd_703 : Cond.selects RX1 yX1_takeBack yX1_takeBack ∈ lw_gd := gd_of 703 rfl rfl
set_option maxRecDepth 100000 in
theorem wd_704 : Cond.code yX1_takeBack cX1_takeBack 2 (some .int) ∈ lw_gd := gd_of 704 rfl rfl
set_option maxRecDepth 100000 in
theorem wd_706 : Cond.instanceMethod yX5_save ∈ lw_gd := gd_of 706 rfl rfl
set_option maxRecDepth 100000 in
theorem wd_707 : Cond.selects RX5 yX5_save yX5_save ∈ lw_gd := gd_of 707 rfl rfl
set_option maxRecDepth 100000 in
theorem wd_708 : Cond.code yX5_save cX5_save 3 (some .int) ∈ lw_gd := gd_of 708 rfl rfl
set_option maxRecDepth 100000 in
theorem wd_710 : Cond.instanceMethod yX5_restore ∈ lw_gd := gd_of 710 rfl rfl
set_option maxRecDepth 100000 in
theorem wd_711 : Cond.selects RX5 yX5_restore yX5_restore ∈ lw_gd := gd_of 711 rfl rfl
set_option maxRecDepth 100000 in
theorem wd_712 : Cond.code yX5_restore cX5_restore 2 (some .int) ∈ lw_gd := gd_of 712 rfl rfl
set_option maxRecDepth 100000 in
theorem wd_719 : Cond.fieldLink RX6 7 (TX6 0).1 (TX6 0).2.1 (TX6 0).2.2.1 ∈ lw_gd := gd_of 719 rfl rfl
set_option maxRecDepth 100000 in
theorem wd_720 : Cond.fieldLink RX6 13 (TX6 1).1 (TX6 1).2.1 (TX6 1).2.2.1 ∈ lw_gd := gd_of 720 rfl rfl
set_option maxRecDepth 100000 in
theorem wd_721 : Cond.fieldLink RX6 16 (TX6 2).1 (TX6 2).2.1 (TX6 2).2.2.1 ∈ lw_gd := gd_of 721 rfl rfl
set_option maxRecDepth 100000 in
theorem wd_722 : Cond.fieldLink RX6 19 (TX6 3).1 (TX6 3).2.1 (TX6 3).2.2.1 ∈ lw_gd := gd_of 722 rfl rfl
set_option maxRecDepth 100000 in
theorem wd_723 : Cond.fieldLink RX6 23 (TX6 4).1 (TX6 4).2.1 (TX6 4).2.2.1 ∈ lw_gd := gd_of 723 rfl rfl
set_option maxRecDepth 100000 in
theorem wd_724 : Cond.fieldLink RX6 53 (TX6 5).1 (TX6 5).2.1 (TX6 5).2.2.1 ∈ lw_gd := gd_of 724 rfl rfl
set_option maxRecDepth 100000 in
theorem wd_725 : Cond.fieldLink RX6 49 (TX6 6).1 (TX6 6).2.1 (TX6 6).2.2.1 ∈ lw_gd := gd_of 725 rfl rfl
set_option maxRecDepth 100000 in
theorem wd_726 : Cond.fieldLink RX6 26 (TX6 7).1 (TX6 7).2.1 (TX6 7).2.2.1 ∈ lw_gd := gd_of 726 rfl rfl
set_option maxRecDepth 100000 in
theorem wd_727 : Cond.fieldLink RX6 162 (TX6 8).1 (TX6 8).2.1 (TX6 8).2.2.1 ∈ lw_gd := gd_of 727 rfl rfl
set_option maxRecDepth 100000 in
theorem wd_728 : Cond.fieldLink RX6 30 (TX6 9).1 (TX6 9).2.1 (TX6 9).2.2.1 ∈ lw_gd := gd_of 728 rfl rfl
set_option maxRecDepth 100000 in
theorem wd_729 : Cond.fieldLink RX6 33 (TX6 10).1 (TX6 10).2.1 (TX6 10).2.2.1 ∈ lw_gd := gd_of 729 rfl rfl
set_option maxRecDepth 100000 in
theorem wd_730 : Cond.fieldLink RX6 36 (TX6 11).1 (TX6 11).2.1 (TX6 11).2.2.1 ∈ lw_gd := gd_of 730 rfl rfl
set_option maxRecDepth 100000 in
theorem wd_731 : Cond.fieldLink RX6 63 (TX6 12).1 (TX6 12).2.1 (TX6 12).2.2.1 ∈ lw_gd := gd_of 731 rfl rfl
set_option maxRecDepth 100000 in
theorem wd_732 : Cond.fieldLink RX6 40 (TX6 13).1 (TX6 13).2.1 (TX6 13).2.2.1 ∈ lw_gd := gd_of 732 rfl rfl
set_option maxRecDepth 100000 in
theorem wd_733 : Cond.fieldLink RX6 43 (TX6 14).1 (TX6 14).2.1 (TX6 14).2.2.1 ∈ lw_gd := gd_of 733 rfl rfl
set_option maxRecDepth 100000 in
theorem wd_734 : Cond.fieldLink RX6 46 (TX6 15).1 (TX6 15).2.1 (TX6 15).2.2.1 ∈ lw_gd := gd_of 734 rfl rfl
set_option maxRecDepth 100000 in
theorem wd_735 : Cond.fieldLink RX6 204 (TX6 16).1 (TX6 16).2.1 (TX6 16).2.2.1 ∈ lw_gd := gd_of 735 rfl rfl
set_option maxRecDepth 100000 in
theorem wd_736 : Cond.fieldLink RX6 180 (TX6 17).1 (TX6 17).2.1 (TX6 17).2.2.1 ∈ lw_gd := gd_of 736 rfl rfl
set_option maxRecDepth 100000 in
theorem wd_737 : Cond.fieldLink RX6 177 (TX6 18).1 (TX6 18).2.1 (TX6 18).2.2.1 ∈ lw_gd := gd_of 737 rfl rfl
set_option maxRecDepth 100000 in
theorem wd_778 : Cond.instanceMethod yX6_undo ∈ lw_gd := gd_of 778 rfl rfl
set_option maxRecDepth 100000 in
theorem wd_779 : Cond.selects RX6 yX6_undo yX6_undo ∈ lw_gd := gd_of 779 rfl rfl
set_option maxRecDepth 100000 in
theorem wd_780 : Cond.code yX6_undo cX6_undo 2 (some .int) ∈ lw_gd := gd_of 780 rfl rfl
set_option maxRecDepth 100000 in
theorem wd_782 : Cond.instanceMethod yX6_save ∈ lw_gd := gd_of 782 rfl rfl
set_option maxRecDepth 100000 in
theorem wd_783 : Cond.selects RX6 yX6_save yX6_save ∈ lw_gd := gd_of 783 rfl rfl
set_option maxRecDepth 100000 in
theorem wd_784 : Cond.code yX6_save cX6_save 3 (some .int) ∈ lw_gd := gd_of 784 rfl rfl
set_option maxRecDepth 100000 in
theorem wd_785 : Cond.methodLink RX6 56 yX6_in ∈ lw_gd := gd_of 785 rfl rfl
set_option maxRecDepth 100000 in
theorem wd_786 : Cond.static yX6_in ∈ lw_gd := gd_of 786 rfl rfl
set_option maxRecDepth 100000 in
theorem wd_787 : Cond.code yX6_in cX6_in 3 (some .boolean) ∈ lw_gd := gd_of 787 rfl rfl
set_option maxRecDepth 100000 in
theorem wd_789 : Cond.instanceMethod yX6_restore ∈ lw_gd := gd_of 789 rfl rfl
set_option maxRecDepth 100000 in
theorem wd_790 : Cond.selects RX6 yX6_restore yX6_restore ∈ lw_gd := gd_of 790 rfl rfl
set_option maxRecDepth 100000 in
theorem wd_791 : Cond.code yX6_restore cX6_restore 3 (some .int) ∈ lw_gd := gd_of 791 rfl rfl
set_option maxRecDepth 100000 in
theorem wd_792 : Cond.methodLink RX6 60 yX6_record ∈ lw_gd := gd_of 792 rfl rfl
set_option maxRecDepth 100000 in
theorem wd_794 : Cond.instanceMethod yX6_record ∈ lw_gd := gd_of 794 rfl rfl
set_option maxRecDepth 100000 in
theorem wd_795 : Cond.code yX6_record cX6_record 2 (none) ∈ lw_gd := gd_of 795 rfl rfl
set_option maxRecDepth 100000 in
theorem wd_797 : Cond.instanceMethod yX6_set ∈ lw_gd := gd_of 797 rfl rfl
set_option maxRecDepth 100000 in
theorem wd_798 : Cond.selects RX6 yX6_set yX6_set ∈ lw_gd := gd_of 798 rfl rfl
set_option maxRecDepth 100000 in
theorem wd_799 : Cond.code yX6_set cX6_set 5 (some .int) ∈ lw_gd := gd_of 799 rfl rfl
set_option maxRecDepth 100000 in
theorem wd_801 : Cond.instanceMethod yX6_task ∈ lw_gd := gd_of 801 rfl rfl
set_option maxRecDepth 100000 in
theorem wd_802 : Cond.selects RX6 yX6_task yX6_task ∈ lw_gd := gd_of 802 rfl rfl
set_option maxRecDepth 100000 in
theorem wd_803 : Cond.code yX6_task cX6_task 8 (some .int) ∈ lw_gd := gd_of 803 rfl rfl
set_option maxRecDepth 100000 in
theorem wd_804 : Cond.methodLink RX6 89 yX6_isTask ∈ lw_gd := gd_of 804 rfl rfl
set_option maxRecDepth 100000 in
theorem wd_806 : Cond.instanceMethod yX6_isTask ∈ lw_gd := gd_of 806 rfl rfl
set_option maxRecDepth 100000 in
theorem wd_807 : Cond.code yX6_isTask cX6_isTask 2 (some .boolean) ∈ lw_gd := gd_of 807 rfl rfl
set_option maxRecDepth 100000 in
theorem wd_808 : Cond.constant RX6 93 (100000 : Int32) ∈ lw_gd := gd_of 808 rfl rfl
set_option maxRecDepth 100000 in
theorem wd_809 : Cond.methodLink RX6 94 yX6_manyOn ∈ lw_gd := gd_of 809 rfl rfl
set_option maxRecDepth 100000 in
theorem wd_811 : Cond.instanceMethod yX6_manyOn ∈ lw_gd := gd_of 811 rfl rfl
set_option maxRecDepth 100000 in
theorem wd_812 : Cond.code yX6_manyOn cX6_manyOn 4 (some .int) ∈ lw_gd := gd_of 812 rfl rfl
set_option maxRecDepth 100000 in
theorem wd_814 : Cond.instanceMethod yX6_duration ∈ lw_gd := gd_of 814 rfl rfl
set_option maxRecDepth 100000 in
theorem wd_815 : Cond.selects RX6 yX6_duration yX6_duration ∈ lw_gd := gd_of 815 rfl rfl
set_option maxRecDepth 100000 in
theorem wd_816 : Cond.code yX6_duration cX6_duration 4 (some .int) ∈ lw_gd := gd_of 816 rfl rfl
set_option maxRecDepth 100000 in
theorem wd_818 : Cond.instanceMethod yX6_move ∈ lw_gd := gd_of 818 rfl rfl
set_option maxRecDepth 100000 in
theorem wd_819 : Cond.selects RX6 yX6_move yX6_move ∈ lw_gd := gd_of 819 rfl rfl
set_option maxRecDepth 100000 in
theorem wd_820 : Cond.code yX6_move cX6_move 5 (some .int) ∈ lw_gd := gd_of 820 rfl rfl
set_option maxRecDepth 100000 in
theorem wd_821 : Cond.methodLink RX6 97 yX6_putAt ∈ lw_gd := gd_of 821 rfl rfl
set_option maxRecDepth 100000 in
theorem wd_823 : Cond.instanceMethod yX6_putAt ∈ lw_gd := gd_of 823 rfl rfl
set_option maxRecDepth 100000 in
theorem wd_824 : Cond.code yX6_putAt cX6_putAt 6 (none) ∈ lw_gd := gd_of 824 rfl rfl
set_option maxRecDepth 100000 in
theorem wd_825 : Cond.methodLink RX6 77 yX6_reckon ∈ lw_gd := gd_of 825 rfl rfl
set_option maxRecDepth 100000 in
theorem wd_827 : Cond.instanceMethod yX6_reckon ∈ lw_gd := gd_of 827 rfl rfl
set_option maxRecDepth 100000 in
theorem wd_828 : Cond.code yX6_reckon cX6_reckon 8 (some .boolean) ∈ lw_gd := gd_of 828 rfl rfl
set_option maxRecDepth 100000 in
theorem wd_829 : Cond.methodLink RX6 66 yX6_endOf ∈ lw_gd := gd_of 829 rfl rfl
set_option maxRecDepth 100000 in
theorem wd_831 : Cond.instanceMethod yX6_endOf ∈ lw_gd := gd_of 831 rfl rfl
set_option maxRecDepth 100000 in
theorem wd_832 : Cond.code yX6_endOf cX6_endOf 2 (some .int) ∈ lw_gd := gd_of 832 rfl rfl
set_option maxRecDepth 100000 in
theorem wd_833 : Cond.methodLink RX6 70 yX6_taskAt ∈ lw_gd := gd_of 833 rfl rfl
set_option maxRecDepth 100000 in
theorem wd_835 : Cond.instanceMethod yX6_taskAt ∈ lw_gd := gd_of 835 rfl rfl
set_option maxRecDepth 100000 in
theorem wd_836 : Cond.code yX6_taskAt cX6_taskAt 5 (some .int) ∈ lw_gd := gd_of 836 rfl rfl
set_option maxRecDepth 100000 in
theorem wd_838 : Cond.instanceMethod yX6_distance ∈ lw_gd := gd_of 838 rfl rfl
set_option maxRecDepth 100000 in
theorem wd_839 : Cond.selects RX6 yX6_distance yX6_distance ∈ lw_gd := gd_of 839 rfl rfl
set_option maxRecDepth 100000 in
theorem wd_840 : Cond.code yX6_distance cX6_distance 3 (some .int) ∈ lw_gd := gd_of 840 rfl rfl
set_option maxRecDepth 100000 in
theorem wd_841 : Cond.methodLink RX6 104 yX6_measure ∈ lw_gd := gd_of 841 rfl rfl
set_option maxRecDepth 100000 in
theorem wd_843 : Cond.instanceMethod yX6_measure ∈ lw_gd := gd_of 843 rfl rfl
set_option maxRecDepth 100000 in
theorem wd_844 : Cond.code yX6_measure cX6_measure 5 (none) ∈ lw_gd := gd_of 844 rfl rfl
set_option maxRecDepth 100000 in
theorem wd_845 : Cond.methodLink RX6 101 yX6_areLinked ∈ lw_gd := gd_of 845 rfl rfl
set_option maxRecDepth 100000 in
theorem wd_847 : Cond.instanceMethod yX6_areLinked ∈ lw_gd := gd_of 847 rfl rfl
set_option maxRecDepth 100000 in
theorem wd_848 : Cond.code yX6_areLinked cX6_areLinked 3 (some .boolean) ∈ lw_gd := gd_of 848 rfl rfl
set_option maxRecDepth 100000 in
theorem wd_850 : Cond.instanceMethod yX6_offer ∈ lw_gd := gd_of 850 rfl rfl
set_option maxRecDepth 100000 in
theorem wd_851 : Cond.selects RX6 yX6_offer yX6_offer ∈ lw_gd := gd_of 851 rfl rfl
set_option maxRecDepth 100000 in
theorem wd_852 : Cond.code yX6_offer cX6_offer 5 (some .int) ∈ lw_gd := gd_of 852 rfl rfl
set_option maxRecDepth 100000 in
theorem wd_854 : Cond.instanceMethod yX6_trade ∈ lw_gd := gd_of 854 rfl rfl
set_option maxRecDepth 100000 in
theorem wd_855 : Cond.selects RX6 yX6_trade yX6_trade ∈ lw_gd := gd_of 855 rfl rfl
set_option maxRecDepth 100000 in
theorem wd_856 : Cond.code yX6_trade cX6_trade 2 (some .int) ∈ lw_gd := gd_of 856 rfl rfl
set_option maxRecDepth 100000 in
theorem wd_857 : Cond.methodLink RX6 130 yX6_tradeAll ∈ lw_gd := gd_of 857 rfl rfl
set_option maxRecDepth 100000 in
theorem wd_859 : Cond.instanceMethod yX6_tradeAll ∈ lw_gd := gd_of 859 rfl rfl
set_option maxRecDepth 100000 in
theorem wd_860 : Cond.code yX6_tradeAll cX6_tradeAll 5 (none) ∈ lw_gd := gd_of 860 rfl rfl
set_option maxRecDepth 100000 in
theorem wd_861 : Cond.methodLink RX6 74 yX6_late ∈ lw_gd := gd_of 861 rfl rfl
set_option maxRecDepth 100000 in
theorem wd_863 : Cond.instanceMethod yX6_late ∈ lw_gd := gd_of 863 rfl rfl
set_option maxRecDepth 100000 in
theorem wd_864 : Cond.code yX6_late cX6_late 3 (some .int) ∈ lw_gd := gd_of 864 rfl rfl
set_option maxRecDepth 100000 in
theorem wd_865 : Cond.methodLink RX6 127 yX6_buys ∈ lw_gd := gd_of 865 rfl rfl
set_option maxRecDepth 100000 in
theorem wd_867 : Cond.instanceMethod yX6_buys ∈ lw_gd := gd_of 867 rfl rfl
set_option maxRecDepth 100000 in
theorem wd_868 : Cond.code yX6_buys cX6_buys 5 (none) ∈ lw_gd := gd_of 868 rfl rfl
set_option maxRecDepth 100000 in
theorem wd_869 : Cond.methodLink RX6 117 yX6_nextOffer ∈ lw_gd := gd_of 869 rfl rfl
set_option maxRecDepth 100000 in
theorem wd_871 : Cond.instanceMethod yX6_nextOffer ∈ lw_gd := gd_of 871 rfl rfl
set_option maxRecDepth 100000 in
theorem wd_872 : Cond.code yX6_nextOffer cX6_nextOffer 6 (some .int) ∈ lw_gd := gd_of 872 rfl rfl
set_option maxRecDepth 100000 in
theorem wd_873 : Cond.methodLink RX6 108 yX6_isSooner ∈ lw_gd := gd_of 873 rfl rfl
set_option maxRecDepth 100000 in
theorem wd_875 : Cond.instanceMethod yX6_isSooner ∈ lw_gd := gd_of 875 rfl rfl
set_option maxRecDepth 100000 in
theorem wd_876 : Cond.code yX6_isSooner cX6_isSooner 3 (some .boolean) ∈ lw_gd := gd_of 876 rfl rfl
set_option maxRecDepth 100000 in
theorem wd_877 : Cond.methodLink RX6 120 yX6_hoursOf ∈ lw_gd := gd_of 877 rfl rfl
set_option maxRecDepth 100000 in
theorem wd_879 : Cond.instanceMethod yX6_hoursOf ∈ lw_gd := gd_of 879 rfl rfl
set_option maxRecDepth 100000 in
theorem wd_880 : Cond.code yX6_hoursOf cX6_hoursOf 5 (some .int) ∈ lw_gd := gd_of 880 rfl rfl
set_option maxRecDepth 100000 in
theorem wd_881 : Cond.methodLink RX6 111 yX6_less ∈ lw_gd := gd_of 881 rfl rfl
set_option maxRecDepth 100000 in
theorem wd_882 : Cond.static yX6_less ∈ lw_gd := gd_of 882 rfl rfl
set_option maxRecDepth 100000 in
theorem wd_883 : Cond.code yX6_less cX6_less 2 (some .int) ∈ lw_gd := gd_of 883 rfl rfl
set_option maxRecDepth 100000 in
theorem wd_884 : Cond.methodLink RX6 114 yX6_spared ∈ lw_gd := gd_of 884 rfl rfl
set_option maxRecDepth 100000 in
theorem wd_886 : Cond.instanceMethod yX6_spared ∈ lw_gd := gd_of 886 rfl rfl
set_option maxRecDepth 100000 in
theorem wd_887 : Cond.code yX6_spared cX6_spared 3 (some .int) ∈ lw_gd := gd_of 887 rfl rfl
set_option maxRecDepth 100000 in
theorem wd_888 : Cond.methodLink RX6 123 yX6_agree ∈ lw_gd := gd_of 888 rfl rfl
set_option maxRecDepth 100000 in
theorem wd_890 : Cond.instanceMethod yX6_agree ∈ lw_gd := gd_of 890 rfl rfl
set_option maxRecDepth 100000 in
theorem wd_891 : Cond.code yX6_agree cX6_agree 6 (none) ∈ lw_gd := gd_of 891 rfl rfl
set_option maxRecDepth 100000 in
theorem wd_893 : Cond.instanceMethod yX6_refund ∈ lw_gd := gd_of 893 rfl rfl
set_option maxRecDepth 100000 in
theorem wd_894 : Cond.selects RX6 yX6_refund yX6_refund ∈ lw_gd := gd_of 894 rfl rfl
set_option maxRecDepth 100000 in
theorem wd_895 : Cond.code yX6_refund cX6_refund 7 (some .int) ∈ lw_gd := gd_of 895 rfl rfl
set_option maxRecDepth 100000 in
theorem wd_896 : Cond.methodLink RX6 133 yX6_isContract ∈ lw_gd := gd_of 896 rfl rfl
set_option maxRecDepth 100000 in
theorem wd_898 : Cond.instanceMethod yX6_isContract ∈ lw_gd := gd_of 898 rfl rfl
set_option maxRecDepth 100000 in
theorem wd_899 : Cond.code yX6_isContract cX6_isContract 2 (some .boolean) ∈ lw_gd := gd_of 899 rfl rfl
set_option maxRecDepth 100000 in
theorem wd_900 : Cond.methodLink RX6 136 yX6_dropContract ∈ lw_gd := gd_of 900 rfl rfl
set_option maxRecDepth 100000 in
theorem wd_902 : Cond.instanceMethod yX6_dropContract ∈ lw_gd := gd_of 902 rfl rfl
set_option maxRecDepth 100000 in
theorem wd_903 : Cond.code yX6_dropContract cX6_dropContract 3 (none) ∈ lw_gd := gd_of 903 rfl rfl
set_option maxRecDepth 100000 in
theorem wd_905 : Cond.instanceMethod yX6_give ∈ lw_gd := gd_of 905 rfl rfl
set_option maxRecDepth 100000 in
theorem wd_906 : Cond.selects RX6 yX6_give yX6_give ∈ lw_gd := gd_of 906 rfl rfl
set_option maxRecDepth 100000 in
theorem wd_907 : Cond.code yX6_give cX6_give 4 (some .int) ∈ lw_gd := gd_of 907 rfl rfl
set_option maxRecDepth 100000 in
theorem wd_909 : Cond.instanceMethod yX6_ofTask ∈ lw_gd := gd_of 909 rfl rfl
set_option maxRecDepth 100000 in
theorem wd_910 : Cond.selects RX6 yX6_ofTask yX6_ofTask ∈ lw_gd := gd_of 910 rfl rfl
set_option maxRecDepth 100000 in
theorem wd_911 : Cond.code yX6_ofTask cX6_ofTask 3 (some .int) ∈ lw_gd := gd_of 911 rfl rfl
set_option maxRecDepth 100000 in
theorem wd_912 : Cond.methodLink RX6 139 yX6_slack ∈ lw_gd := gd_of 912 rfl rfl
set_option maxRecDepth 100000 in
theorem wd_914 : Cond.instanceMethod yX6_slack ∈ lw_gd := gd_of 914 rfl rfl
set_option maxRecDepth 100000 in
theorem wd_915 : Cond.code yX6_slack cX6_slack 6 (some .int) ∈ lw_gd := gd_of 915 rfl rfl
set_option maxRecDepth 100000 in
theorem wd_916 : Cond.methodLink RX6 85 yX6_canBeHeld ∈ lw_gd := gd_of 916 rfl rfl
set_option maxRecDepth 100000 in
theorem wd_918 : Cond.instanceMethod yX6_canBeHeld ∈ lw_gd := gd_of 918 rfl rfl
set_option maxRecDepth 100000 in
theorem wd_919 : Cond.code yX6_canBeHeld cX6_canBeHeld 4 (some .boolean) ∈ lw_gd := gd_of 919 rfl rfl
set_option maxRecDepth 100000 in
theorem wd_920 : Cond.methodLink RX6 81 yX6_lateTogether ∈ lw_gd := gd_of 920 rfl rfl
set_option maxRecDepth 100000 in
theorem wd_922 : Cond.instanceMethod yX6_lateTogether ∈ lw_gd := gd_of 922 rfl rfl
set_option maxRecDepth 100000 in
theorem wd_923 : Cond.code yX6_lateTogether cX6_lateTogether 3 (some .int) ∈ lw_gd := gd_of 923 rfl rfl
set_option maxRecDepth 100000 in
theorem wd_924 : Cond.methodLink RX6 142 yX6_hoursBy ∈ lw_gd := gd_of 924 rfl rfl
set_option maxRecDepth 100000 in
theorem wd_926 : Cond.instanceMethod yX6_hoursBy ∈ lw_gd := gd_of 926 rfl rfl
set_option maxRecDepth 100000 in
theorem wd_927 : Cond.code yX6_hoursBy cX6_hoursBy 5 (some .int) ∈ lw_gd := gd_of 927 rfl rfl
set_option maxRecDepth 100000 in
theorem wd_928 : Cond.methodLink RX6 145 yX6_behind ∈ lw_gd := gd_of 928 rfl rfl
set_option maxRecDepth 100000 in
theorem wd_930 : Cond.instanceMethod yX6_behind ∈ lw_gd := gd_of 930 rfl rfl
set_option maxRecDepth 100000 in
theorem wd_931 : Cond.code yX6_behind cX6_behind 5 (some .int) ∈ lw_gd := gd_of 931 rfl rfl
set_option maxRecDepth 100000 in
theorem wd_933 : Cond.instanceMethod yX6_due ∈ lw_gd := gd_of 933 rfl rfl
set_option maxRecDepth 100000 in
theorem wd_934 : Cond.selects RX6 yX6_due yX6_due ∈ lw_gd := gd_of 934 rfl rfl
set_option maxRecDepth 100000 in
theorem wd_935 : Cond.code yX6_due cX6_due 2 (some .long) ∈ lw_gd := gd_of 935 rfl rfl
set_option maxRecDepth 100000 in
theorem wd_936 : Cond.constantLong RX6 148 (-1 : Int64) ∈ lw_gd := gd_of 936 rfl rfl
set_option maxRecDepth 100000 in
theorem wd_938 : Cond.instanceMethod yX6_money ∈ lw_gd := gd_of 938 rfl rfl
set_option maxRecDepth 100000 in
theorem wd_939 : Cond.selects RX6 yX6_money yX6_money ∈ lw_gd := gd_of 939 rfl rfl
set_option maxRecDepth 100000 in
theorem wd_940 : Cond.code yX6_money cX6_money 2 (some .int) ∈ lw_gd := gd_of 940 rfl rfl
set_option maxRecDepth 100000 in
theorem wd_942 : Cond.instanceMethod yX6_at ∈ lw_gd := gd_of 942 rfl rfl
set_option maxRecDepth 100000 in
theorem wd_943 : Cond.selects RX6 yX6_at yX6_at ∈ lw_gd := gd_of 943 rfl rfl
set_option maxRecDepth 100000 in
theorem wd_944 : Cond.code yX6_at cX6_at 3 (some .int) ∈ lw_gd := gd_of 944 rfl rfl
set_option maxRecDepth 100000 in
theorem wd_946 : Cond.instanceMethod yX6_ofContract ∈ lw_gd := gd_of 946 rfl rfl
set_option maxRecDepth 100000 in
theorem wd_947 : Cond.selects RX6 yX6_ofContract yX6_ofContract ∈ lw_gd := gd_of 947 rfl rfl
set_option maxRecDepth 100000 in
theorem wd_948 : Cond.code yX6_ofContract cX6_ofContract 3 (some .int) ∈ lw_gd := gd_of 948 rfl rfl
set_option maxRecDepth 100000 in
theorem wd_950 : Cond.instanceMethod yX6_count ∈ lw_gd := gd_of 950 rfl rfl
set_option maxRecDepth 100000 in
theorem wd_951 : Cond.selects RX6 yX6_count yX6_count ∈ lw_gd := gd_of 951 rfl rfl
set_option maxRecDepth 100000 in
theorem wd_952 : Cond.code yX6_count cX6_count 2 (some .int) ∈ lw_gd := gd_of 952 rfl rfl
set_option maxRecDepth 100000 in
theorem wd_953 : Cond.methodLink RX6 150 yX6_offers ∈ lw_gd := gd_of 953 rfl rfl
set_option maxRecDepth 100000 in
theorem wd_955 : Cond.instanceMethod yX6_offers ∈ lw_gd := gd_of 955 rfl rfl
set_option maxRecDepth 100000 in
theorem wd_956 : Cond.code yX6_offers cX6_offers 3 (some .int) ∈ lw_gd := gd_of 956 rfl rfl
set_option maxRecDepth 100000 in
theorem wd_957 : Cond.methodLink RX6 153 yX6_lateSet ∈ lw_gd := gd_of 957 rfl rfl
set_option maxRecDepth 100000 in
theorem wd_959 : Cond.instanceMethod yX6_lateSet ∈ lw_gd := gd_of 959 rfl rfl
set_option maxRecDepth 100000 in
theorem wd_960 : Cond.code yX6_lateSet cX6_lateSet 3 (some .int) ∈ lw_gd := gd_of 960 rfl rfl
set_option maxRecDepth 100000 in
theorem wd_961 : Cond.methodLink RX6 156 yX6_endOfAll ∈ lw_gd := gd_of 961 rfl rfl
set_option maxRecDepth 100000 in
theorem wd_963 : Cond.instanceMethod yX6_endOfAll ∈ lw_gd := gd_of 963 rfl rfl
set_option maxRecDepth 100000 in
theorem wd_964 : Cond.code yX6_endOfAll cX6_endOfAll 3 (some .int) ∈ lw_gd := gd_of 964 rfl rfl
set_option maxRecDepth 100000 in
theorem wd_965 : Cond.methodLink RX6 159 yX6_sumOf ∈ lw_gd := gd_of 965 rfl rfl
set_option maxRecDepth 100000 in
theorem wd_967 : Cond.instanceMethod yX6_sumOf ∈ lw_gd := gd_of 967 rfl rfl
set_option maxRecDepth 100000 in
theorem wd_968 : Cond.code yX6_sumOf cX6_sumOf 5 (some .int) ∈ lw_gd := gd_of 968 rfl rfl
set_option maxRecDepth 100000 in
theorem wd_970 : Cond.instanceMethod yX6_wouldBuy ∈ lw_gd := gd_of 970 rfl rfl
set_option maxRecDepth 100000 in
theorem wd_971 : Cond.selects RX6 yX6_wouldBuy yX6_wouldBuy ∈ lw_gd := gd_of 971 rfl rfl
set_option maxRecDepth 100000 in
theorem wd_972 : Cond.code yX6_wouldBuy cX6_wouldBuy 8 (some .int) ∈ lw_gd := gd_of 972 rfl rfl
set_option maxRecDepth 100000 in
theorem wd_973 : Cond.methodLink RX6 165 yX6_putAside ∈ lw_gd := gd_of 973 rfl rfl
set_option maxRecDepth 100000 in
theorem wd_975 : Cond.instanceMethod yX6_putAside ∈ lw_gd := gd_of 975 rfl rfl
set_option maxRecDepth 100000 in
theorem wd_976 : Cond.code yX6_putAside cX6_putAside 2 (none) ∈ lw_gd := gd_of 976 rfl rfl
set_option maxRecDepth 100000 in
theorem wd_977 : Cond.methodLink RX6 168 yX6_bringBack ∈ lw_gd := gd_of 977 rfl rfl
set_option maxRecDepth 100000 in
theorem wd_979 : Cond.instanceMethod yX6_bringBack ∈ lw_gd := gd_of 979 rfl rfl
set_option maxRecDepth 100000 in
theorem wd_980 : Cond.code yX6_bringBack cX6_bringBack 2 (none) ∈ lw_gd := gd_of 980 rfl rfl
set_option maxRecDepth 100000 in
theorem wd_982 : Cond.instanceMethod yX6_leastMoney ∈ lw_gd := gd_of 982 rfl rfl
set_option maxRecDepth 100000 in
theorem wd_983 : Cond.selects RX6 yX6_leastMoney yX6_leastMoney ∈ lw_gd := gd_of 983 rfl rfl
set_option maxRecDepth 100000 in
theorem wd_984 : Cond.code yX6_leastMoney cX6_leastMoney 4 (some .int) ∈ lw_gd := gd_of 984 rfl rfl
set_option maxRecDepth 100000 in
theorem wd_985 : Cond.constant RX6 171 (100000000 : Int32) ∈ lw_gd := gd_of 985 rfl rfl
set_option maxRecDepth 100000 in
theorem wd_987 : Cond.instanceMethod yX6_endIf ∈ lw_gd := gd_of 987 rfl rfl
set_option maxRecDepth 100000 in
theorem wd_988 : Cond.selects RX6 yX6_endIf yX6_endIf ∈ lw_gd := gd_of 988 rfl rfl
set_option maxRecDepth 100000 in
theorem wd_989 : Cond.code yX6_endIf cX6_endIf 5 (some .int) ∈ lw_gd := gd_of 989 rfl rfl
set_option maxRecDepth 100000 in
theorem wd_991 : Cond.instanceMethod yX6_bestPlace ∈ lw_gd := gd_of 991 rfl rfl
set_option maxRecDepth 100000 in
theorem wd_992 : Cond.selects RX6 yX6_bestPlace yX6_bestPlace ∈ lw_gd := gd_of 992 rfl rfl
set_option maxRecDepth 100000 in
theorem wd_993 : Cond.code yX6_bestPlace cX6_bestPlace 9 (some .int) ∈ lw_gd := gd_of 993 rfl rfl
set_option maxRecDepth 100000 in
theorem wd_995 : Cond.instanceMethod yX6_critical ∈ lw_gd := gd_of 995 rfl rfl
set_option maxRecDepth 100000 in
theorem wd_996 : Cond.selects RX6 yX6_critical yX6_critical ∈ lw_gd := gd_of 996 rfl rfl
set_option maxRecDepth 100000 in
theorem wd_997 : Cond.code yX6_critical cX6_critical 6 (some .int) ∈ lw_gd := gd_of 997 rfl rfl
set_option maxRecDepth 100000 in
theorem wd_999 : Cond.instanceMethod yX6_lateBehind ∈ lw_gd := gd_of 999 rfl rfl
set_option maxRecDepth 100000 in
theorem wd_1000 : Cond.selects RX6 yX6_lateBehind yX6_lateBehind ∈ lw_gd := gd_of 1000 rfl rfl
set_option maxRecDepth 100000 in
theorem wd_1001 : Cond.code yX6_lateBehind cX6_lateBehind 2 (some .int) ∈ lw_gd := gd_of 1001 rfl rfl
set_option maxRecDepth 100000 in
theorem wd_1003 : Cond.instanceMethod yX6_put ∈ lw_gd := gd_of 1003 rfl rfl
set_option maxRecDepth 100000 in
theorem wd_1004 : Cond.selects RX6 yX6_put yX6_put ∈ lw_gd := gd_of 1004 rfl rfl
set_option maxRecDepth 100000 in
theorem wd_1005 : Cond.code yX6_put cX6_put 9 (some .int) ∈ lw_gd := gd_of 1005 rfl rfl
set_option maxRecDepth 100000 in
theorem wd_1006 : Cond.constantLong RX6 172 (255 : Int64) ∈ lw_gd := gd_of 1006 rfl rfl
set_option maxRecDepth 100000 in
theorem wd_1008 : Cond.instanceMethod yX6_wipe ∈ lw_gd := gd_of 1008 rfl rfl
set_option maxRecDepth 100000 in
theorem wd_1009 : Cond.selects RX6 yX6_wipe yX6_wipe ∈ lw_gd := gd_of 1009 rfl rfl
set_option maxRecDepth 100000 in
theorem wd_1010 : Cond.code yX6_wipe cX6_wipe 2 (some .int) ∈ lw_gd := gd_of 1010 rfl rfl
set_option maxRecDepth 100000 in
theorem wd_1012 : Cond.instanceMethod yX6_fault ∈ lw_gd := gd_of 1012 rfl rfl
set_option maxRecDepth 100000 in
theorem wd_1013 : Cond.selects RX6 yX6_fault yX6_fault ∈ lw_gd := gd_of 1013 rfl rfl
set_option maxRecDepth 100000 in
theorem wd_1014 : Cond.code yX6_fault cX6_fault 1 (some .int) ∈ lw_gd := gd_of 1014 rfl rfl
set_option maxRecDepth 100000 in
theorem wd_1015 : Cond.methodLink RX6 210 yX6_readPad ∈ lw_gd := gd_of 1015 rfl rfl
set_option maxRecDepth 100000 in
theorem wd_1017 : Cond.instanceMethod yX6_readPad ∈ lw_gd := gd_of 1017 rfl rfl
set_option maxRecDepth 100000 in
theorem wd_1018 : Cond.code yX6_readPad cX6_readPad 2 (none) ∈ lw_gd := gd_of 1018 rfl rfl
set_option maxRecDepth 100000 in
theorem wd_1019 : Cond.methodLink RX6 207 yX6_readOrder ∈ lw_gd := gd_of 1019 rfl rfl
set_option maxRecDepth 100000 in
theorem wd_1021 : Cond.instanceMethod yX6_readOrder ∈ lw_gd := gd_of 1021 rfl rfl
set_option maxRecDepth 100000 in
theorem wd_1022 : Cond.code yX6_readOrder cX6_readOrder 3 (none) ∈ lw_gd := gd_of 1022 rfl rfl
set_option maxRecDepth 100000 in
theorem wd_1023 : Cond.methodLink RX6 174 yX6_letter ∈ lw_gd := gd_of 1023 rfl rfl
set_option maxRecDepth 100000 in
theorem wd_1025 : Cond.instanceMethod yX6_letter ∈ lw_gd := gd_of 1025 rfl rfl
set_option maxRecDepth 100000 in
theorem wd_1026 : Cond.code yX6_letter cX6_letter 2 (some .int) ∈ lw_gd := gd_of 1026 rfl rfl
set_option maxRecDepth 100000 in
theorem wd_1027 : Cond.methodLink RX6 198 yX6_readTask ∈ lw_gd := gd_of 1027 rfl rfl
set_option maxRecDepth 100000 in
theorem wd_1029 : Cond.instanceMethod yX6_readTask ∈ lw_gd := gd_of 1029 rfl rfl
set_option maxRecDepth 100000 in
theorem wd_1030 : Cond.code yX6_readTask cX6_readTask 2 (none) ∈ lw_gd := gd_of 1030 rfl rfl
set_option maxRecDepth 100000 in
theorem wd_1031 : Cond.methodLink RX6 189 yX6_takesMachine ∈ lw_gd := gd_of 1031 rfl rfl
set_option maxRecDepth 100000 in
theorem wd_1033 : Cond.instanceMethod yX6_takesMachine ∈ lw_gd := gd_of 1033 rfl rfl
set_option maxRecDepth 100000 in
theorem wd_1034 : Cond.code yX6_takesMachine cX6_takesMachine 1 (some .int) ∈ lw_gd := gd_of 1034 rfl rfl
set_option maxRecDepth 100000 in
theorem wd_1035 : Cond.methodLink RX6 183 yX6_fail ∈ lw_gd := gd_of 1035 rfl rfl
set_option maxRecDepth 100000 in
theorem wd_1037 : Cond.instanceMethod yX6_fail ∈ lw_gd := gd_of 1037 rfl rfl
set_option maxRecDepth 100000 in
theorem wd_1038 : Cond.code yX6_fail cX6_fail 1 (none) ∈ lw_gd := gd_of 1038 rfl rfl
set_option maxRecDepth 100000 in
theorem wd_1039 : Cond.methodLink RX6 192 yX6_takes ∈ lw_gd := gd_of 1039 rfl rfl
set_option maxRecDepth 100000 in
theorem wd_1041 : Cond.instanceMethod yX6_takes ∈ lw_gd := gd_of 1041 rfl rfl
set_option maxRecDepth 100000 in
theorem wd_1042 : Cond.code yX6_takes cX6_takes 2 (none) ∈ lw_gd := gd_of 1042 rfl rfl
set_option maxRecDepth 100000 in
theorem wd_1043 : Cond.methodLink RX6 195 yX6_takesNumber ∈ lw_gd := gd_of 1043 rfl rfl
set_option maxRecDepth 100000 in
theorem wd_1045 : Cond.instanceMethod yX6_takesNumber ∈ lw_gd := gd_of 1045 rfl rfl
set_option maxRecDepth 100000 in
theorem wd_1046 : Cond.code yX6_takesNumber cX6_takesNumber 3 (some .int) ∈ lw_gd := gd_of 1046 rfl rfl
set_option maxRecDepth 100000 in
theorem wd_1047 : Cond.methodLink RX6 186 yX6_isDigit ∈ lw_gd := gd_of 1047 rfl rfl
set_option maxRecDepth 100000 in
theorem wd_1049 : Cond.instanceMethod yX6_isDigit ∈ lw_gd := gd_of 1049 rfl rfl
set_option maxRecDepth 100000 in
theorem wd_1050 : Cond.code yX6_isDigit cX6_isDigit 2 (some .boolean) ∈ lw_gd := gd_of 1050 rfl rfl
set_option maxRecDepth 100000 in
theorem wd_1051 : Cond.methodLink RX6 201 yX6_readTwo ∈ lw_gd := gd_of 1051 rfl rfl
set_option maxRecDepth 100000 in
theorem wd_1053 : Cond.instanceMethod yX6_readTwo ∈ lw_gd := gd_of 1053 rfl rfl
set_option maxRecDepth 100000 in
theorem wd_1054 : Cond.code yX6_readTwo cX6_readTwo 3 (none) ∈ lw_gd := gd_of 1054 rfl rfl
set_option maxRecDepth 100000 in
theorem wd_1056 : Cond.instanceMethod yX6_carryOut ∈ lw_gd := gd_of 1056 rfl rfl
set_option maxRecDepth 100000 in
theorem wd_1057 : Cond.selects RX6 yX6_carryOut yX6_carryOut ∈ lw_gd := gd_of 1057 rfl rfl
set_option maxRecDepth 100000 in
theorem wd_1058 : Cond.code yX6_carryOut cX6_carryOut 2 (some .int) ∈ lw_gd := gd_of 1058 rfl rfl
set_option maxRecDepth 100000 in
theorem wd_1059 : Cond.methodLink RX6 233 yX6_does ∈ lw_gd := gd_of 1059 rfl rfl
set_option maxRecDepth 100000 in
theorem wd_1061 : Cond.instanceMethod yX6_does ∈ lw_gd := gd_of 1061 rfl rfl
set_option maxRecDepth 100000 in
theorem wd_1062 : Cond.code yX6_does cX6_does 4 (some .int) ∈ lw_gd := gd_of 1062 rfl rfl
set_option maxRecDepth 100000 in
theorem wd_1063 : Cond.methodLink RX6 213 yX6_task ∈ lw_gd := gd_of 1063 rfl rfl
set_option maxRecDepth 100000 in
theorem wd_1064 : Cond.methodLink RX6 217 yX6_duration ∈ lw_gd := gd_of 1064 rfl rfl
set_option maxRecDepth 100000 in
theorem wd_1065 : Cond.methodLink RX6 220 yX6_offer ∈ lw_gd := gd_of 1065 rfl rfl
set_option maxRecDepth 100000 in
theorem wd_1066 : Cond.methodLink RX6 224 yX6_move ∈ lw_gd := gd_of 1066 rfl rfl
set_option maxRecDepth 100000 in
theorem wd_1067 : Cond.methodLink RX6 227 yX6_refund ∈ lw_gd := gd_of 1067 rfl rfl
set_option maxRecDepth 100000 in
theorem wd_1068 : Cond.methodLink RX6 230 yX6_trade ∈ lw_gd := gd_of 1068 rfl rfl
end
section
theorem dX4_copyFrom_0 : decode cX4_copyFrom 0 = .ok (.aload_n 0, 1) := by decide +kernel
theorem dX4_copyFrom_1 : decode cX4_copyFrom 1 = .ok (.aload_n 1, 1) := by decide +kernel
theorem dX4_copyFrom_2 : decode cX4_copyFrom 2 = .ok (.getfield 39, 3) := by decide +kernel
theorem dX4_copyFrom_5 : decode cX4_copyFrom 5 = .ok (.putfield 39, 3) := by decide +kernel
theorem dX4_copyFrom_8 : decode cX4_copyFrom 8 = .ok (.aload_n 1, 1) := by decide +kernel
theorem dX4_copyFrom_9 : decode cX4_copyFrom 9 = .ok (.getfield 9, 3) := by decide +kernel
theorem dX4_copyFrom_12 : decode cX4_copyFrom 12 = .ok (.iconst 0, 1) := by decide +kernel
theorem dX4_copyFrom_13 : decode cX4_copyFrom 13 = .ok (.aload_n 0, 1) := by decide +kernel
theorem dX4_copyFrom_14 : decode cX4_copyFrom 14 = .ok (.getfield 9, 3) := by decide +kernel
theorem dX4_copyFrom_17 : decode cX4_copyFrom 17 = .ok (.iconst 0, 1) := by decide +kernel
theorem dX4_copyFrom_18 : decode cX4_copyFrom 18 = .ok (.bipush 24, 2) := by decide +kernel
theorem dX4_copyFrom_20 : decode cX4_copyFrom 20 = .ok (.invokestatic 43, 3) := by decide +kernel
theorem dX4_copyFrom_23 : decode cX4_copyFrom 23 = .ok (.aload_n 1, 1) := by decide +kernel
theorem dX4_copyFrom_24 : decode cX4_copyFrom 24 = .ok (.getfield 15, 3) := by decide +kernel
theorem dX4_copyFrom_27 : decode cX4_copyFrom 27 = .ok (.iconst 0, 1) := by decide +kernel
theorem dX4_copyFrom_28 : decode cX4_copyFrom 28 = .ok (.aload_n 0, 1) := by decide +kernel
theorem dX4_copyFrom_29 : decode cX4_copyFrom 29 = .ok (.getfield 15, 3) := by decide +kernel
theorem dX4_copyFrom_32 : decode cX4_copyFrom 32 = .ok (.iconst 0, 1) := by decide +kernel
theorem dX4_copyFrom_33 : decode cX4_copyFrom 33 = .ok (.bipush 24, 2) := by decide +kernel
theorem dX4_copyFrom_35 : decode cX4_copyFrom 35 = .ok (.invokestatic 43, 3) := by decide +kernel
theorem dX4_copyFrom_38 : decode cX4_copyFrom 38 = .ok (.aload_n 1, 1) := by decide +kernel
theorem dX4_copyFrom_39 : decode cX4_copyFrom 39 = .ok (.getfield 18, 3) := by decide +kernel
theorem dX4_copyFrom_42 : decode cX4_copyFrom 42 = .ok (.iconst 0, 1) := by decide +kernel
theorem dX4_copyFrom_43 : decode cX4_copyFrom 43 = .ok (.aload_n 0, 1) := by decide +kernel
theorem dX4_copyFrom_44 : decode cX4_copyFrom 44 = .ok (.getfield 18, 3) := by decide +kernel
theorem dX4_copyFrom_47 : decode cX4_copyFrom 47 = .ok (.iconst 0, 1) := by decide +kernel
theorem dX4_copyFrom_48 : decode cX4_copyFrom 48 = .ok (.bipush 24, 2) := by decide +kernel
theorem dX4_copyFrom_50 : decode cX4_copyFrom 50 = .ok (.invokestatic 43, 3) := by decide +kernel
theorem dX4_copyFrom_53 : decode cX4_copyFrom 53 = .ok (.aload_n 1, 1) := by decide +kernel
theorem dX4_copyFrom_54 : decode cX4_copyFrom 54 = .ok (.getfield 21, 3) := by decide +kernel
theorem dX4_copyFrom_57 : decode cX4_copyFrom 57 = .ok (.iconst 0, 1) := by decide +kernel
theorem dX4_copyFrom_58 : decode cX4_copyFrom 58 = .ok (.aload_n 0, 1) := by decide +kernel
theorem dX4_copyFrom_59 : decode cX4_copyFrom 59 = .ok (.getfield 21, 3) := by decide +kernel
theorem dX4_copyFrom_62 : decode cX4_copyFrom 62 = .ok (.iconst 0, 1) := by decide +kernel
theorem dX4_copyFrom_63 : decode cX4_copyFrom 63 = .ok (.bipush 24, 2) := by decide +kernel
theorem dX4_copyFrom_65 : decode cX4_copyFrom 65 = .ok (.invokestatic 43, 3) := by decide +kernel
theorem dX4_copyFrom_68 : decode cX4_copyFrom 68 = .ok (.aload_n 1, 1) := by decide +kernel
theorem dX4_copyFrom_69 : decode cX4_copyFrom 69 = .ok (.getfield 24, 3) := by decide +kernel
theorem dX4_copyFrom_72 : decode cX4_copyFrom 72 = .ok (.iconst 0, 1) := by decide +kernel
theorem dX4_copyFrom_73 : decode cX4_copyFrom 73 = .ok (.aload_n 0, 1) := by decide +kernel
theorem dX4_copyFrom_74 : decode cX4_copyFrom 74 = .ok (.getfield 24, 3) := by decide +kernel
theorem dX4_copyFrom_77 : decode cX4_copyFrom 77 = .ok (.iconst 0, 1) := by decide +kernel
theorem dX4_copyFrom_78 : decode cX4_copyFrom 78 = .ok (.bipush 24, 2) := by decide +kernel
theorem dX4_copyFrom_80 : decode cX4_copyFrom 80 = .ok (.invokestatic 43, 3) := by decide +kernel
theorem dX4_copyFrom_83 : decode cX4_copyFrom 83 = .ok (.aload_n 1, 1) := by decide +kernel
theorem dX4_copyFrom_84 : decode cX4_copyFrom 84 = .ok (.getfield 27, 3) := by decide +kernel
theorem dX4_copyFrom_87 : decode cX4_copyFrom 87 = .ok (.iconst 0, 1) := by decide +kernel
theorem dX4_copyFrom_88 : decode cX4_copyFrom 88 = .ok (.aload_n 0, 1) := by decide +kernel
theorem dX4_copyFrom_89 : decode cX4_copyFrom 89 = .ok (.getfield 27, 3) := by decide +kernel
theorem dX4_copyFrom_92 : decode cX4_copyFrom 92 = .ok (.iconst 0, 1) := by decide +kernel
theorem dX4_copyFrom_93 : decode cX4_copyFrom 93 = .ok (.bipush 96, 2) := by decide +kernel
theorem dX4_copyFrom_95 : decode cX4_copyFrom 95 = .ok (.invokestatic 43, 3) := by decide +kernel
theorem dX4_copyFrom_98 : decode cX4_copyFrom 98 = .ok (.aload_n 1, 1) := by decide +kernel
theorem dX4_copyFrom_99 : decode cX4_copyFrom 99 = .ok (.getfield 30, 3) := by decide +kernel
theorem dX4_copyFrom_102 : decode cX4_copyFrom 102 = .ok (.iconst 0, 1) := by decide +kernel
theorem dX4_copyFrom_103 : decode cX4_copyFrom 103 = .ok (.aload_n 0, 1) := by decide +kernel
theorem dX4_copyFrom_104 : decode cX4_copyFrom 104 = .ok (.getfield 30, 3) := by decide +kernel
theorem dX4_copyFrom_107 : decode cX4_copyFrom 107 = .ok (.iconst 0, 1) := by decide +kernel
theorem dX4_copyFrom_108 : decode cX4_copyFrom 108 = .ok (.iconst 4, 1) := by decide +kernel
theorem dX4_copyFrom_109 : decode cX4_copyFrom 109 = .ok (.invokestatic 43, 3) := by decide +kernel
theorem dX4_copyFrom_112 : decode cX4_copyFrom 112 = .ok (.return_, 1) := by decide +kernel
theorem okX4_copyFrom : CalOK yX4_copyFrom cX4_copyFrom 2 (none) 1 := ⟨wd_69, wd_282, by decide +kernel⟩
theorem ovX4_copyFrom : VirOK yX4_copyFrom := ⟨wd_280, wd_281⟩
def FX4_copyFrom (B : Blk) (Bo : Blk) : Option Blk :=
  lt1 (bs B 1 0 ((Bo 1) 0)) fun B1 =>
  lt1 (bc B1 3 (va_cpy (Bo 3) (B1 3) 0 0 24)) fun B3 =>
  lt1 (bc B3 4 (va_cpy (Bo 4) (B3 4) 0 0 24)) fun B5 =>
  lt1 (bc B5 5 (va_cpy (Bo 5) (B5 5) 0 0 24)) fun B7 =>
  lt1 (bc B7 6 (va_cpy (Bo 6) (B7 6) 0 0 24)) fun B9 =>
  lt1 (bc B9 7 (va_cpy (Bo 7) (B9 7) 0 0 24)) fun B11 =>
  lt1 (bc B11 8 (va_cpy (Bo 8) (B11 8) 0 0 96)) fun B13 =>
  lt1 (bc B13 9 (va_cpy (Bo 9) (B13 9) 0 0 4)) fun B15 =>
  some B15
set_option maxRecDepth 100000 in
set_option maxHeartbeats 4000000 in
theorem wX4_copyFrom {E : WE} {V : VT} {A : Nat → Prop} {H0 : Heap} {M : Mem} {j : Nat} (hj : j < 11) {o : Nat} (ho : o < 11) (hoj : o ≠ j) (Cx : CX E RX4 cX4_copyFrom 2 1 60) {B' : Blk} (hret : RetV E V A H0 cX4_copyFrom (jb M j B')) {Bo : Blk} (hBo : Bo = M o) {H : Heap} {locs : List Loc} {ls : Array Slot} {B : Blk} (hW : Wd V A H0 (jb M j B) (eS E) H locs) (hl : lv_has ls 2 [(0, .ref (vA V j 1)), (1, .ref (vA V o 1))]) (hF : FX4_copyFrom B Bo = some B') : Wq E H locs 0 ls [] := by
  unfold FX4_copyFrom at hF
  refine q_aload_n Cx dX4_copyFrom_0 rfl (lv_at hl 0 rfl) ?_
  refine q_aload_n Cx dX4_copyFrom_1 rfl (lv_at hl 1 rfl) ?_
  refine q_get (v := .int ((Bo 1) 0)) Cx hW (oP ho) ic4 0 (by decide) (by rw [jb_ne hoj, ← hBo]; rfl) wd_96 dX4_copyFrom_2 ?_
  obtain ⟨B1, e2, hF⟩ := lt1_some hF
  refine qb_put Cx hW (oP hj) ic4 0 (by decide) (Nat.le_of_ble_eq_true rfl) e2 rfl rfl ⟨nI32 _, rfl⟩ wd_96 dX4_copyFrom_5 (fun H locs hW => ?_)
  refine q_aload_n Cx dX4_copyFrom_8 rfl (lv_at hl 1 rfl) ?_
  refine q_get (v := .ref (vA V o 3)) Cx hW (oP ho) ic4 1 (by decide) rfl wd_99 dX4_copyFrom_9 ?_
  refine q_iconst (v := (0 : Int32)) Cx dX4_copyFrom_12 (by decide) ?_
  refine q_aload_n Cx dX4_copyFrom_13 rfl (lv_at hl 0 rfl) ?_
  refine q_get (v := .ref (vA V j 3)) Cx hW (oP hj) ic4 1 (by decide) rfl wd_99 dX4_copyFrom_14 ?_
  refine q_iconst (v := (0 : Int32)) Cx dX4_copyFrom_17 (by decide) ?_
  refine q_bipush (v := (24 : Int32)) Cx dX4_copyFrom_18 (by decide) ?_
  obtain ⟨B3, e4, hF⟩ := lt1_some hF
  refine qb_copy (cnt := (24 : Int32)) (B' := B3) Cx hW (ai_3 ho) (ai_3 hj) hoj (by decide) (by decide) (by decide) (by rw [e4, hBo]; rfl) wd_283 wd_285 wd_284 wd_74 hl.1 (by decide) (Nat.le_of_ble_eq_true rfl) dX4_copyFrom_20 (fun H locs hW => ?_)
  refine q_aload_n Cx dX4_copyFrom_23 rfl (lv_at hl 1 rfl) ?_
  refine q_get (v := .ref (vA V o 4)) Cx hW (oP ho) ic4 2 (by decide) rfl wd_101 dX4_copyFrom_24 ?_
  refine q_iconst (v := (0 : Int32)) Cx dX4_copyFrom_27 (by decide) ?_
  refine q_aload_n Cx dX4_copyFrom_28 rfl (lv_at hl 0 rfl) ?_
  refine q_get (v := .ref (vA V j 4)) Cx hW (oP hj) ic4 2 (by decide) rfl wd_101 dX4_copyFrom_29 ?_
  refine q_iconst (v := (0 : Int32)) Cx dX4_copyFrom_32 (by decide) ?_
  refine q_bipush (v := (24 : Int32)) Cx dX4_copyFrom_33 (by decide) ?_
  obtain ⟨B5, e6, hF⟩ := lt1_some hF
  refine qb_copy (cnt := (24 : Int32)) (B' := B5) Cx hW (ai_4 ho) (ai_4 hj) hoj (by decide) (by decide) (by decide) (by rw [e6, hBo]; rfl) wd_283 wd_285 wd_284 wd_74 hl.1 (by decide) (Nat.le_of_ble_eq_true rfl) dX4_copyFrom_35 (fun H locs hW => ?_)
  refine q_aload_n Cx dX4_copyFrom_38 rfl (lv_at hl 1 rfl) ?_
  refine q_get (v := .ref (vA V o 5)) Cx hW (oP ho) ic4 3 (by decide) rfl wd_103 dX4_copyFrom_39 ?_
  refine q_iconst (v := (0 : Int32)) Cx dX4_copyFrom_42 (by decide) ?_
  refine q_aload_n Cx dX4_copyFrom_43 rfl (lv_at hl 0 rfl) ?_
  refine q_get (v := .ref (vA V j 5)) Cx hW (oP hj) ic4 3 (by decide) rfl wd_103 dX4_copyFrom_44 ?_
  refine q_iconst (v := (0 : Int32)) Cx dX4_copyFrom_47 (by decide) ?_
  refine q_bipush (v := (24 : Int32)) Cx dX4_copyFrom_48 (by decide) ?_
  obtain ⟨B7, e8, hF⟩ := lt1_some hF
  refine qb_copy (cnt := (24 : Int32)) (B' := B7) Cx hW (ai_5 ho) (ai_5 hj) hoj (by decide) (by decide) (by decide) (by rw [e8, hBo]; rfl) wd_283 wd_285 wd_284 wd_74 hl.1 (by decide) (Nat.le_of_ble_eq_true rfl) dX4_copyFrom_50 (fun H locs hW => ?_)
  refine q_aload_n Cx dX4_copyFrom_53 rfl (lv_at hl 1 rfl) ?_
  refine q_get (v := .ref (vA V o 6)) Cx hW (oP ho) ic4 4 (by decide) rfl wd_105 dX4_copyFrom_54 ?_
  refine q_iconst (v := (0 : Int32)) Cx dX4_copyFrom_57 (by decide) ?_
  refine q_aload_n Cx dX4_copyFrom_58 rfl (lv_at hl 0 rfl) ?_
  refine q_get (v := .ref (vA V j 6)) Cx hW (oP hj) ic4 4 (by decide) rfl wd_105 dX4_copyFrom_59 ?_
  refine q_iconst (v := (0 : Int32)) Cx dX4_copyFrom_62 (by decide) ?_
  refine q_bipush (v := (24 : Int32)) Cx dX4_copyFrom_63 (by decide) ?_
  obtain ⟨B9, e10, hF⟩ := lt1_some hF
  refine qb_copy (cnt := (24 : Int32)) (B' := B9) Cx hW (ai_6 ho) (ai_6 hj) hoj (by decide) (by decide) (by decide) (by rw [e10, hBo]; rfl) wd_283 wd_285 wd_284 wd_74 hl.1 (by decide) (Nat.le_of_ble_eq_true rfl) dX4_copyFrom_65 (fun H locs hW => ?_)
  refine q_aload_n Cx dX4_copyFrom_68 rfl (lv_at hl 1 rfl) ?_
  refine q_get (v := .ref (vA V o 7)) Cx hW (oP ho) ic4 5 (by decide) rfl wd_107 dX4_copyFrom_69 ?_
  refine q_iconst (v := (0 : Int32)) Cx dX4_copyFrom_72 (by decide) ?_
  refine q_aload_n Cx dX4_copyFrom_73 rfl (lv_at hl 0 rfl) ?_
  refine q_get (v := .ref (vA V j 7)) Cx hW (oP hj) ic4 5 (by decide) rfl wd_107 dX4_copyFrom_74 ?_
  refine q_iconst (v := (0 : Int32)) Cx dX4_copyFrom_77 (by decide) ?_
  refine q_bipush (v := (24 : Int32)) Cx dX4_copyFrom_78 (by decide) ?_
  obtain ⟨B11, e12, hF⟩ := lt1_some hF
  refine qb_copy (cnt := (24 : Int32)) (B' := B11) Cx hW (ai_7 ho) (ai_7 hj) hoj (by decide) (by decide) (by decide) (by rw [e12, hBo]; rfl) wd_283 wd_285 wd_284 wd_74 hl.1 (by decide) (Nat.le_of_ble_eq_true rfl) dX4_copyFrom_80 (fun H locs hW => ?_)
  refine q_aload_n Cx dX4_copyFrom_83 rfl (lv_at hl 1 rfl) ?_
  refine q_get (v := .ref (vA V o 8)) Cx hW (oP ho) ic4 6 (by decide) rfl wd_109 dX4_copyFrom_84 ?_
  refine q_iconst (v := (0 : Int32)) Cx dX4_copyFrom_87 (by decide) ?_
  refine q_aload_n Cx dX4_copyFrom_88 rfl (lv_at hl 0 rfl) ?_
  refine q_get (v := .ref (vA V j 8)) Cx hW (oP hj) ic4 6 (by decide) rfl wd_109 dX4_copyFrom_89 ?_
  refine q_iconst (v := (0 : Int32)) Cx dX4_copyFrom_92 (by decide) ?_
  refine q_bipush (v := (96 : Int32)) Cx dX4_copyFrom_93 (by decide) ?_
  obtain ⟨B13, e14, hF⟩ := lt1_some hF
  refine qb_copy (cnt := (96 : Int32)) (B' := B13) Cx hW (ai_8 ho) (ai_8 hj) hoj (by decide) (by decide) (by decide) (by rw [e14, hBo]; rfl) wd_283 wd_285 wd_284 wd_74 hl.1 (by decide) (Nat.le_of_ble_eq_true rfl) dX4_copyFrom_95 (fun H locs hW => ?_)
  refine q_aload_n Cx dX4_copyFrom_98 rfl (lv_at hl 1 rfl) ?_
  refine q_get (v := .ref (vA V o 9)) Cx hW (oP ho) ic4 7 (by decide) rfl wd_110 dX4_copyFrom_99 ?_
  refine q_iconst (v := (0 : Int32)) Cx dX4_copyFrom_102 (by decide) ?_
  refine q_aload_n Cx dX4_copyFrom_103 rfl (lv_at hl 0 rfl) ?_
  refine q_get (v := .ref (vA V j 9)) Cx hW (oP hj) ic4 7 (by decide) rfl wd_110 dX4_copyFrom_104 ?_
  refine q_iconst (v := (0 : Int32)) Cx dX4_copyFrom_107 (by decide) ?_
  refine q_iconst (v := (4 : Int32)) Cx dX4_copyFrom_108 (by decide) ?_
  obtain ⟨B15, e16, hF⟩ := lt1_some hF
  refine qb_copy (cnt := (4 : Int32)) (B' := B15) Cx hW (ai_9 ho) (ai_9 hj) hoj (by decide) (by decide) (by decide) (by rw [e16, hBo]; rfl) wd_283 wd_285 wd_284 wd_74 hl.1 (by decide) (Nat.le_of_ble_eq_true rfl) dX4_copyFrom_109 (fun H locs hW => ?_)
  cases hF
  exact hret _ _ _ _ dX4_copyFrom_112 hW
set_option maxRecDepth 100000 in
theorem kX4_copyFrom {l : Launch} {V : VT} {M : Mem} {j : Nat} (hj : j < 11) {o : Nat} (ho : o < 11) (hoj : o ≠ j) {Bo : Blk} (hBo : Bo = M o) {B : Blk} {B' : Blk} (hF : FX4_copyFrom B Bo = some B') : MetV l V yX4_copyFrom cX4_copyFrom 2 ({ frames := 1, cells := 0, slots := 0, locals := 60 } : Room) [.ref (vA V j 1), .ref (vA V o 1)] (jb M j B) (jb M j B') := metV_of (by decide) (Nat.le_of_ble_eq_true rfl) (fun E H0 _ Cx hret H locs ls hW hl => wX4_copyFrom hj ho hoj Cx hret hBo hW hl hF)
theorem dX4_has_0 : decode cX4_has 0 = .ok (.iload_n 1, 1) := by decide +kernel
theorem dX4_has_1 : decode cX4_has 1 = .ok (.ifCond .lt 15, 3) := by decide +kernel
theorem dX4_has_4 : decode cX4_has 4 = .ok (.iload_n 1, 1) := by decide +kernel
theorem dX4_has_5 : decode cX4_has 5 = .ok (.aload_n 0, 1) := by decide +kernel
theorem dX4_has_6 : decode cX4_has 6 = .ok (.getfield 39, 3) := by decide +kernel
theorem dX4_has_9 : decode cX4_has 9 = .ok (.if_icmp .ge 7, 3) := by decide +kernel
theorem dX4_has_12 : decode cX4_has 12 = .ok (.iconst 1, 1) := by decide +kernel
theorem dX4_has_13 : decode cX4_has 13 = .ok (.goto 4, 3) := by decide +kernel
theorem dX4_has_16 : decode cX4_has 16 = .ok (.iconst 0, 1) := by decide +kernel
theorem dX4_has_17 : decode cX4_has 17 = .ok (.ireturn, 1) := by decide +kernel
theorem okX4_has : CalOK yX4_has cX4_has 2 (some .boolean) 1 := ⟨wd_69, wd_311, by decide +kernel⟩
theorem ovX4_has : VirOK yX4_has := ⟨wd_309, wd_310⟩
def FX4_has (B : Blk) (l1 : Int32) : Option Int32 :=
  if l1 < 0 then
    some (0 : Int32)
  else
    if ((B 1) 0) ≤ l1 then
      some (0 : Int32)
    else
      some (1 : Int32)
set_option maxRecDepth 100000 in
set_option maxHeartbeats 4000000 in
theorem wX4_has {E : WE} {V : VT} {A : Nat → Prop} {H0 : Heap} {M : Mem} {j : Nat} (hj : j < 11) (Cx : CX E RX4 cX4_has 2 0 0) {r : Int32} {B : Blk} (hret : RetI E V A H0 cX4_has .boolean r (jb M j B)) {H : Heap} {locs : List Loc} {ls : Array Slot} {l1 : Int32} (hW : Wd V A H0 (jb M j B) (eS E) H locs) (hl : lv_has ls 2 [(0, .ref (vA V j 1)), (1, .int l1)]) (hF : FX4_has B l1 = some r) : Wq E H locs 0 ls [] := by
  unfold FX4_has at hF
  refine q_iload_n Cx dX4_has_0 rfl (lv_at hl 1 rfl) ?_
  refine q_if_lt (tgt := 16) Cx dX4_has_1 (by decide) (fun c1 => ?_) (fun c1 => ?_)
  · have hF := (if_pos c1).symm.trans hF
    refine q_iconst (v := (0 : Int32)) Cx dX4_has_16 (by decide) ?_
    cases hF
    exact hret _ _ _ _ dX4_has_17 (by rfl) hW
  · have hF := (if_neg c1).symm.trans hF
    refine q_iload_n Cx dX4_has_4 rfl (lv_at hl 1 rfl) ?_
    refine q_aload_n Cx dX4_has_5 rfl (lv_at hl 0 rfl) ?_
    refine qb_get (v := .int ((B 1) 0)) Cx hW (oP hj) ic4 0 (by decide) rfl wd_96 dX4_has_6 ?_
    refine q_icmp_ge (tgt := 16) Cx dX4_has_9 (by decide) (fun c2 => ?_) (fun c2 => ?_)
    · have hF := (if_pos c2).symm.trans hF
      refine q_iconst (v := (0 : Int32)) Cx dX4_has_16 (by decide) ?_
      cases hF
      exact hret _ _ _ _ dX4_has_17 (by rfl) hW
    · have hF := (if_neg c2).symm.trans hF
      refine q_iconst (v := (1 : Int32)) Cx dX4_has_12 (by decide) ?_
      refine q_goto (tgt := 17) Cx dX4_has_13 (by decide) ?_
      cases hF
      exact hret _ _ _ _ dX4_has_17 (by rfl) hW
set_option maxRecDepth 100000 in
theorem kX4_has {l : Launch} {V : VT} {M : Mem} {j : Nat} (hj : j < 11) {B : Blk} {l1 : Int32} {r : Int32} (hF : FX4_has B l1 = some r) : MetI l V yX4_has cX4_has 2 .boolean ({ frames := 0, cells := 0, slots := 0, locals := 0 } : Room) [.ref (vA V j 1), .int l1] r (jb M j B) (jb M j B) := metI_of (by decide) (Nat.le_of_ble_eq_true rfl) (fun E H0 _ Cx hret H locs ls hW hl => wX4_has hj Cx hret hW hl hF)
theorem dX4_append_0 : decode cX4_append 0 = .ok (.aload_n 0, 1) := by decide +kernel
theorem dX4_append_1 : decode cX4_append 1 = .ok (.getfield 39, 3) := by decide +kernel
theorem dX4_append_4 : decode cX4_append 4 = .ok (.istore 4, 2) := by decide +kernel
theorem dX4_append_6 : decode cX4_append 6 = .ok (.iload 4, 2) := by decide +kernel
theorem dX4_append_8 : decode cX4_append 8 = .ok (.bipush 24, 2) := by decide +kernel
theorem dX4_append_10 : decode cX4_append 10 = .ok (.if_icmp .lt 4, 3) := by decide +kernel
theorem dX4_append_13 : decode cX4_append 13 = .ok (.return_, 1) := by decide +kernel
theorem dX4_append_14 : decode cX4_append 14 = .ok (.aload_n 0, 1) := by decide +kernel
theorem dX4_append_15 : decode cX4_append 15 = .ok (.getfield 9, 3) := by decide +kernel
theorem dX4_append_18 : decode cX4_append 18 = .ok (.iload 4, 2) := by decide +kernel
theorem dX4_append_20 : decode cX4_append 20 = .ok (.iload_n 1, 1) := by decide +kernel
theorem dX4_append_21 : decode cX4_append 21 = .ok (.iastore, 1) := by decide +kernel
theorem dX4_append_22 : decode cX4_append 22 = .ok (.aload_n 0, 1) := by decide +kernel
theorem dX4_append_23 : decode cX4_append 23 = .ok (.getfield 15, 3) := by decide +kernel
theorem dX4_append_26 : decode cX4_append 26 = .ok (.iload 4, 2) := by decide +kernel
theorem dX4_append_28 : decode cX4_append 28 = .ok (.iload_n 2, 1) := by decide +kernel
theorem dX4_append_29 : decode cX4_append 29 = .ok (.iastore, 1) := by decide +kernel
theorem dX4_append_30 : decode cX4_append 30 = .ok (.aload_n 0, 1) := by decide +kernel
theorem dX4_append_31 : decode cX4_append 31 = .ok (.getfield 18, 3) := by decide +kernel
theorem dX4_append_34 : decode cX4_append 34 = .ok (.iload 4, 2) := by decide +kernel
theorem dX4_append_36 : decode cX4_append 36 = .ok (.iload_n 3, 1) := by decide +kernel
theorem dX4_append_37 : decode cX4_append 37 = .ok (.iastore, 1) := by decide +kernel
theorem dX4_append_38 : decode cX4_append 38 = .ok (.aload_n 0, 1) := by decide +kernel
theorem dX4_append_39 : decode cX4_append 39 = .ok (.getfield 27, 3) := by decide +kernel
theorem dX4_append_42 : decode cX4_append 42 = .ok (.iload_n 1, 1) := by decide +kernel
theorem dX4_append_43 : decode cX4_append 43 = .ok (.bipush 24, 2) := by decide +kernel
theorem dX4_append_45 : decode cX4_append 45 = .ok (.imul, 1) := by decide +kernel
theorem dX4_append_46 : decode cX4_append 46 = .ok (.aload_n 0, 1) := by decide +kernel
theorem dX4_append_47 : decode cX4_append 47 = .ok (.getfield 30, 3) := by decide +kernel
theorem dX4_append_50 : decode cX4_append 50 = .ok (.iload_n 1, 1) := by decide +kernel
theorem dX4_append_51 : decode cX4_append 51 = .ok (.iaload, 1) := by decide +kernel
theorem dX4_append_52 : decode cX4_append 52 = .ok (.iadd, 1) := by decide +kernel
theorem dX4_append_53 : decode cX4_append 53 = .ok (.iload 4, 2) := by decide +kernel
theorem dX4_append_55 : decode cX4_append 55 = .ok (.iastore, 1) := by decide +kernel
theorem dX4_append_56 : decode cX4_append 56 = .ok (.aload_n 0, 1) := by decide +kernel
theorem dX4_append_57 : decode cX4_append 57 = .ok (.getfield 30, 3) := by decide +kernel
theorem dX4_append_60 : decode cX4_append 60 = .ok (.iload_n 1, 1) := by decide +kernel
theorem dX4_append_61 : decode cX4_append 61 = .ok (.dup2, 1) := by decide +kernel
theorem dX4_append_62 : decode cX4_append 62 = .ok (.iaload, 1) := by decide +kernel
theorem dX4_append_63 : decode cX4_append 63 = .ok (.iconst 1, 1) := by decide +kernel
theorem dX4_append_64 : decode cX4_append 64 = .ok (.iadd, 1) := by decide +kernel
theorem dX4_append_65 : decode cX4_append 65 = .ok (.iastore, 1) := by decide +kernel
theorem dX4_append_66 : decode cX4_append 66 = .ok (.aload_n 0, 1) := by decide +kernel
theorem dX4_append_67 : decode cX4_append 67 = .ok (.dup, 1) := by decide +kernel
theorem dX4_append_68 : decode cX4_append 68 = .ok (.getfield 39, 3) := by decide +kernel
theorem dX4_append_71 : decode cX4_append 71 = .ok (.iconst 1, 1) := by decide +kernel
theorem dX4_append_72 : decode cX4_append 72 = .ok (.iadd, 1) := by decide +kernel
theorem dX4_append_73 : decode cX4_append 73 = .ok (.putfield 39, 3) := by decide +kernel
theorem dX4_append_76 : decode cX4_append 76 = .ok (.return_, 1) := by decide +kernel
theorem okX4_append : CalOK yX4_append cX4_append 5 (none) 3 := ⟨wd_69, wd_316, by decide +kernel⟩
theorem ovX4_append : VirOK yX4_append := ⟨wd_314, wd_315⟩
def FX4_append (B : Blk) (l1 : Int32) (l2 : Int32) (l3 : Int32) : Option Blk :=
  lt1 ((B 1) 0) fun x1 =>
  if x1 < (24 : Int32) then
    stb B 3 24 x1 l1 fun B4 =>
    stb B4 4 24 x1 l2 fun B7 =>
    stb B7 5 24 x1 l3 fun B10 =>
    ld (B10 9) 4 l1 fun v13 =>
    stb B10 8 96 ((l1 * (24 : Int32)) + v13) x1 fun B16 =>
    ld (B16 9) 4 l1 fun v19 =>
    stb B16 9 4 l1 (v19 + (1 : Int32)) fun B22 =>
    lt1 (bs B22 1 0 (((B22 1) 0) + (1 : Int32))) fun B25 =>
    some B25
  else
    some B
set_option maxRecDepth 100000 in
set_option maxHeartbeats 4000000 in
theorem wX4_append {E : WE} {V : VT} {A : Nat → Prop} {H0 : Heap} {M : Mem} {j : Nat} (hj : j < 11) (Cx : CX E RX4 cX4_append 5 0 0) {B' : Blk} (hret : RetV E V A H0 cX4_append (jb M j B')) {H : Heap} {locs : List Loc} {ls : Array Slot} {l1 : Int32} {l2 : Int32} {l3 : Int32} {B : Blk} (hW : Wd V A H0 (jb M j B) (eS E) H locs) (hl : lv_has ls 5 [(0, .ref (vA V j 1)), (1, .int l1), (2, .int l2), (3, .int l3)]) (hF : FX4_append B l1 l2 l3 = some B') : Wq E H locs 0 ls [] := by
  unfold FX4_append at hF
  refine q_aload_n Cx dX4_append_0 rfl (lv_at hl 0 rfl) ?_
  refine qb_get (v := .int ((B 1) 0)) Cx hW (oP hj) ic4 0 (by decide) rfl wd_96 dX4_append_1 ?_
  obtain ⟨x1, e2, hF⟩ := lt1_some hF
  refine q_topi e2 ?_
  refine q_istore (lv' := [(4, .int x1), (0, .ref (vA V j 1)), (1, .int l1), (2, .int l2), (3, .int l3)]) Cx dX4_append_4 hl (by decide) rfl (fun ls hl => ?_)
  refine q_iload Cx dX4_append_6 (lv_at hl 0 rfl) ?_
  refine q_bipush (v := (24 : Int32)) Cx dX4_append_8 (by decide) ?_
  refine q_icmp_lt (tgt := 14) Cx dX4_append_10 (by decide) (fun c3 => ?_) (fun c3 => ?_)
  · have hF := (if_pos c3).symm.trans hF
    refine q_aload_n Cx dX4_append_14 rfl (lv_at hl 1 rfl) ?_
    refine q_get (v := .ref (vA V j 3)) Cx hW (oP hj) ic4 1 (by decide) rfl wd_99 dX4_append_15 ?_
    refine q_iload Cx dX4_append_18 (lv_at hl 0 rfl) ?_
    refine q_iload_n Cx dX4_append_20 rfl (lv_at hl 2 rfl) ?_
    obtain ⟨h5, B4, e6, hF⟩ := stb_some hF
    refine qb_iast Cx hW (ai_3 hj) h5 e6 dX4_append_21 (fun H locs hW => ?_)
    refine q_aload_n Cx dX4_append_22 rfl (lv_at hl 1 rfl) ?_
    refine q_get (v := .ref (vA V j 4)) Cx hW (oP hj) ic4 2 (by decide) rfl wd_101 dX4_append_23 ?_
    refine q_iload Cx dX4_append_26 (lv_at hl 0 rfl) ?_
    refine q_iload_n Cx dX4_append_28 rfl (lv_at hl 3 rfl) ?_
    obtain ⟨h8, B7, e9, hF⟩ := stb_some hF
    refine qb_iast Cx hW (ai_4 hj) h8 e9 dX4_append_29 (fun H locs hW => ?_)
    refine q_aload_n Cx dX4_append_30 rfl (lv_at hl 1 rfl) ?_
    refine q_get (v := .ref (vA V j 5)) Cx hW (oP hj) ic4 3 (by decide) rfl wd_103 dX4_append_31 ?_
    refine q_iload Cx dX4_append_34 (lv_at hl 0 rfl) ?_
    refine q_iload_n Cx dX4_append_36 rfl (lv_at hl 4 rfl) ?_
    obtain ⟨h11, B10, e12, hF⟩ := stb_some hF
    refine qb_iast Cx hW (ai_5 hj) h11 e12 dX4_append_37 (fun H locs hW => ?_)
    refine q_aload_n Cx dX4_append_38 rfl (lv_at hl 1 rfl) ?_
    refine q_get (v := .ref (vA V j 8)) Cx hW (oP hj) ic4 6 (by decide) rfl wd_109 dX4_append_39 ?_
    refine q_iload_n Cx dX4_append_42 rfl (lv_at hl 2 rfl) ?_
    refine q_bipush (v := (24 : Int32)) Cx dX4_append_43 (by decide) ?_
    refine q_imul Cx dX4_append_45 ?_
    refine q_aload_n Cx dX4_append_46 rfl (lv_at hl 1 rfl) ?_
    refine q_get (v := .ref (vA V j 9)) Cx hW (oP hj) ic4 7 (by decide) rfl wd_110 dX4_append_47 ?_
    refine q_iload_n Cx dX4_append_50 rfl (lv_at hl 2 rfl) ?_
    obtain ⟨h14, v13, e15, hF⟩ := ld_some hF
    refine qb_iald Cx hW (ai_9 hj) h14 e15 dX4_append_51 ?_
    refine q_iadd Cx dX4_append_52 ?_
    refine q_iload Cx dX4_append_53 (lv_at hl 0 rfl) ?_
    obtain ⟨h17, B16, e18, hF⟩ := stb_some hF
    refine qb_iast Cx hW (ai_8 hj) h17 e18 dX4_append_55 (fun H locs hW => ?_)
    refine q_aload_n Cx dX4_append_56 rfl (lv_at hl 1 rfl) ?_
    refine q_get (v := .ref (vA V j 9)) Cx hW (oP hj) ic4 7 (by decide) rfl wd_110 dX4_append_57 ?_
    refine q_iload_n Cx dX4_append_60 rfl (lv_at hl 2 rfl) ?_
    refine q_dup2 Cx dX4_append_61 rfl rfl ?_
    obtain ⟨h20, v19, e21, hF⟩ := ld_some hF
    refine qb_iald Cx hW (ai_9 hj) h20 e21 dX4_append_62 ?_
    refine q_iconst (v := (1 : Int32)) Cx dX4_append_63 (by decide) ?_
    refine q_iadd Cx dX4_append_64 ?_
    obtain ⟨h23, B22, e24, hF⟩ := stb_some hF
    refine qb_iast Cx hW (ai_9 hj) h23 e24 dX4_append_65 (fun H locs hW => ?_)
    refine q_aload_n Cx dX4_append_66 rfl (lv_at hl 1 rfl) ?_
    refine q_dup Cx dX4_append_67 rfl ?_
    refine qb_get (v := .int ((B22 1) 0)) Cx hW (oP hj) ic4 0 (by decide) rfl wd_96 dX4_append_68 ?_
    refine q_iconst (v := (1 : Int32)) Cx dX4_append_71 (by decide) ?_
    refine q_iadd Cx dX4_append_72 ?_
    obtain ⟨B25, e26, hF⟩ := lt1_some hF
    refine qb_put Cx hW (oP hj) ic4 0 (by decide) (Nat.le_of_ble_eq_true rfl) e26 rfl rfl ⟨nI32 _, rfl⟩ wd_96 dX4_append_73 (fun H locs hW => ?_)
    cases hF
    exact hret _ _ _ _ dX4_append_76 hW
  · have hF := (if_neg c3).symm.trans hF
    cases hF
    exact hret _ _ _ _ dX4_append_13 hW
set_option maxRecDepth 100000 in
theorem kX4_append {l : Launch} {V : VT} {M : Mem} {j : Nat} (hj : j < 11) {B : Blk} {l1 : Int32} {l2 : Int32} {l3 : Int32} {B' : Blk} (hF : FX4_append B l1 l2 l3 = some B') : MetV l V yX4_append cX4_append 5 ({ frames := 0, cells := 0, slots := 0, locals := 0 } : Room) [.ref (vA V j 1), .int l1, .int l2, .int l3] (jb M j B) (jb M j B') := metV_of (by decide) (Nat.le_of_ble_eq_true rfl) (fun E H0 _ Cx hret H locs ls hW hl => wX4_append hj Cx hret hW hl hF)
theorem dX4_inRow_0 : decode cX4_inRow 0 = .ok (.iload_n 1, 1) := by decide +kernel
theorem dX4_inRow_1 : decode cX4_inRow 1 = .ok (.ifCond .lt 22, 3) := by decide +kernel
theorem dX4_inRow_4 : decode cX4_inRow 4 = .ok (.iload_n 1, 1) := by decide +kernel
theorem dX4_inRow_5 : decode cX4_inRow 5 = .ok (.iconst 4, 1) := by decide +kernel
theorem dX4_inRow_6 : decode cX4_inRow 6 = .ok (.if_icmp .ge 17, 3) := by decide +kernel
theorem dX4_inRow_9 : decode cX4_inRow 9 = .ok (.iload_n 2, 1) := by decide +kernel
theorem dX4_inRow_10 : decode cX4_inRow 10 = .ok (.ifCond .lt 13, 3) := by decide +kernel
theorem dX4_inRow_13 : decode cX4_inRow 13 = .ok (.iload_n 2, 1) := by decide +kernel
theorem dX4_inRow_14 : decode cX4_inRow 14 = .ok (.aload_n 0, 1) := by decide +kernel
theorem dX4_inRow_15 : decode cX4_inRow 15 = .ok (.getfield 30, 3) := by decide +kernel
theorem dX4_inRow_18 : decode cX4_inRow 18 = .ok (.iload_n 1, 1) := by decide +kernel
theorem dX4_inRow_19 : decode cX4_inRow 19 = .ok (.iaload, 1) := by decide +kernel
theorem dX4_inRow_20 : decode cX4_inRow 20 = .ok (.if_icmp .lt 6, 3) := by decide +kernel
theorem dX4_inRow_23 : decode cX4_inRow 23 = .ok (.bipush (-6), 2) := by decide +kernel
theorem dX4_inRow_25 : decode cX4_inRow 25 = .ok (.ireturn, 1) := by decide +kernel
theorem dX4_inRow_26 : decode cX4_inRow 26 = .ok (.aload_n 0, 1) := by decide +kernel
theorem dX4_inRow_27 : decode cX4_inRow 27 = .ok (.getfield 27, 3) := by decide +kernel
theorem dX4_inRow_30 : decode cX4_inRow 30 = .ok (.iload_n 1, 1) := by decide +kernel
theorem dX4_inRow_31 : decode cX4_inRow 31 = .ok (.bipush 24, 2) := by decide +kernel
theorem dX4_inRow_33 : decode cX4_inRow 33 = .ok (.imul, 1) := by decide +kernel
theorem dX4_inRow_34 : decode cX4_inRow 34 = .ok (.iload_n 2, 1) := by decide +kernel
theorem dX4_inRow_35 : decode cX4_inRow 35 = .ok (.iadd, 1) := by decide +kernel
theorem dX4_inRow_36 : decode cX4_inRow 36 = .ok (.iaload, 1) := by decide +kernel
theorem dX4_inRow_37 : decode cX4_inRow 37 = .ok (.ireturn, 1) := by decide +kernel
theorem okX4_inRow : CalOK yX4_inRow cX4_inRow 3 (some .int) 2 := ⟨wd_69, wd_328, by decide +kernel⟩
theorem ovX4_inRow : VirOK yX4_inRow := ⟨wd_326, wd_327⟩
def FX4_inRow (B : Blk) (l1 : Int32) (l2 : Int32) : Option Int32 :=
  if l1 < 0 then
    some (-6 : Int32)
  else
    if (4 : Int32) ≤ l1 then
      some (-6 : Int32)
    else
      if l2 < 0 then
        some (-6 : Int32)
      else
        ld (B 9) 4 l1 fun v4 =>
        if l2 < v4 then
          ld (B 8) 96 ((l1 * (24 : Int32)) + l2) fun v8 =>
          some v8
        else
          some (-6 : Int32)
set_option maxRecDepth 100000 in
set_option maxHeartbeats 4000000 in
theorem wX4_inRow {E : WE} {V : VT} {A : Nat → Prop} {H0 : Heap} {M : Mem} {j : Nat} (hj : j < 11) (Cx : CX E RX4 cX4_inRow 3 0 0) {r : Int32} {B : Blk} (hret : RetI E V A H0 cX4_inRow .int r (jb M j B)) {H : Heap} {locs : List Loc} {ls : Array Slot} {l1 : Int32} {l2 : Int32} (hW : Wd V A H0 (jb M j B) (eS E) H locs) (hl : lv_has ls 3 [(0, .ref (vA V j 1)), (1, .int l1), (2, .int l2)]) (hF : FX4_inRow B l1 l2 = some r) : Wq E H locs 0 ls [] := by
  unfold FX4_inRow at hF
  refine q_iload_n Cx dX4_inRow_0 rfl (lv_at hl 1 rfl) ?_
  refine q_if_lt (tgt := 23) Cx dX4_inRow_1 (by decide) (fun c1 => ?_) (fun c1 => ?_)
  · have hF := (if_pos c1).symm.trans hF
    refine q_bipush (v := (-6 : Int32)) Cx dX4_inRow_23 (by decide) ?_
    cases hF
    exact hret _ _ _ _ dX4_inRow_25 (nI32 _) hW
  · have hF := (if_neg c1).symm.trans hF
    refine q_iload_n Cx dX4_inRow_4 rfl (lv_at hl 1 rfl) ?_
    refine q_iconst (v := (4 : Int32)) Cx dX4_inRow_5 (by decide) ?_
    refine q_icmp_ge (tgt := 23) Cx dX4_inRow_6 (by decide) (fun c2 => ?_) (fun c2 => ?_)
    · have hF := (if_pos c2).symm.trans hF
      refine q_bipush (v := (-6 : Int32)) Cx dX4_inRow_23 (by decide) ?_
      cases hF
      exact hret _ _ _ _ dX4_inRow_25 (nI32 _) hW
    · have hF := (if_neg c2).symm.trans hF
      refine q_iload_n Cx dX4_inRow_9 rfl (lv_at hl 2 rfl) ?_
      refine q_if_lt (tgt := 23) Cx dX4_inRow_10 (by decide) (fun c3 => ?_) (fun c3 => ?_)
      · have hF := (if_pos c3).symm.trans hF
        refine q_bipush (v := (-6 : Int32)) Cx dX4_inRow_23 (by decide) ?_
        cases hF
        exact hret _ _ _ _ dX4_inRow_25 (nI32 _) hW
      · have hF := (if_neg c3).symm.trans hF
        refine q_iload_n Cx dX4_inRow_13 rfl (lv_at hl 2 rfl) ?_
        refine q_aload_n Cx dX4_inRow_14 rfl (lv_at hl 0 rfl) ?_
        refine q_get (v := .ref (vA V j 9)) Cx hW (oP hj) ic4 7 (by decide) rfl wd_110 dX4_inRow_15 ?_
        refine q_iload_n Cx dX4_inRow_18 rfl (lv_at hl 1 rfl) ?_
        obtain ⟨h5, v4, e6, hF⟩ := ld_some hF
        refine qb_iald Cx hW (ai_9 hj) h5 e6 dX4_inRow_19 ?_
        refine q_icmp_lt (tgt := 26) Cx dX4_inRow_20 (by decide) (fun c7 => ?_) (fun c7 => ?_)
        · have hF := (if_pos c7).symm.trans hF
          refine q_aload_n Cx dX4_inRow_26 rfl (lv_at hl 0 rfl) ?_
          refine q_get (v := .ref (vA V j 8)) Cx hW (oP hj) ic4 6 (by decide) rfl wd_109 dX4_inRow_27 ?_
          refine q_iload_n Cx dX4_inRow_30 rfl (lv_at hl 1 rfl) ?_
          refine q_bipush (v := (24 : Int32)) Cx dX4_inRow_31 (by decide) ?_
          refine q_imul Cx dX4_inRow_33 ?_
          refine q_iload_n Cx dX4_inRow_34 rfl (lv_at hl 2 rfl) ?_
          refine q_iadd Cx dX4_inRow_35 ?_
          obtain ⟨h9, v8, e10, hF⟩ := ld_some hF
          refine qb_iald Cx hW (ai_8 hj) h9 e10 dX4_inRow_36 ?_
          cases hF
          exact hret _ _ _ _ dX4_inRow_37 (nI32 _) hW
        · have hF := (if_neg c7).symm.trans hF
          refine q_bipush (v := (-6 : Int32)) Cx dX4_inRow_23 (by decide) ?_
          cases hF
          exact hret _ _ _ _ dX4_inRow_25 (nI32 _) hW
set_option maxRecDepth 100000 in
theorem kX4_inRow {l : Launch} {V : VT} {M : Mem} {j : Nat} (hj : j < 11) {B : Blk} {l1 : Int32} {l2 : Int32} {r : Int32} (hF : FX4_inRow B l1 l2 = some r) : MetI l V yX4_inRow cX4_inRow 3 .int ({ frames := 0, cells := 0, slots := 0, locals := 0 } : Room) [.ref (vA V j 1), .int l1, .int l2] r (jb M j B) (jb M j B) := metI_of (by decide) (Nat.le_of_ble_eq_true rfl) (fun E H0 _ Cx hret H locs ls hW hl => wX4_inRow hj Cx hret hW hl hF)
theorem dX4_endOf_0 : decode cX4_endOf 0 = .ok (.iload_n 1, 1) := by decide +kernel
theorem dX4_endOf_1 : decode cX4_endOf 1 = .ok (.ifCond .lt 20, 3) := by decide +kernel
theorem dX4_endOf_4 : decode cX4_endOf 4 = .ok (.iload_n 1, 1) := by decide +kernel
theorem dX4_endOf_5 : decode cX4_endOf 5 = .ok (.aload_n 0, 1) := by decide +kernel
theorem dX4_endOf_6 : decode cX4_endOf 6 = .ok (.getfield 39, 3) := by decide +kernel
theorem dX4_endOf_9 : decode cX4_endOf 9 = .ok (.if_icmp .ge 12, 3) := by decide +kernel
theorem dX4_endOf_12 : decode cX4_endOf 12 = .ok (.aload_n 0, 1) := by decide +kernel
theorem dX4_endOf_13 : decode cX4_endOf 13 = .ok (.getfield 21, 3) := by decide +kernel
theorem dX4_endOf_16 : decode cX4_endOf 16 = .ok (.iload_n 1, 1) := by decide +kernel
theorem dX4_endOf_17 : decode cX4_endOf 17 = .ok (.iaload, 1) := by decide +kernel
theorem dX4_endOf_18 : decode cX4_endOf 18 = .ok (.goto 4, 3) := by decide +kernel
theorem dX4_endOf_21 : decode cX4_endOf 21 = .ok (.iconst 0, 1) := by decide +kernel
theorem dX4_endOf_22 : decode cX4_endOf 22 = .ok (.ireturn, 1) := by decide +kernel
theorem okX4_endOf : CalOK yX4_endOf cX4_endOf 2 (some .int) 1 := ⟨wd_69, wd_332, by decide +kernel⟩
theorem ovX4_endOf : VirOK yX4_endOf := ⟨wd_330, wd_331⟩
def FX4_endOf (B : Blk) (l1 : Int32) : Option Int32 :=
  if l1 < 0 then
    some (0 : Int32)
  else
    if ((B 1) 0) ≤ l1 then
      some (0 : Int32)
    else
      ld (B 6) 24 l1 fun v3 =>
      some v3
set_option maxRecDepth 100000 in
set_option maxHeartbeats 4000000 in
theorem wX4_endOf {E : WE} {V : VT} {A : Nat → Prop} {H0 : Heap} {M : Mem} {j : Nat} (hj : j < 11) (Cx : CX E RX4 cX4_endOf 2 0 0) {r : Int32} {B : Blk} (hret : RetI E V A H0 cX4_endOf .int r (jb M j B)) {H : Heap} {locs : List Loc} {ls : Array Slot} {l1 : Int32} (hW : Wd V A H0 (jb M j B) (eS E) H locs) (hl : lv_has ls 2 [(0, .ref (vA V j 1)), (1, .int l1)]) (hF : FX4_endOf B l1 = some r) : Wq E H locs 0 ls [] := by
  unfold FX4_endOf at hF
  refine q_iload_n Cx dX4_endOf_0 rfl (lv_at hl 1 rfl) ?_
  refine q_if_lt (tgt := 21) Cx dX4_endOf_1 (by decide) (fun c1 => ?_) (fun c1 => ?_)
  · have hF := (if_pos c1).symm.trans hF
    refine q_iconst (v := (0 : Int32)) Cx dX4_endOf_21 (by decide) ?_
    cases hF
    exact hret _ _ _ _ dX4_endOf_22 (nI32 _) hW
  · have hF := (if_neg c1).symm.trans hF
    refine q_iload_n Cx dX4_endOf_4 rfl (lv_at hl 1 rfl) ?_
    refine q_aload_n Cx dX4_endOf_5 rfl (lv_at hl 0 rfl) ?_
    refine qb_get (v := .int ((B 1) 0)) Cx hW (oP hj) ic4 0 (by decide) rfl wd_96 dX4_endOf_6 ?_
    refine q_icmp_ge (tgt := 21) Cx dX4_endOf_9 (by decide) (fun c2 => ?_) (fun c2 => ?_)
    · have hF := (if_pos c2).symm.trans hF
      refine q_iconst (v := (0 : Int32)) Cx dX4_endOf_21 (by decide) ?_
      cases hF
      exact hret _ _ _ _ dX4_endOf_22 (nI32 _) hW
    · have hF := (if_neg c2).symm.trans hF
      refine q_aload_n Cx dX4_endOf_12 rfl (lv_at hl 0 rfl) ?_
      refine q_get (v := .ref (vA V j 6)) Cx hW (oP hj) ic4 4 (by decide) rfl wd_105 dX4_endOf_13 ?_
      refine q_iload_n Cx dX4_endOf_16 rfl (lv_at hl 1 rfl) ?_
      obtain ⟨h4, v3, e5, hF⟩ := ld_some hF
      refine qb_iald Cx hW (ai_6 hj) h4 e5 dX4_endOf_17 ?_
      refine q_goto (tgt := 22) Cx dX4_endOf_18 (by decide) ?_
      cases hF
      exact hret _ _ _ _ dX4_endOf_22 (nI32 _) hW
set_option maxRecDepth 100000 in
theorem kX4_endOf {l : Launch} {V : VT} {M : Mem} {j : Nat} (hj : j < 11) {B : Blk} {l1 : Int32} {r : Int32} (hF : FX4_endOf B l1 = some r) : MetI l V yX4_endOf cX4_endOf 2 .int ({ frames := 0, cells := 0, slots := 0, locals := 0 } : Room) [.ref (vA V j 1), .int l1] r (jb M j B) (jb M j B) := metI_of (by decide) (Nat.le_of_ble_eq_true rfl) (fun E H0 _ Cx hret H locs ls hW hl => wX4_endOf hj Cx hret hW hl hF)
theorem dX4_scheduleRow_0 : decode cX4_scheduleRow 0 = .ok (.aload_n 0, 1) := by decide +kernel
theorem dX4_scheduleRow_1 : decode cX4_scheduleRow 1 = .ok (.aload_n 0, 1) := by decide +kernel
theorem dX4_scheduleRow_2 : decode cX4_scheduleRow 2 = .ok (.iload_n 1, 1) := by decide +kernel
theorem dX4_scheduleRow_3 : decode cX4_scheduleRow 3 = .ok (.aload_n 0, 1) := by decide +kernel
theorem dX4_scheduleRow_4 : decode cX4_scheduleRow 4 = .ok (.getfield 33, 3) := by decide +kernel
theorem dX4_scheduleRow_7 : decode cX4_scheduleRow 7 = .ok (.iload_n 1, 1) := by decide +kernel
theorem dX4_scheduleRow_8 : decode cX4_scheduleRow 8 = .ok (.iaload, 1) := by decide +kernel
theorem dX4_scheduleRow_9 : decode cX4_scheduleRow 9 = .ok (.iconst 1, 1) := by decide +kernel
theorem dX4_scheduleRow_10 : decode cX4_scheduleRow 10 = .ok (.isub, 1) := by decide +kernel
theorem dX4_scheduleRow_11 : decode cX4_scheduleRow 11 = .ok (.invokevirtual 49, 3) := by decide +kernel
theorem dX4_scheduleRow_14 : decode cX4_scheduleRow 14 = .ok (.invokevirtual 65, 3) := by decide +kernel
theorem dX4_scheduleRow_17 : decode cX4_scheduleRow 17 = .ok (.istore_n 3, 1) := by decide +kernel
theorem dX4_scheduleRow_18 : decode cX4_scheduleRow 18 = .ok (.aload_n 0, 1) := by decide +kernel
theorem dX4_scheduleRow_19 : decode cX4_scheduleRow 19 = .ok (.getfield 33, 3) := by decide +kernel
theorem dX4_scheduleRow_22 : decode cX4_scheduleRow 22 = .ok (.iload_n 1, 1) := by decide +kernel
theorem dX4_scheduleRow_23 : decode cX4_scheduleRow 23 = .ok (.iaload, 1) := by decide +kernel
theorem dX4_scheduleRow_24 : decode cX4_scheduleRow 24 = .ok (.aload_n 0, 1) := by decide +kernel
theorem dX4_scheduleRow_25 : decode cX4_scheduleRow 25 = .ok (.getfield 30, 3) := by decide +kernel
theorem dX4_scheduleRow_28 : decode cX4_scheduleRow 28 = .ok (.iload_n 1, 1) := by decide +kernel
theorem dX4_scheduleRow_29 : decode cX4_scheduleRow 29 = .ok (.iaload, 1) := by decide +kernel
theorem dX4_scheduleRow_30 : decode cX4_scheduleRow 30 = .ok (.if_icmp .ge 124, 3) := by decide +kernel
theorem dX4_scheduleRow_33 : decode cX4_scheduleRow 33 = .ok (.iload_n 2, 1) := by decide +kernel
theorem dX4_scheduleRow_34 : decode cX4_scheduleRow 34 = .ok (.aload_n 0, 1) := by decide +kernel
theorem dX4_scheduleRow_35 : decode cX4_scheduleRow 35 = .ok (.getfield 39, 3) := by decide +kernel
theorem dX4_scheduleRow_38 : decode cX4_scheduleRow 38 = .ok (.if_icmp .ge 116, 3) := by decide +kernel
theorem dX4_scheduleRow_41 : decode cX4_scheduleRow 41 = .ok (.aload_n 0, 1) := by decide +kernel
theorem dX4_scheduleRow_42 : decode cX4_scheduleRow 42 = .ok (.iload_n 1, 1) := by decide +kernel
theorem dX4_scheduleRow_43 : decode cX4_scheduleRow 43 = .ok (.aload_n 0, 1) := by decide +kernel
theorem dX4_scheduleRow_44 : decode cX4_scheduleRow 44 = .ok (.getfield 33, 3) := by decide +kernel
theorem dX4_scheduleRow_47 : decode cX4_scheduleRow 47 = .ok (.iload_n 1, 1) := by decide +kernel
theorem dX4_scheduleRow_48 : decode cX4_scheduleRow 48 = .ok (.iaload, 1) := by decide +kernel
theorem dX4_scheduleRow_49 : decode cX4_scheduleRow 49 = .ok (.invokevirtual 49, 3) := by decide +kernel
theorem dX4_scheduleRow_52 : decode cX4_scheduleRow 52 = .ok (.istore 4, 2) := by decide +kernel
theorem dX4_scheduleRow_54 : decode cX4_scheduleRow 54 = .ok (.aload_n 0, 1) := by decide +kernel
theorem dX4_scheduleRow_55 : decode cX4_scheduleRow 55 = .ok (.iload 4, 2) := by decide +kernel
theorem dX4_scheduleRow_57 : decode cX4_scheduleRow 57 = .ok (.invokevirtual 68, 3) := by decide +kernel
theorem dX4_scheduleRow_60 : decode cX4_scheduleRow 60 = .ok (.ifCond .eq 94, 3) := by decide +kernel
theorem dX4_scheduleRow_63 : decode cX4_scheduleRow 63 = .ok (.aload_n 0, 1) := by decide +kernel
theorem dX4_scheduleRow_64 : decode cX4_scheduleRow 64 = .ok (.aload_n 0, 1) := by decide +kernel
theorem dX4_scheduleRow_65 : decode cX4_scheduleRow 65 = .ok (.getfield 18, 3) := by decide +kernel
theorem dX4_scheduleRow_68 : decode cX4_scheduleRow 68 = .ok (.iload 4, 2) := by decide +kernel
theorem dX4_scheduleRow_70 : decode cX4_scheduleRow 70 = .ok (.iaload, 1) := by decide +kernel
theorem dX4_scheduleRow_71 : decode cX4_scheduleRow 71 = .ok (.invokevirtual 68, 3) := by decide +kernel
theorem dX4_scheduleRow_74 : decode cX4_scheduleRow 74 = .ok (.ifCond .eq 20, 3) := by decide +kernel
theorem dX4_scheduleRow_77 : decode cX4_scheduleRow 77 = .ok (.aload_n 0, 1) := by decide +kernel
theorem dX4_scheduleRow_78 : decode cX4_scheduleRow 78 = .ok (.aload_n 0, 1) := by decide +kernel
theorem dX4_scheduleRow_79 : decode cX4_scheduleRow 79 = .ok (.getfield 18, 3) := by decide +kernel
theorem dX4_scheduleRow_82 : decode cX4_scheduleRow 82 = .ok (.iload 4, 2) := by decide +kernel
theorem dX4_scheduleRow_84 : decode cX4_scheduleRow 84 = .ok (.iaload, 1) := by decide +kernel
theorem dX4_scheduleRow_85 : decode cX4_scheduleRow 85 = .ok (.invokevirtual 65, 3) := by decide +kernel
theorem dX4_scheduleRow_88 : decode cX4_scheduleRow 88 = .ok (.ifCond .ne 6, 3) := by decide +kernel
theorem dX4_scheduleRow_91 : decode cX4_scheduleRow 91 = .ok (.goto 63, 3) := by decide +kernel
theorem dX4_scheduleRow_94 : decode cX4_scheduleRow 94 = .ok (.aload_n 0, 1) := by decide +kernel
theorem dX4_scheduleRow_95 : decode cX4_scheduleRow 95 = .ok (.aload_n 0, 1) := by decide +kernel
theorem dX4_scheduleRow_96 : decode cX4_scheduleRow 96 = .ok (.getfield 18, 3) := by decide +kernel
theorem dX4_scheduleRow_99 : decode cX4_scheduleRow 99 = .ok (.iload 4, 2) := by decide +kernel
theorem dX4_scheduleRow_101 : decode cX4_scheduleRow 101 = .ok (.iaload, 1) := by decide +kernel
theorem dX4_scheduleRow_102 : decode cX4_scheduleRow 102 = .ok (.invokevirtual 65, 3) := by decide +kernel
theorem dX4_scheduleRow_105 : decode cX4_scheduleRow 105 = .ok (.istore 5, 2) := by decide +kernel
theorem dX4_scheduleRow_107 : decode cX4_scheduleRow 107 = .ok (.iload_n 3, 1) := by decide +kernel
theorem dX4_scheduleRow_108 : decode cX4_scheduleRow 108 = .ok (.iload 5, 2) := by decide +kernel
theorem dX4_scheduleRow_110 : decode cX4_scheduleRow 110 = .ok (.invokestatic 57, 3) := by decide +kernel
theorem dX4_scheduleRow_113 : decode cX4_scheduleRow 113 = .ok (.aload_n 0, 1) := by decide +kernel
theorem dX4_scheduleRow_114 : decode cX4_scheduleRow 114 = .ok (.getfield 15, 3) := by decide +kernel
theorem dX4_scheduleRow_117 : decode cX4_scheduleRow 117 = .ok (.iload 4, 2) := by decide +kernel
theorem dX4_scheduleRow_119 : decode cX4_scheduleRow 119 = .ok (.iaload, 1) := by decide +kernel
theorem dX4_scheduleRow_120 : decode cX4_scheduleRow 120 = .ok (.iadd, 1) := by decide +kernel
theorem dX4_scheduleRow_121 : decode cX4_scheduleRow 121 = .ok (.istore_n 3, 1) := by decide +kernel
theorem dX4_scheduleRow_122 : decode cX4_scheduleRow 122 = .ok (.aload_n 0, 1) := by decide +kernel
theorem dX4_scheduleRow_123 : decode cX4_scheduleRow 123 = .ok (.getfield 21, 3) := by decide +kernel
theorem dX4_scheduleRow_126 : decode cX4_scheduleRow 126 = .ok (.iload 4, 2) := by decide +kernel
theorem dX4_scheduleRow_128 : decode cX4_scheduleRow 128 = .ok (.iload_n 3, 1) := by decide +kernel
theorem dX4_scheduleRow_129 : decode cX4_scheduleRow 129 = .ok (.iastore, 1) := by decide +kernel
theorem dX4_scheduleRow_130 : decode cX4_scheduleRow 130 = .ok (.aload_n 0, 1) := by decide +kernel
theorem dX4_scheduleRow_131 : decode cX4_scheduleRow 131 = .ok (.getfield 24, 3) := by decide +kernel
theorem dX4_scheduleRow_134 : decode cX4_scheduleRow 134 = .ok (.iload_n 2, 1) := by decide +kernel
theorem dX4_scheduleRow_135 : decode cX4_scheduleRow 135 = .ok (.iload 4, 2) := by decide +kernel
theorem dX4_scheduleRow_137 : decode cX4_scheduleRow 137 = .ok (.iastore, 1) := by decide +kernel
theorem dX4_scheduleRow_138 : decode cX4_scheduleRow 138 = .ok (.iinc 2 1, 3) := by decide +kernel
theorem dX4_scheduleRow_141 : decode cX4_scheduleRow 141 = .ok (.aload_n 0, 1) := by decide +kernel
theorem dX4_scheduleRow_142 : decode cX4_scheduleRow 142 = .ok (.getfield 33, 3) := by decide +kernel
theorem dX4_scheduleRow_145 : decode cX4_scheduleRow 145 = .ok (.iload_n 1, 1) := by decide +kernel
theorem dX4_scheduleRow_146 : decode cX4_scheduleRow 146 = .ok (.dup2, 1) := by decide +kernel
theorem dX4_scheduleRow_147 : decode cX4_scheduleRow 147 = .ok (.iaload, 1) := by decide +kernel
theorem dX4_scheduleRow_148 : decode cX4_scheduleRow 148 = .ok (.iconst 1, 1) := by decide +kernel
theorem dX4_scheduleRow_149 : decode cX4_scheduleRow 149 = .ok (.iadd, 1) := by decide +kernel
theorem dX4_scheduleRow_150 : decode cX4_scheduleRow 150 = .ok (.iastore, 1) := by decide +kernel
theorem dX4_scheduleRow_151 : decode cX4_scheduleRow 151 = .ok (.goto (-133), 3) := by decide +kernel
theorem dX4_scheduleRow_154 : decode cX4_scheduleRow 154 = .ok (.iload_n 2, 1) := by decide +kernel
theorem dX4_scheduleRow_155 : decode cX4_scheduleRow 155 = .ok (.ireturn, 1) := by decide +kernel
theorem okX4_scheduleRow : CalOK yX4_scheduleRow cX4_scheduleRow 6 (some .int) 2 := ⟨wd_69, wd_324, by decide +kernel⟩
theorem ovX4_scheduleRow : VirOK yX4_scheduleRow := ⟨wd_323, wd_0⟩
def FX4_scheduleRow_94 (k18 : Int32 → Int32 → Int32 → Blk → Option (Int32 × Blk)) (l1 : Int32) (l2 : Int32) (l3 : Int32) (l4 : Int32) (B : Blk) : Option (Int32 × Blk) :=
  ld (B 5) 24 l4 fun v30 =>
  c1 (FX4_endOf B v30) fun r33 =>
  lt1 (if l3 < r33 then r33 else l3) fun x35 =>
  ld (B 4) 24 l4 fun v37 =>
  lt1 (x35 + v37) fun x40 =>
  stb B 6 24 l4 x40 fun B42 =>
  stb B42 7 24 l2 l4 fun B45 =>
  lt1 (l2 + (1 : Int32)) fun x48 =>
  ld (B45 10) 4 l1 fun v50 =>
  stb B45 10 4 l1 (v50 + (1 : Int32)) fun B53 =>
  k18 l1 x48 x40 B53
set_option maxRecDepth 100000 in
set_option maxHeartbeats 4000000 in
theorem wX4_scheduleRow_94 {E : WE} {V : VT} {A : Nat → Prop} {H0 : Heap} {M : Mem} {j : Nat} (hj : j < 11) (Cx : CX E RX4 cX4_scheduleRow 6 1 40) {r : Int32} {B' : Blk} (hret : RetI E V A H0 cX4_scheduleRow .int r (jb M j B')) {k18 : Int32 → Int32 → Int32 → Blk → Option (Int32 × Blk)} (hk18 : ∀ {H : Heap} {locs : List Loc} {ls : Array Slot} {B : Blk} {l1 : Int32} {l2 : Int32} {l3 : Int32}, Wd V A H0 (jb M j B) (eS E) H locs → lv_has ls 6 [(0, .ref (vA V j 1)), (1, .int l1), (2, .int l2), (3, .int l3)] → k18 l1 l2 l3 B = some (r, B') → Wq E H locs 18 ls []) {H : Heap} {locs : List Loc} {ls : Array Slot} {l1 : Int32} {l2 : Int32} {l3 : Int32} {l4 : Int32} {B : Blk} (hW : Wd V A H0 (jb M j B) (eS E) H locs) (hl : lv_has ls 6 [(0, .ref (vA V j 1)), (1, .int l1), (2, .int l2), (3, .int l3), (4, .int l4)]) (hF : FX4_scheduleRow_94 k18 l1 l2 l3 l4 B = some (r, B')) : Wq E H locs 94 ls [] := by
  unfold FX4_scheduleRow_94 at hF
  refine q_aload_n Cx dX4_scheduleRow_94 rfl (lv_at hl 0 rfl) ?_
  refine q_aload_n Cx dX4_scheduleRow_95 rfl (lv_at hl 0 rfl) ?_
  refine q_get (v := .ref (vA V j 5)) Cx hW (oP hj) ic4 3 (by decide) rfl wd_103 dX4_scheduleRow_96 ?_
  refine q_iload Cx dX4_scheduleRow_99 (lv_at hl 4 rfl) ?_
  obtain ⟨h31, v30, e32, hF⟩ := ld_some hF
  refine qb_iald Cx hW (ai_5 hj) h31 e32 dX4_scheduleRow_101 ?_
  obtain ⟨r33, e34, hF⟩ := c1_some hF
  refine q_callI (as := [.int v30]) (rest := []) Cx (kX4_endOf hj e34) okX4_endOf ovX4_endOf wd_329 ⟨rfl, rfl, by decide, by decide⟩ hW (oP hj) ic4 rfl hl.1 (Nat.le_of_ble_eq_true rfl) rfl dX4_scheduleRow_102 (fun H locs hW => ?_)
  refine q_istore (lv' := [(5, .int r33), (0, .ref (vA V j 1)), (1, .int l1), (2, .int l2), (3, .int l3), (4, .int l4)]) Cx dX4_scheduleRow_105 hl (by decide) rfl (fun ls hl => ?_)
  refine q_iload_n Cx dX4_scheduleRow_107 rfl (lv_at hl 4 rfl) ?_
  refine q_iload Cx dX4_scheduleRow_108 (lv_at hl 0 rfl) ?_
  obtain ⟨x35, e36, hF⟩ := lt1_some hF
  refine q_max Cx wd_334 wd_335 wd_75 wd_336 hl.1 (by decide) (Nat.le_of_ble_eq_true rfl) e36.symm dX4_scheduleRow_110 ?_
  refine q_aload_n Cx dX4_scheduleRow_113 rfl (lv_at hl 1 rfl) ?_
  refine q_get (v := .ref (vA V j 4)) Cx hW (oP hj) ic4 2 (by decide) rfl wd_101 dX4_scheduleRow_114 ?_
  refine q_iload Cx dX4_scheduleRow_117 (lv_at hl 5 rfl) ?_
  obtain ⟨h38, v37, e39, hF⟩ := ld_some hF
  refine qb_iald Cx hW (ai_4 hj) h38 e39 dX4_scheduleRow_119 ?_
  refine q_iadd Cx dX4_scheduleRow_120 ?_
  obtain ⟨x40, e41, hF⟩ := lt1_some hF
  refine q_topi e41 ?_
  refine q_istore_n (lv' := [(3, .int x40), (5, .int r33), (0, .ref (vA V j 1)), (1, .int l1), (2, .int l2), (4, .int l4)]) Cx dX4_scheduleRow_121 rfl hl (by decide) rfl (fun ls hl => ?_)
  refine q_aload_n Cx dX4_scheduleRow_122 rfl (lv_at hl 2 rfl) ?_
  refine q_get (v := .ref (vA V j 6)) Cx hW (oP hj) ic4 4 (by decide) rfl wd_105 dX4_scheduleRow_123 ?_
  refine q_iload Cx dX4_scheduleRow_126 (lv_at hl 5 rfl) ?_
  refine q_iload_n Cx dX4_scheduleRow_128 rfl (lv_at hl 0 rfl) ?_
  obtain ⟨h43, B42, e44, hF⟩ := stb_some hF
  refine qb_iast Cx hW (ai_6 hj) h43 e44 dX4_scheduleRow_129 (fun H locs hW => ?_)
  refine q_aload_n Cx dX4_scheduleRow_130 rfl (lv_at hl 2 rfl) ?_
  refine q_get (v := .ref (vA V j 7)) Cx hW (oP hj) ic4 5 (by decide) rfl wd_107 dX4_scheduleRow_131 ?_
  refine q_iload_n Cx dX4_scheduleRow_134 rfl (lv_at hl 4 rfl) ?_
  refine q_iload Cx dX4_scheduleRow_135 (lv_at hl 5 rfl) ?_
  obtain ⟨h46, B45, e47, hF⟩ := stb_some hF
  refine qb_iast Cx hW (ai_7 hj) h46 e47 dX4_scheduleRow_137 (fun H locs hW => ?_)
  obtain ⟨x48, e49, hF⟩ := lt1_some hF
  refine q_iinc (k := 4) (v := x48) (lv' := [(2, .int x48), (3, .int x40), (5, .int r33), (0, .ref (vA V j 1)), (1, .int l1), (4, .int l4)]) Cx dX4_scheduleRow_138 hl rfl e49.symm (by decide) rfl (fun ls hl => ?_)
  refine q_aload_n Cx dX4_scheduleRow_141 rfl (lv_at hl 3 rfl) ?_
  refine q_get (v := .ref (vA V j 10)) Cx hW (oP hj) ic4 8 (by decide) rfl wd_112 dX4_scheduleRow_142 ?_
  refine q_iload_n Cx dX4_scheduleRow_145 rfl (lv_at hl 4 rfl) ?_
  refine q_dup2 Cx dX4_scheduleRow_146 rfl rfl ?_
  obtain ⟨h51, v50, e52, hF⟩ := ld_some hF
  refine qb_iald Cx hW (ai_10 hj) h51 e52 dX4_scheduleRow_147 ?_
  refine q_iconst (v := (1 : Int32)) Cx dX4_scheduleRow_148 (by decide) ?_
  refine q_iadd Cx dX4_scheduleRow_149 ?_
  obtain ⟨h54, B53, e55, hF⟩ := stb_some hF
  refine qb_iast Cx hW (ai_10 hj) h54 e55 dX4_scheduleRow_150 (fun H locs hW => ?_)
  refine q_goto (tgt := 18) Cx dX4_scheduleRow_151 (by decide) ?_
  exact hk18 hW (lv_sub hl [3, 4, 0, 1] rfl) hF
def FX4_scheduleRow_18s (k18 : Int32 → Int32 → Int32 → Blk → Option (Int32 × Blk)) (l1 : Int32) (l2 : Int32) (l3 : Int32) (B : Blk) : Option (Int32 × Blk) :=
  ld (B 10) 4 l1 fun v8 =>
  ld (B 9) 4 l1 fun v11 =>
  if v11 ≤ v8 then
    some (l2, B)
  else
    if ((B 1) 0) ≤ l2 then
      some (l2, B)
    else
      ld (B 10) 4 l1 fun v16 =>
      c1 (FX4_inRow B l1 v16) fun r19 =>
      c1 (FX4_has B r19) fun r21 =>
      if r21 = 0 then
        some (l2, B)
      else
        ld (B 5) 24 r19 fun v24 =>
        c1 (FX4_has B v24) fun r27 =>
        if r27 = 0 then
          FX4_scheduleRow_94 k18 l1 l2 l3 r19 B
        else
          ld (B 5) 24 r19 fun v56 =>
          c1 (FX4_endOf B v56) fun r59 =>
          if r59 = 0 then
            some (l2, B)
          else
            FX4_scheduleRow_94 k18 l1 l2 l3 r19 B
set_option maxRecDepth 100000 in
set_option maxHeartbeats 4000000 in
theorem wX4_scheduleRow_18s {E : WE} {V : VT} {A : Nat → Prop} {H0 : Heap} {M : Mem} {j : Nat} (hj : j < 11) (Cx : CX E RX4 cX4_scheduleRow 6 1 40) {r : Int32} {B' : Blk} (hret : RetI E V A H0 cX4_scheduleRow .int r (jb M j B')) {k18 : Int32 → Int32 → Int32 → Blk → Option (Int32 × Blk)} (hk18 : ∀ {H : Heap} {locs : List Loc} {ls : Array Slot} {B : Blk} {l1 : Int32} {l2 : Int32} {l3 : Int32}, Wd V A H0 (jb M j B) (eS E) H locs → lv_has ls 6 [(0, .ref (vA V j 1)), (1, .int l1), (2, .int l2), (3, .int l3)] → k18 l1 l2 l3 B = some (r, B') → Wq E H locs 18 ls []) {H : Heap} {locs : List Loc} {ls : Array Slot} {l1 : Int32} {l2 : Int32} {l3 : Int32} {B : Blk} (hW : Wd V A H0 (jb M j B) (eS E) H locs) (hl : lv_has ls 6 [(0, .ref (vA V j 1)), (1, .int l1), (2, .int l2), (3, .int l3)]) (hF : FX4_scheduleRow_18s k18 l1 l2 l3 B = some (r, B')) : Wq E H locs 18 ls [] := by
  unfold FX4_scheduleRow_18s at hF
  refine q_aload_n Cx dX4_scheduleRow_18 rfl (lv_at hl 0 rfl) ?_
  refine q_get (v := .ref (vA V j 10)) Cx hW (oP hj) ic4 8 (by decide) rfl wd_112 dX4_scheduleRow_19 ?_
  refine q_iload_n Cx dX4_scheduleRow_22 rfl (lv_at hl 1 rfl) ?_
  obtain ⟨h9, v8, e10, hF⟩ := ld_some hF
  refine qb_iald Cx hW (ai_10 hj) h9 e10 dX4_scheduleRow_23 ?_
  refine q_aload_n Cx dX4_scheduleRow_24 rfl (lv_at hl 0 rfl) ?_
  refine q_get (v := .ref (vA V j 9)) Cx hW (oP hj) ic4 7 (by decide) rfl wd_110 dX4_scheduleRow_25 ?_
  refine q_iload_n Cx dX4_scheduleRow_28 rfl (lv_at hl 1 rfl) ?_
  obtain ⟨h12, v11, e13, hF⟩ := ld_some hF
  refine qb_iald Cx hW (ai_9 hj) h12 e13 dX4_scheduleRow_29 ?_
  refine q_icmp_ge (tgt := 154) Cx dX4_scheduleRow_30 (by decide) (fun c14 => ?_) (fun c14 => ?_)
  · have hF := (if_pos c14).symm.trans hF
    refine q_iload_n Cx dX4_scheduleRow_154 rfl (lv_at hl 2 rfl) ?_
    cases hF
    exact hret _ _ _ _ dX4_scheduleRow_155 (nI32 _) hW
  · have hF := (if_neg c14).symm.trans hF
    refine q_iload_n Cx dX4_scheduleRow_33 rfl (lv_at hl 2 rfl) ?_
    refine q_aload_n Cx dX4_scheduleRow_34 rfl (lv_at hl 0 rfl) ?_
    refine qb_get (v := .int ((B 1) 0)) Cx hW (oP hj) ic4 0 (by decide) rfl wd_96 dX4_scheduleRow_35 ?_
    refine q_icmp_ge (tgt := 154) Cx dX4_scheduleRow_38 (by decide) (fun c15 => ?_) (fun c15 => ?_)
    · have hF := (if_pos c15).symm.trans hF
      refine q_iload_n Cx dX4_scheduleRow_154 rfl (lv_at hl 2 rfl) ?_
      cases hF
      exact hret _ _ _ _ dX4_scheduleRow_155 (nI32 _) hW
    · have hF := (if_neg c15).symm.trans hF
      refine q_aload_n Cx dX4_scheduleRow_41 rfl (lv_at hl 0 rfl) ?_
      refine q_iload_n Cx dX4_scheduleRow_42 rfl (lv_at hl 1 rfl) ?_
      refine q_aload_n Cx dX4_scheduleRow_43 rfl (lv_at hl 0 rfl) ?_
      refine q_get (v := .ref (vA V j 10)) Cx hW (oP hj) ic4 8 (by decide) rfl wd_112 dX4_scheduleRow_44 ?_
      refine q_iload_n Cx dX4_scheduleRow_47 rfl (lv_at hl 1 rfl) ?_
      obtain ⟨h17, v16, e18, hF⟩ := ld_some hF
      refine qb_iald Cx hW (ai_10 hj) h17 e18 dX4_scheduleRow_48 ?_
      obtain ⟨r19, e20, hF⟩ := c1_some hF
      refine q_callI (as := [.int l1, .int v16]) (rest := []) Cx (kX4_inRow hj e20) okX4_inRow ovX4_inRow wd_325 ⟨rfl, rfl, by decide, by decide⟩ hW (oP hj) ic4 rfl hl.1 (Nat.le_of_ble_eq_true rfl) rfl dX4_scheduleRow_49 (fun H locs hW => ?_)
      refine q_istore (lv' := [(4, .int r19), (0, .ref (vA V j 1)), (1, .int l1), (2, .int l2), (3, .int l3)]) Cx dX4_scheduleRow_52 hl (by decide) rfl (fun ls hl => ?_)
      refine q_aload_n Cx dX4_scheduleRow_54 rfl (lv_at hl 1 rfl) ?_
      refine q_iload Cx dX4_scheduleRow_55 (lv_at hl 0 rfl) ?_
      obtain ⟨r21, e22, hF⟩ := c1_some hF
      refine q_callI (as := [.int r19]) (rest := []) Cx (kX4_has hj e22) okX4_has ovX4_has wd_333 ⟨rfl, rfl, by decide, by decide⟩ hW (oP hj) ic4 rfl hl.1 (Nat.le_of_ble_eq_true rfl) rfl dX4_scheduleRow_57 (fun H locs hW => ?_)
      refine q_if_eq (tgt := 154) Cx dX4_scheduleRow_60 (by decide) (fun c23 => ?_) (fun c23 => ?_)
      · have hF := (if_pos c23).symm.trans hF
        refine q_iload_n Cx dX4_scheduleRow_154 rfl (lv_at hl 3 rfl) ?_
        cases hF
        exact hret _ _ _ _ dX4_scheduleRow_155 (nI32 _) hW
      · have hF := (if_neg c23).symm.trans hF
        refine q_aload_n Cx dX4_scheduleRow_63 rfl (lv_at hl 1 rfl) ?_
        refine q_aload_n Cx dX4_scheduleRow_64 rfl (lv_at hl 1 rfl) ?_
        refine q_get (v := .ref (vA V j 5)) Cx hW (oP hj) ic4 3 (by decide) rfl wd_103 dX4_scheduleRow_65 ?_
        refine q_iload Cx dX4_scheduleRow_68 (lv_at hl 0 rfl) ?_
        obtain ⟨h25, v24, e26, hF⟩ := ld_some hF
        refine qb_iald Cx hW (ai_5 hj) h25 e26 dX4_scheduleRow_70 ?_
        obtain ⟨r27, e28, hF⟩ := c1_some hF
        refine q_callI (as := [.int v24]) (rest := []) Cx (kX4_has hj e28) okX4_has ovX4_has wd_333 ⟨rfl, rfl, by decide, by decide⟩ hW (oP hj) ic4 rfl hl.1 (Nat.le_of_ble_eq_true rfl) rfl dX4_scheduleRow_71 (fun H locs hW => ?_)
        refine q_if_eq (tgt := 94) Cx dX4_scheduleRow_74 (by decide) (fun c29 => ?_) (fun c29 => ?_)
        · have hF := (if_pos c29).symm.trans hF
          exact wX4_scheduleRow_94 hj Cx hret hk18 hW (lv_sub hl [1, 2, 3, 4, 0] rfl) hF
        · have hF := (if_neg c29).symm.trans hF
          refine q_aload_n Cx dX4_scheduleRow_77 rfl (lv_at hl 1 rfl) ?_
          refine q_aload_n Cx dX4_scheduleRow_78 rfl (lv_at hl 1 rfl) ?_
          refine q_get (v := .ref (vA V j 5)) Cx hW (oP hj) ic4 3 (by decide) rfl wd_103 dX4_scheduleRow_79 ?_
          refine q_iload Cx dX4_scheduleRow_82 (lv_at hl 0 rfl) ?_
          obtain ⟨h57, v56, e58, hF⟩ := ld_some hF
          refine qb_iald Cx hW (ai_5 hj) h57 e58 dX4_scheduleRow_84 ?_
          obtain ⟨r59, e60, hF⟩ := c1_some hF
          refine q_callI (as := [.int v56]) (rest := []) Cx (kX4_endOf hj e60) okX4_endOf ovX4_endOf wd_329 ⟨rfl, rfl, by decide, by decide⟩ hW (oP hj) ic4 rfl hl.1 (Nat.le_of_ble_eq_true rfl) rfl dX4_scheduleRow_85 (fun H locs hW => ?_)
          refine q_if_ne (tgt := 94) Cx dX4_scheduleRow_88 (by decide) (fun c61 => ?_) (fun c61 => ?_)
          · have hF := (if_neg c61).symm.trans hF
            exact wX4_scheduleRow_94 hj Cx hret hk18 hW (lv_sub hl [1, 2, 3, 4, 0] rfl) hF
          · have hF := (if_pos c61).symm.trans hF
            refine q_goto (tgt := 154) Cx dX4_scheduleRow_91 (by decide) ?_
            refine q_iload_n Cx dX4_scheduleRow_154 rfl (lv_at hl 3 rfl) ?_
            cases hF
            exact hret _ _ _ _ dX4_scheduleRow_155 (nI32 _) hW
def FX4_scheduleRow_18 : Nat → Int32 → Int32 → Int32 → Blk → Option (Int32 × Blk)
  | 0 => fun _ _ _ _ => none
  | n + 1 => FX4_scheduleRow_18s (FX4_scheduleRow_18 n)
set_option maxRecDepth 100000 in
theorem wX4_scheduleRow_18 {E : WE} {V : VT} {A : Nat → Prop} {H0 : Heap} {M : Mem} {j : Nat} (hj : j < 11) (Cx : CX E RX4 cX4_scheduleRow 6 1 40) {r : Int32} {B' : Blk} (hret : RetI E V A H0 cX4_scheduleRow .int r (jb M j B')) : ∀ (n : Nat) {H : Heap} {locs : List Loc} {ls : Array Slot} {l1 : Int32} {l2 : Int32} {l3 : Int32} {B : Blk}, Wd V A H0 (jb M j B) (eS E) H locs → lv_has ls 6 [(0, .ref (vA V j 1)), (1, .int l1), (2, .int l2), (3, .int l3)] → FX4_scheduleRow_18 n l1 l2 l3 B = some (r, B') → Wq E H locs 18 ls [] := by
  intro n
  induction n with
  | zero => intro _ _ _ _ _ _ _ hW hl hF; cases hF
  | succ n ih => intro _ _ _ _ _ _ _ hW hl hF; exact wX4_scheduleRow_18s hj Cx hret ih hW hl hF
def FX4_scheduleRow (B : Blk) (l1 : Int32) (l2 : Int32) : Option (Int32 × Blk) :=
  ld (B 10) 4 l1 fun v1 =>
  c1 (FX4_inRow B l1 (v1 - (1 : Int32))) fun r4 =>
  c1 (FX4_endOf B r4) fun r6 =>
  FX4_scheduleRow_18 fu l1 l2 r6 B
set_option maxRecDepth 100000 in
set_option maxHeartbeats 4000000 in
theorem wX4_scheduleRow {E : WE} {V : VT} {A : Nat → Prop} {H0 : Heap} {M : Mem} {j : Nat} (hj : j < 11) (Cx : CX E RX4 cX4_scheduleRow 6 1 40) {r : Int32} {B' : Blk} (hret : RetI E V A H0 cX4_scheduleRow .int r (jb M j B')) {H : Heap} {locs : List Loc} {ls : Array Slot} {l1 : Int32} {l2 : Int32} {B : Blk} (hW : Wd V A H0 (jb M j B) (eS E) H locs) (hl : lv_has ls 6 [(0, .ref (vA V j 1)), (1, .int l1), (2, .int l2)]) (hF : FX4_scheduleRow B l1 l2 = some (r, B')) : Wq E H locs 0 ls [] := by
  unfold FX4_scheduleRow at hF
  refine q_aload_n Cx dX4_scheduleRow_0 rfl (lv_at hl 0 rfl) ?_
  refine q_aload_n Cx dX4_scheduleRow_1 rfl (lv_at hl 0 rfl) ?_
  refine q_iload_n Cx dX4_scheduleRow_2 rfl (lv_at hl 1 rfl) ?_
  refine q_aload_n Cx dX4_scheduleRow_3 rfl (lv_at hl 0 rfl) ?_
  refine q_get (v := .ref (vA V j 10)) Cx hW (oP hj) ic4 8 (by decide) rfl wd_112 dX4_scheduleRow_4 ?_
  refine q_iload_n Cx dX4_scheduleRow_7 rfl (lv_at hl 1 rfl) ?_
  obtain ⟨h2, v1, e3, hF⟩ := ld_some hF
  refine qb_iald Cx hW (ai_10 hj) h2 e3 dX4_scheduleRow_8 ?_
  refine q_iconst (v := (1 : Int32)) Cx dX4_scheduleRow_9 (by decide) ?_
  refine q_isub Cx dX4_scheduleRow_10 ?_
  obtain ⟨r4, e5, hF⟩ := c1_some hF
  refine q_callI (as := [.int l1, .int (v1 - (1 : Int32))]) (rest := [.ref (vA V j 1)]) Cx (kX4_inRow hj e5) okX4_inRow ovX4_inRow wd_325 ⟨rfl, rfl, by decide, by decide⟩ hW (oP hj) ic4 rfl hl.1 (Nat.le_of_ble_eq_true rfl) rfl dX4_scheduleRow_11 (fun H locs hW => ?_)
  obtain ⟨r6, e7, hF⟩ := c1_some hF
  refine q_callI (as := [.int r4]) (rest := []) Cx (kX4_endOf hj e7) okX4_endOf ovX4_endOf wd_329 ⟨rfl, rfl, by decide, by decide⟩ hW (oP hj) ic4 rfl hl.1 (Nat.le_of_ble_eq_true rfl) rfl dX4_scheduleRow_14 (fun H locs hW => ?_)
  refine q_istore_n (lv' := [(3, .int r6), (0, .ref (vA V j 1)), (1, .int l1), (2, .int l2)]) Cx dX4_scheduleRow_17 rfl hl (by decide) rfl (fun ls hl => ?_)
  exact wX4_scheduleRow_18 hj Cx hret fu hW (lv_sub hl [1, 2, 3, 0] rfl) hF
set_option maxRecDepth 100000 in
theorem kX4_scheduleRow {l : Launch} {V : VT} {M : Mem} {j : Nat} (hj : j < 11) {B : Blk} {l1 : Int32} {l2 : Int32} {r : Int32} {B' : Blk} (hF : FX4_scheduleRow B l1 l2 = some (r, B')) : MetI l V yX4_scheduleRow cX4_scheduleRow 6 .int ({ frames := 1, cells := 0, slots := 0, locals := 40 } : Room) [.ref (vA V j 1), .int l1, .int l2] r (jb M j B) (jb M j B') := metI_of (by decide) (Nat.le_of_ble_eq_true rfl) (fun E H0 _ Cx hret H locs ls hW hl => wX4_scheduleRow hj Cx hret hW hl hF)
theorem dX4_schedule_0 : decode cX4_schedule 0 = .ok (.iconst 0, 1) := by decide +kernel
theorem dX4_schedule_1 : decode cX4_schedule 1 = .ok (.istore_n 1, 1) := by decide +kernel
theorem dX4_schedule_2 : decode cX4_schedule 2 = .ok (.iload_n 1, 1) := by decide +kernel
theorem dX4_schedule_3 : decode cX4_schedule 3 = .ok (.iconst 4, 1) := by decide +kernel
theorem dX4_schedule_4 : decode cX4_schedule 4 = .ok (.if_icmp .ge 16, 3) := by decide +kernel
theorem dX4_schedule_7 : decode cX4_schedule 7 = .ok (.aload_n 0, 1) := by decide +kernel
theorem dX4_schedule_8 : decode cX4_schedule 8 = .ok (.getfield 33, 3) := by decide +kernel
theorem dX4_schedule_11 : decode cX4_schedule 11 = .ok (.iload_n 1, 1) := by decide +kernel
theorem dX4_schedule_12 : decode cX4_schedule 12 = .ok (.iconst 0, 1) := by decide +kernel
theorem dX4_schedule_13 : decode cX4_schedule 13 = .ok (.iastore, 1) := by decide +kernel
theorem dX4_schedule_14 : decode cX4_schedule 14 = .ok (.iinc 1 1, 3) := by decide +kernel
theorem dX4_schedule_17 : decode cX4_schedule 17 = .ok (.goto (-15), 3) := by decide +kernel
theorem dX4_schedule_20 : decode cX4_schedule 20 = .ok (.iconst 0, 1) := by decide +kernel
theorem dX4_schedule_21 : decode cX4_schedule 21 = .ok (.istore_n 1, 1) := by decide +kernel
theorem dX4_schedule_22 : decode cX4_schedule 22 = .ok (.iload_n 1, 1) := by decide +kernel
theorem dX4_schedule_23 : decode cX4_schedule 23 = .ok (.aload_n 0, 1) := by decide +kernel
theorem dX4_schedule_24 : decode cX4_schedule 24 = .ok (.getfield 39, 3) := by decide +kernel
theorem dX4_schedule_27 : decode cX4_schedule 27 = .ok (.if_icmp .ge 16, 3) := by decide +kernel
theorem dX4_schedule_30 : decode cX4_schedule 30 = .ok (.aload_n 0, 1) := by decide +kernel
theorem dX4_schedule_31 : decode cX4_schedule 31 = .ok (.getfield 21, 3) := by decide +kernel
theorem dX4_schedule_34 : decode cX4_schedule 34 = .ok (.iload_n 1, 1) := by decide +kernel
theorem dX4_schedule_35 : decode cX4_schedule 35 = .ok (.iconst 0, 1) := by decide +kernel
theorem dX4_schedule_36 : decode cX4_schedule 36 = .ok (.iastore, 1) := by decide +kernel
theorem dX4_schedule_37 : decode cX4_schedule 37 = .ok (.iinc 1 1, 3) := by decide +kernel
theorem dX4_schedule_40 : decode cX4_schedule 40 = .ok (.goto (-18), 3) := by decide +kernel
theorem dX4_schedule_43 : decode cX4_schedule 43 = .ok (.iconst 0, 1) := by decide +kernel
theorem dX4_schedule_44 : decode cX4_schedule 44 = .ok (.istore_n 1, 1) := by decide +kernel
theorem dX4_schedule_45 : decode cX4_schedule 45 = .ok (.iconst 0, 1) := by decide +kernel
theorem dX4_schedule_46 : decode cX4_schedule 46 = .ok (.istore_n 2, 1) := by decide +kernel
theorem dX4_schedule_47 : decode cX4_schedule 47 = .ok (.iload_n 2, 1) := by decide +kernel
theorem dX4_schedule_48 : decode cX4_schedule 48 = .ok (.aload_n 0, 1) := by decide +kernel
theorem dX4_schedule_49 : decode cX4_schedule 49 = .ok (.getfield 39, 3) := by decide +kernel
theorem dX4_schedule_52 : decode cX4_schedule 52 = .ok (.if_icmp .ge 37, 3) := by decide +kernel
theorem dX4_schedule_55 : decode cX4_schedule 55 = .ok (.iload_n 1, 1) := by decide +kernel
theorem dX4_schedule_56 : decode cX4_schedule 56 = .ok (.aload_n 0, 1) := by decide +kernel
theorem dX4_schedule_57 : decode cX4_schedule 57 = .ok (.getfield 39, 3) := by decide +kernel
theorem dX4_schedule_60 : decode cX4_schedule 60 = .ok (.if_icmp .ge 29, 3) := by decide +kernel
theorem dX4_schedule_63 : decode cX4_schedule 63 = .ok (.iconst 0, 1) := by decide +kernel
theorem dX4_schedule_64 : decode cX4_schedule 64 = .ok (.istore_n 3, 1) := by decide +kernel
theorem dX4_schedule_65 : decode cX4_schedule 65 = .ok (.iload_n 3, 1) := by decide +kernel
theorem dX4_schedule_66 : decode cX4_schedule 66 = .ok (.iconst 4, 1) := by decide +kernel
theorem dX4_schedule_67 : decode cX4_schedule 67 = .ok (.if_icmp .ge 16, 3) := by decide +kernel
theorem dX4_schedule_70 : decode cX4_schedule 70 = .ok (.aload_n 0, 1) := by decide +kernel
theorem dX4_schedule_71 : decode cX4_schedule 71 = .ok (.iload_n 3, 1) := by decide +kernel
theorem dX4_schedule_72 : decode cX4_schedule 72 = .ok (.iload_n 1, 1) := by decide +kernel
theorem dX4_schedule_73 : decode cX4_schedule 73 = .ok (.invokevirtual 62, 3) := by decide +kernel
theorem dX4_schedule_76 : decode cX4_schedule 76 = .ok (.istore_n 1, 1) := by decide +kernel
theorem dX4_schedule_77 : decode cX4_schedule 77 = .ok (.iinc 3 1, 3) := by decide +kernel
theorem dX4_schedule_80 : decode cX4_schedule 80 = .ok (.goto (-15), 3) := by decide +kernel
theorem dX4_schedule_83 : decode cX4_schedule 83 = .ok (.iinc 2 1, 3) := by decide +kernel
theorem dX4_schedule_86 : decode cX4_schedule 86 = .ok (.goto (-39), 3) := by decide +kernel
theorem dX4_schedule_89 : decode cX4_schedule 89 = .ok (.iload_n 1, 1) := by decide +kernel
theorem dX4_schedule_90 : decode cX4_schedule 90 = .ok (.aload_n 0, 1) := by decide +kernel
theorem dX4_schedule_91 : decode cX4_schedule 91 = .ok (.getfield 39, 3) := by decide +kernel
theorem dX4_schedule_94 : decode cX4_schedule 94 = .ok (.if_icmp .ne 7, 3) := by decide +kernel
theorem dX4_schedule_97 : decode cX4_schedule 97 = .ok (.iconst 1, 1) := by decide +kernel
theorem dX4_schedule_98 : decode cX4_schedule 98 = .ok (.goto 4, 3) := by decide +kernel
theorem dX4_schedule_101 : decode cX4_schedule 101 = .ok (.iconst 0, 1) := by decide +kernel
theorem dX4_schedule_102 : decode cX4_schedule 102 = .ok (.ireturn, 1) := by decide +kernel
theorem okX4_schedule : CalOK yX4_schedule cX4_schedule 4 (some .boolean) 0 := ⟨wd_69, wd_320, by decide +kernel⟩
theorem ovX4_schedule : VirOK yX4_schedule := ⟨wd_318, wd_319⟩
def FX4_schedule_89 (l1 : Int32) (B : Blk) : Option (Int32 × Blk) :=
  if l1 = ((B 1) 0) then
    some ((1 : Int32), B)
  else
    some ((0 : Int32), B)
set_option maxRecDepth 100000 in
set_option maxHeartbeats 4000000 in
theorem wX4_schedule_89 {E : WE} {V : VT} {A : Nat → Prop} {H0 : Heap} {M : Mem} {j : Nat} (hj : j < 11) (Cx : CX E RX4 cX4_schedule 4 2 65) {r : Int32} {B' : Blk} (hret : RetI E V A H0 cX4_schedule .boolean r (jb M j B')) {H : Heap} {locs : List Loc} {ls : Array Slot} {l1 : Int32} {B : Blk} (hW : Wd V A H0 (jb M j B) (eS E) H locs) (hl : lv_has ls 4 [(0, .ref (vA V j 1)), (1, .int l1)]) (hF : FX4_schedule_89 l1 B = some (r, B')) : Wq E H locs 89 ls [] := by
  unfold FX4_schedule_89 at hF
  refine q_iload_n Cx dX4_schedule_89 rfl (lv_at hl 1 rfl) ?_
  refine q_aload_n Cx dX4_schedule_90 rfl (lv_at hl 0 rfl) ?_
  refine qb_get (v := .int ((B 1) 0)) Cx hW (oP hj) ic4 0 (by decide) rfl wd_96 dX4_schedule_91 ?_
  refine q_icmp_ne (tgt := 101) Cx dX4_schedule_94 (by decide) (fun c4 => ?_) (fun c4 => ?_)
  · have hF := (if_neg c4).symm.trans hF
    refine q_iconst (v := (0 : Int32)) Cx dX4_schedule_101 (by decide) ?_
    cases hF
    exact hret _ _ _ _ dX4_schedule_102 (by rfl) hW
  · have hF := (if_pos c4).symm.trans hF
    refine q_iconst (v := (1 : Int32)) Cx dX4_schedule_97 (by decide) ?_
    refine q_goto (tgt := 102) Cx dX4_schedule_98 (by decide) ?_
    cases hF
    exact hret _ _ _ _ dX4_schedule_102 (by rfl) hW
def FX4_schedule_65s (k47 : Int32 → Int32 → Blk → Option (Int32 × Blk)) (k65 : Int32 → Int32 → Int32 → Blk → Option (Int32 × Blk)) (l1 : Int32) (l2 : Int32) (l3 : Int32) (B : Blk) : Option (Int32 × Blk) :=
  if (4 : Int32) ≤ l3 then
    lt1 (l2 + (1 : Int32)) fun x7 =>
    k47 l1 x7 B
  else
    c2 (FX4_scheduleRow B l3 l1) fun r9 B11 =>
    lt1 (l3 + (1 : Int32)) fun x12 =>
    k65 r9 l2 x12 B11
set_option maxRecDepth 100000 in
set_option maxHeartbeats 4000000 in
theorem wX4_schedule_65s {E : WE} {V : VT} {A : Nat → Prop} {H0 : Heap} {M : Mem} {j : Nat} (hj : j < 11) (Cx : CX E RX4 cX4_schedule 4 2 65) {r : Int32} {B' : Blk} (hret : RetI E V A H0 cX4_schedule .boolean r (jb M j B')) {k47 : Int32 → Int32 → Blk → Option (Int32 × Blk)} (hk47 : ∀ {H : Heap} {locs : List Loc} {ls : Array Slot} {B : Blk} {l1 : Int32} {l2 : Int32}, Wd V A H0 (jb M j B) (eS E) H locs → lv_has ls 4 [(0, .ref (vA V j 1)), (1, .int l1), (2, .int l2)] → k47 l1 l2 B = some (r, B') → Wq E H locs 47 ls []) {k65 : Int32 → Int32 → Int32 → Blk → Option (Int32 × Blk)} (hk65 : ∀ {H : Heap} {locs : List Loc} {ls : Array Slot} {B : Blk} {l1 : Int32} {l2 : Int32} {l3 : Int32}, Wd V A H0 (jb M j B) (eS E) H locs → lv_has ls 4 [(0, .ref (vA V j 1)), (1, .int l1), (2, .int l2), (3, .int l3)] → k65 l1 l2 l3 B = some (r, B') → Wq E H locs 65 ls []) {H : Heap} {locs : List Loc} {ls : Array Slot} {l1 : Int32} {l2 : Int32} {l3 : Int32} {B : Blk} (hW : Wd V A H0 (jb M j B) (eS E) H locs) (hl : lv_has ls 4 [(0, .ref (vA V j 1)), (1, .int l1), (2, .int l2), (3, .int l3)]) (hF : FX4_schedule_65s k47 k65 l1 l2 l3 B = some (r, B')) : Wq E H locs 65 ls [] := by
  unfold FX4_schedule_65s at hF
  refine q_iload_n Cx dX4_schedule_65 rfl (lv_at hl 3 rfl) ?_
  refine q_iconst (v := (4 : Int32)) Cx dX4_schedule_66 (by decide) ?_
  refine q_icmp_ge (tgt := 83) Cx dX4_schedule_67 (by decide) (fun c6 => ?_) (fun c6 => ?_)
  · have hF := (if_pos c6).symm.trans hF
    obtain ⟨x7, e8, hF⟩ := lt1_some hF
    refine q_iinc (k := 2) (v := x7) (lv' := [(2, .int x7), (0, .ref (vA V j 1)), (1, .int l1), (3, .int l3)]) Cx dX4_schedule_83 hl rfl e8.symm (by decide) rfl (fun ls hl => ?_)
    refine q_goto (tgt := 47) Cx dX4_schedule_86 (by decide) ?_
    exact hk47 hW (lv_sub hl [1, 2, 0] rfl) hF
  · have hF := (if_neg c6).symm.trans hF
    refine q_aload_n Cx dX4_schedule_70 rfl (lv_at hl 0 rfl) ?_
    refine q_iload_n Cx dX4_schedule_71 rfl (lv_at hl 3 rfl) ?_
    refine q_iload_n Cx dX4_schedule_72 rfl (lv_at hl 1 rfl) ?_
    obtain ⟨r9, B11, e10, hF⟩ := c2_some hF
    refine q_callI (as := [.int l3, .int l1]) (rest := []) Cx (kX4_scheduleRow hj e10) okX4_scheduleRow ovX4_scheduleRow wd_321 ⟨rfl, rfl, by decide, by decide⟩ hW (oP hj) ic4 rfl hl.1 (Nat.le_of_ble_eq_true rfl) rfl dX4_schedule_73 (fun H locs hW => ?_)
    refine q_istore_n (lv' := [(1, .int r9), (0, .ref (vA V j 1)), (2, .int l2), (3, .int l3)]) Cx dX4_schedule_76 rfl hl (by decide) rfl (fun ls hl => ?_)
    obtain ⟨x12, e13, hF⟩ := lt1_some hF
    refine q_iinc (k := 3) (v := x12) (lv' := [(3, .int x12), (1, .int r9), (0, .ref (vA V j 1)), (2, .int l2)]) Cx dX4_schedule_77 hl rfl e13.symm (by decide) rfl (fun ls hl => ?_)
    refine q_goto (tgt := 65) Cx dX4_schedule_80 (by decide) ?_
    exact hk65 hW (lv_sub hl [2, 1, 3, 0] rfl) hF
def FX4_schedule_65 (k47 : Int32 → Int32 → Blk → Option (Int32 × Blk)) : Nat → Int32 → Int32 → Int32 → Blk → Option (Int32 × Blk)
  | 0 => fun _ _ _ _ => none
  | n + 1 => FX4_schedule_65s k47 (FX4_schedule_65 k47 n)
set_option maxRecDepth 100000 in
theorem wX4_schedule_65 {E : WE} {V : VT} {A : Nat → Prop} {H0 : Heap} {M : Mem} {j : Nat} (hj : j < 11) (Cx : CX E RX4 cX4_schedule 4 2 65) {r : Int32} {B' : Blk} (hret : RetI E V A H0 cX4_schedule .boolean r (jb M j B')) {k47 : Int32 → Int32 → Blk → Option (Int32 × Blk)} (hk47 : ∀ {H : Heap} {locs : List Loc} {ls : Array Slot} {B : Blk} {l1 : Int32} {l2 : Int32}, Wd V A H0 (jb M j B) (eS E) H locs → lv_has ls 4 [(0, .ref (vA V j 1)), (1, .int l1), (2, .int l2)] → k47 l1 l2 B = some (r, B') → Wq E H locs 47 ls []) : ∀ (n : Nat) {H : Heap} {locs : List Loc} {ls : Array Slot} {l1 : Int32} {l2 : Int32} {l3 : Int32} {B : Blk}, Wd V A H0 (jb M j B) (eS E) H locs → lv_has ls 4 [(0, .ref (vA V j 1)), (1, .int l1), (2, .int l2), (3, .int l3)] → FX4_schedule_65 k47 n l1 l2 l3 B = some (r, B') → Wq E H locs 65 ls [] := by
  intro n
  induction n with
  | zero => intro _ _ _ _ _ _ _ hW hl hF; cases hF
  | succ n ih => intro _ _ _ _ _ _ _ hW hl hF; exact wX4_schedule_65s hj Cx hret hk47 ih hW hl hF
def FX4_schedule_47s (k47 : Int32 → Int32 → Blk → Option (Int32 × Blk)) (l1 : Int32) (l2 : Int32) (B : Blk) : Option (Int32 × Blk) :=
  if ((B 1) 0) ≤ l2 then
    FX4_schedule_89 l1 B
  else
    if ((B 1) 0) ≤ l1 then
      FX4_schedule_89 l1 B
    else
      FX4_schedule_65 k47 fu l1 l2 (0 : Int32) B
set_option maxRecDepth 100000 in
set_option maxHeartbeats 4000000 in
theorem wX4_schedule_47s {E : WE} {V : VT} {A : Nat → Prop} {H0 : Heap} {M : Mem} {j : Nat} (hj : j < 11) (Cx : CX E RX4 cX4_schedule 4 2 65) {r : Int32} {B' : Blk} (hret : RetI E V A H0 cX4_schedule .boolean r (jb M j B')) {k47 : Int32 → Int32 → Blk → Option (Int32 × Blk)} (hk47 : ∀ {H : Heap} {locs : List Loc} {ls : Array Slot} {B : Blk} {l1 : Int32} {l2 : Int32}, Wd V A H0 (jb M j B) (eS E) H locs → lv_has ls 4 [(0, .ref (vA V j 1)), (1, .int l1), (2, .int l2)] → k47 l1 l2 B = some (r, B') → Wq E H locs 47 ls []) {H : Heap} {locs : List Loc} {ls : Array Slot} {l1 : Int32} {l2 : Int32} {B : Blk} (hW : Wd V A H0 (jb M j B) (eS E) H locs) (hl : lv_has ls 4 [(0, .ref (vA V j 1)), (1, .int l1), (2, .int l2)]) (hF : FX4_schedule_47s k47 l1 l2 B = some (r, B')) : Wq E H locs 47 ls [] := by
  unfold FX4_schedule_47s at hF
  refine q_iload_n Cx dX4_schedule_47 rfl (lv_at hl 2 rfl) ?_
  refine q_aload_n Cx dX4_schedule_48 rfl (lv_at hl 0 rfl) ?_
  refine qb_get (v := .int ((B 1) 0)) Cx hW (oP hj) ic4 0 (by decide) rfl wd_96 dX4_schedule_49 ?_
  refine q_icmp_ge (tgt := 89) Cx dX4_schedule_52 (by decide) (fun c3 => ?_) (fun c3 => ?_)
  · have hF := (if_pos c3).symm.trans hF
    exact wX4_schedule_89 hj Cx hret hW (lv_sub hl [0, 1] rfl) hF
  · have hF := (if_neg c3).symm.trans hF
    refine q_iload_n Cx dX4_schedule_55 rfl (lv_at hl 1 rfl) ?_
    refine q_aload_n Cx dX4_schedule_56 rfl (lv_at hl 0 rfl) ?_
    refine qb_get (v := .int ((B 1) 0)) Cx hW (oP hj) ic4 0 (by decide) rfl wd_96 dX4_schedule_57 ?_
    refine q_icmp_ge (tgt := 89) Cx dX4_schedule_60 (by decide) (fun c5 => ?_) (fun c5 => ?_)
    · have hF := (if_pos c5).symm.trans hF
      exact wX4_schedule_89 hj Cx hret hW (lv_sub hl [0, 1] rfl) hF
    · have hF := (if_neg c5).symm.trans hF
      refine q_iconst (v := (0 : Int32)) Cx dX4_schedule_63 (by decide) ?_
      refine q_istore_n (lv' := [(3, .int (0 : Int32)), (0, .ref (vA V j 1)), (1, .int l1), (2, .int l2)]) Cx dX4_schedule_64 rfl hl (by decide) rfl (fun ls hl => ?_)
      exact wX4_schedule_65 hj Cx hret hk47 fu hW (lv_sub hl [1, 2, 3, 0] rfl) hF
def FX4_schedule_47 : Nat → Int32 → Int32 → Blk → Option (Int32 × Blk)
  | 0 => fun _ _ _ => none
  | n + 1 => FX4_schedule_47s (FX4_schedule_47 n)
set_option maxRecDepth 100000 in
theorem wX4_schedule_47 {E : WE} {V : VT} {A : Nat → Prop} {H0 : Heap} {M : Mem} {j : Nat} (hj : j < 11) (Cx : CX E RX4 cX4_schedule 4 2 65) {r : Int32} {B' : Blk} (hret : RetI E V A H0 cX4_schedule .boolean r (jb M j B')) : ∀ (n : Nat) {H : Heap} {locs : List Loc} {ls : Array Slot} {l1 : Int32} {l2 : Int32} {B : Blk}, Wd V A H0 (jb M j B) (eS E) H locs → lv_has ls 4 [(0, .ref (vA V j 1)), (1, .int l1), (2, .int l2)] → FX4_schedule_47 n l1 l2 B = some (r, B') → Wq E H locs 47 ls [] := by
  intro n
  induction n with
  | zero => intro _ _ _ _ _ _ hW hl hF; cases hF
  | succ n ih => intro _ _ _ _ _ _ hW hl hF; exact wX4_schedule_47s hj Cx hret ih hW hl hF
def FX4_schedule_22s (k22 : Int32 → Blk → Option (Int32 × Blk)) (l1 : Int32) (B : Blk) : Option (Int32 × Blk) :=
  if ((B 1) 0) ≤ l1 then
    FX4_schedule_47 fu (0 : Int32) (0 : Int32) B
  else
    stb B 6 24 l1 (0 : Int32) fun B14 =>
    lt1 (l1 + (1 : Int32)) fun x17 =>
    k22 x17 B14
set_option maxRecDepth 100000 in
set_option maxHeartbeats 4000000 in
theorem wX4_schedule_22s {E : WE} {V : VT} {A : Nat → Prop} {H0 : Heap} {M : Mem} {j : Nat} (hj : j < 11) (Cx : CX E RX4 cX4_schedule 4 2 65) {r : Int32} {B' : Blk} (hret : RetI E V A H0 cX4_schedule .boolean r (jb M j B')) {k22 : Int32 → Blk → Option (Int32 × Blk)} (hk22 : ∀ {H : Heap} {locs : List Loc} {ls : Array Slot} {B : Blk} {l1 : Int32}, Wd V A H0 (jb M j B) (eS E) H locs → lv_has ls 4 [(0, .ref (vA V j 1)), (1, .int l1)] → k22 l1 B = some (r, B') → Wq E H locs 22 ls []) {H : Heap} {locs : List Loc} {ls : Array Slot} {l1 : Int32} {B : Blk} (hW : Wd V A H0 (jb M j B) (eS E) H locs) (hl : lv_has ls 4 [(0, .ref (vA V j 1)), (1, .int l1)]) (hF : FX4_schedule_22s k22 l1 B = some (r, B')) : Wq E H locs 22 ls [] := by
  unfold FX4_schedule_22s at hF
  refine q_iload_n Cx dX4_schedule_22 rfl (lv_at hl 1 rfl) ?_
  refine q_aload_n Cx dX4_schedule_23 rfl (lv_at hl 0 rfl) ?_
  refine qb_get (v := .int ((B 1) 0)) Cx hW (oP hj) ic4 0 (by decide) rfl wd_96 dX4_schedule_24 ?_
  refine q_icmp_ge (tgt := 43) Cx dX4_schedule_27 (by decide) (fun c2 => ?_) (fun c2 => ?_)
  · have hF := (if_pos c2).symm.trans hF
    refine q_iconst (v := (0 : Int32)) Cx dX4_schedule_43 (by decide) ?_
    refine q_istore_n (lv' := [(1, .int (0 : Int32)), (0, .ref (vA V j 1))]) Cx dX4_schedule_44 rfl hl (by decide) rfl (fun ls hl => ?_)
    refine q_iconst (v := (0 : Int32)) Cx dX4_schedule_45 (by decide) ?_
    refine q_istore_n (lv' := [(2, .int (0 : Int32)), (1, .int (0 : Int32)), (0, .ref (vA V j 1))]) Cx dX4_schedule_46 rfl hl (by decide) rfl (fun ls hl => ?_)
    exact wX4_schedule_47 hj Cx hret fu hW (lv_sub hl [2, 1, 0] rfl) hF
  · have hF := (if_neg c2).symm.trans hF
    refine q_aload_n Cx dX4_schedule_30 rfl (lv_at hl 0 rfl) ?_
    refine q_get (v := .ref (vA V j 6)) Cx hW (oP hj) ic4 4 (by decide) rfl wd_105 dX4_schedule_31 ?_
    refine q_iload_n Cx dX4_schedule_34 rfl (lv_at hl 1 rfl) ?_
    refine q_iconst (v := (0 : Int32)) Cx dX4_schedule_35 (by decide) ?_
    obtain ⟨h15, B14, e16, hF⟩ := stb_some hF
    refine qb_iast Cx hW (ai_6 hj) h15 e16 dX4_schedule_36 (fun H locs hW => ?_)
    obtain ⟨x17, e18, hF⟩ := lt1_some hF
    refine q_iinc (k := 1) (v := x17) (lv' := [(1, .int x17), (0, .ref (vA V j 1))]) Cx dX4_schedule_37 hl rfl e18.symm (by decide) rfl (fun ls hl => ?_)
    refine q_goto (tgt := 22) Cx dX4_schedule_40 (by decide) ?_
    exact hk22 hW (lv_sub hl [1, 0] rfl) hF
def FX4_schedule_22 : Nat → Int32 → Blk → Option (Int32 × Blk)
  | 0 => fun _ _ => none
  | n + 1 => FX4_schedule_22s (FX4_schedule_22 n)
set_option maxRecDepth 100000 in
theorem wX4_schedule_22 {E : WE} {V : VT} {A : Nat → Prop} {H0 : Heap} {M : Mem} {j : Nat} (hj : j < 11) (Cx : CX E RX4 cX4_schedule 4 2 65) {r : Int32} {B' : Blk} (hret : RetI E V A H0 cX4_schedule .boolean r (jb M j B')) : ∀ (n : Nat) {H : Heap} {locs : List Loc} {ls : Array Slot} {l1 : Int32} {B : Blk}, Wd V A H0 (jb M j B) (eS E) H locs → lv_has ls 4 [(0, .ref (vA V j 1)), (1, .int l1)] → FX4_schedule_22 n l1 B = some (r, B') → Wq E H locs 22 ls [] := by
  intro n
  induction n with
  | zero => intro _ _ _ _ _ hW hl hF; cases hF
  | succ n ih => intro _ _ _ _ _ hW hl hF; exact wX4_schedule_22s hj Cx hret ih hW hl hF
def FX4_schedule_2s (k2 : Int32 → Blk → Option (Int32 × Blk)) (l1 : Int32) (B : Blk) : Option (Int32 × Blk) :=
  if (4 : Int32) ≤ l1 then
    FX4_schedule_22 fu (0 : Int32) B
  else
    stb B 10 4 l1 (0 : Int32) fun B19 =>
    lt1 (l1 + (1 : Int32)) fun x22 =>
    k2 x22 B19
set_option maxRecDepth 100000 in
set_option maxHeartbeats 4000000 in
theorem wX4_schedule_2s {E : WE} {V : VT} {A : Nat → Prop} {H0 : Heap} {M : Mem} {j : Nat} (hj : j < 11) (Cx : CX E RX4 cX4_schedule 4 2 65) {r : Int32} {B' : Blk} (hret : RetI E V A H0 cX4_schedule .boolean r (jb M j B')) {k2 : Int32 → Blk → Option (Int32 × Blk)} (hk2 : ∀ {H : Heap} {locs : List Loc} {ls : Array Slot} {B : Blk} {l1 : Int32}, Wd V A H0 (jb M j B) (eS E) H locs → lv_has ls 4 [(0, .ref (vA V j 1)), (1, .int l1)] → k2 l1 B = some (r, B') → Wq E H locs 2 ls []) {H : Heap} {locs : List Loc} {ls : Array Slot} {l1 : Int32} {B : Blk} (hW : Wd V A H0 (jb M j B) (eS E) H locs) (hl : lv_has ls 4 [(0, .ref (vA V j 1)), (1, .int l1)]) (hF : FX4_schedule_2s k2 l1 B = some (r, B')) : Wq E H locs 2 ls [] := by
  unfold FX4_schedule_2s at hF
  refine q_iload_n Cx dX4_schedule_2 rfl (lv_at hl 1 rfl) ?_
  refine q_iconst (v := (4 : Int32)) Cx dX4_schedule_3 (by decide) ?_
  refine q_icmp_ge (tgt := 20) Cx dX4_schedule_4 (by decide) (fun c1 => ?_) (fun c1 => ?_)
  · have hF := (if_pos c1).symm.trans hF
    refine q_iconst (v := (0 : Int32)) Cx dX4_schedule_20 (by decide) ?_
    refine q_istore_n (lv' := [(1, .int (0 : Int32)), (0, .ref (vA V j 1))]) Cx dX4_schedule_21 rfl hl (by decide) rfl (fun ls hl => ?_)
    exact wX4_schedule_22 hj Cx hret fu hW (lv_sub hl [1, 0] rfl) hF
  · have hF := (if_neg c1).symm.trans hF
    refine q_aload_n Cx dX4_schedule_7 rfl (lv_at hl 0 rfl) ?_
    refine q_get (v := .ref (vA V j 10)) Cx hW (oP hj) ic4 8 (by decide) rfl wd_112 dX4_schedule_8 ?_
    refine q_iload_n Cx dX4_schedule_11 rfl (lv_at hl 1 rfl) ?_
    refine q_iconst (v := (0 : Int32)) Cx dX4_schedule_12 (by decide) ?_
    obtain ⟨h20, B19, e21, hF⟩ := stb_some hF
    refine qb_iast Cx hW (ai_10 hj) h20 e21 dX4_schedule_13 (fun H locs hW => ?_)
    obtain ⟨x22, e23, hF⟩ := lt1_some hF
    refine q_iinc (k := 1) (v := x22) (lv' := [(1, .int x22), (0, .ref (vA V j 1))]) Cx dX4_schedule_14 hl rfl e23.symm (by decide) rfl (fun ls hl => ?_)
    refine q_goto (tgt := 2) Cx dX4_schedule_17 (by decide) ?_
    exact hk2 hW (lv_sub hl [1, 0] rfl) hF
def FX4_schedule_2 : Nat → Int32 → Blk → Option (Int32 × Blk)
  | 0 => fun _ _ => none
  | n + 1 => FX4_schedule_2s (FX4_schedule_2 n)
set_option maxRecDepth 100000 in
theorem wX4_schedule_2 {E : WE} {V : VT} {A : Nat → Prop} {H0 : Heap} {M : Mem} {j : Nat} (hj : j < 11) (Cx : CX E RX4 cX4_schedule 4 2 65) {r : Int32} {B' : Blk} (hret : RetI E V A H0 cX4_schedule .boolean r (jb M j B')) : ∀ (n : Nat) {H : Heap} {locs : List Loc} {ls : Array Slot} {l1 : Int32} {B : Blk}, Wd V A H0 (jb M j B) (eS E) H locs → lv_has ls 4 [(0, .ref (vA V j 1)), (1, .int l1)] → FX4_schedule_2 n l1 B = some (r, B') → Wq E H locs 2 ls [] := by
  intro n
  induction n with
  | zero => intro _ _ _ _ _ hW hl hF; cases hF
  | succ n ih => intro _ _ _ _ _ hW hl hF; exact wX4_schedule_2s hj Cx hret ih hW hl hF
def FX4_schedule (B : Blk) : Option (Int32 × Blk) :=
  FX4_schedule_2 fu (0 : Int32) B
set_option maxRecDepth 100000 in
set_option maxHeartbeats 4000000 in
theorem wX4_schedule {E : WE} {V : VT} {A : Nat → Prop} {H0 : Heap} {M : Mem} {j : Nat} (hj : j < 11) (Cx : CX E RX4 cX4_schedule 4 2 65) {r : Int32} {B' : Blk} (hret : RetI E V A H0 cX4_schedule .boolean r (jb M j B')) {H : Heap} {locs : List Loc} {ls : Array Slot} {B : Blk} (hW : Wd V A H0 (jb M j B) (eS E) H locs) (hl : lv_has ls 4 [(0, .ref (vA V j 1))]) (hF : FX4_schedule B = some (r, B')) : Wq E H locs 0 ls [] := by
  unfold FX4_schedule at hF
  refine q_iconst (v := (0 : Int32)) Cx dX4_schedule_0 (by decide) ?_
  refine q_istore_n (lv' := [(1, .int (0 : Int32)), (0, .ref (vA V j 1))]) Cx dX4_schedule_1 rfl hl (by decide) rfl (fun ls hl => ?_)
  exact wX4_schedule_2 hj Cx hret fu hW (lv_sub hl [1, 0] rfl) hF
set_option maxRecDepth 100000 in
theorem kX4_schedule {l : Launch} {V : VT} {M : Mem} {j : Nat} (hj : j < 11) {B : Blk} {r : Int32} {B' : Blk} (hF : FX4_schedule B = some (r, B')) : MetI l V yX4_schedule cX4_schedule 4 .boolean ({ frames := 2, cells := 0, slots := 0, locals := 65 } : Room) [.ref (vA V j 1)] r (jb M j B) (jb M j B') := metI_of (by decide) (Nat.le_of_ble_eq_true rfl) (fun E H0 _ Cx hret H locs ls hW hl => wX4_schedule hj Cx hret hW hl hF)
theorem dX4_placeOf_0 : decode cX4_placeOf 0 = .ok (.aload_n 0, 1) := by decide +kernel
theorem dX4_placeOf_1 : decode cX4_placeOf 1 = .ok (.getfield 9, 3) := by decide +kernel
theorem dX4_placeOf_4 : decode cX4_placeOf 4 = .ok (.iload_n 1, 1) := by decide +kernel
theorem dX4_placeOf_5 : decode cX4_placeOf 5 = .ok (.iaload, 1) := by decide +kernel
theorem dX4_placeOf_6 : decode cX4_placeOf 6 = .ok (.istore_n 2, 1) := by decide +kernel
theorem dX4_placeOf_7 : decode cX4_placeOf 7 = .ok (.iconst 0, 1) := by decide +kernel
theorem dX4_placeOf_8 : decode cX4_placeOf 8 = .ok (.istore_n 3, 1) := by decide +kernel
theorem dX4_placeOf_9 : decode cX4_placeOf 9 = .ok (.iload_n 3, 1) := by decide +kernel
theorem dX4_placeOf_10 : decode cX4_placeOf 10 = .ok (.aload_n 0, 1) := by decide +kernel
theorem dX4_placeOf_11 : decode cX4_placeOf 11 = .ok (.getfield 30, 3) := by decide +kernel
theorem dX4_placeOf_14 : decode cX4_placeOf 14 = .ok (.iload_n 2, 1) := by decide +kernel
theorem dX4_placeOf_15 : decode cX4_placeOf 15 = .ok (.iaload, 1) := by decide +kernel
theorem dX4_placeOf_16 : decode cX4_placeOf 16 = .ok (.if_icmp .ge 21, 3) := by decide +kernel
theorem dX4_placeOf_19 : decode cX4_placeOf 19 = .ok (.aload_n 0, 1) := by decide +kernel
theorem dX4_placeOf_20 : decode cX4_placeOf 20 = .ok (.iload_n 2, 1) := by decide +kernel
theorem dX4_placeOf_21 : decode cX4_placeOf 21 = .ok (.iload_n 3, 1) := by decide +kernel
theorem dX4_placeOf_22 : decode cX4_placeOf 22 = .ok (.invokevirtual 49, 3) := by decide +kernel
theorem dX4_placeOf_25 : decode cX4_placeOf 25 = .ok (.iload_n 1, 1) := by decide +kernel
theorem dX4_placeOf_26 : decode cX4_placeOf 26 = .ok (.if_icmp .ne 5, 3) := by decide +kernel
theorem dX4_placeOf_29 : decode cX4_placeOf 29 = .ok (.iload_n 3, 1) := by decide +kernel
theorem dX4_placeOf_30 : decode cX4_placeOf 30 = .ok (.ireturn, 1) := by decide +kernel
theorem dX4_placeOf_31 : decode cX4_placeOf 31 = .ok (.iinc 3 1, 3) := by decide +kernel
theorem dX4_placeOf_34 : decode cX4_placeOf 34 = .ok (.goto (-25), 3) := by decide +kernel
theorem dX4_placeOf_37 : decode cX4_placeOf 37 = .ok (.bipush (-6), 2) := by decide +kernel
theorem dX4_placeOf_39 : decode cX4_placeOf 39 = .ok (.ireturn, 1) := by decide +kernel
theorem okX4_placeOf : CalOK yX4_placeOf cX4_placeOf 4 (some .int) 1 := ⟨wd_69, wd_356, by decide +kernel⟩
theorem ovX4_placeOf : VirOK yX4_placeOf := ⟨wd_354, wd_355⟩
def FX4_placeOf_9s (B : Blk) (k9 : Int32 → Int32 → Int32 → Option Int32) (l1 : Int32) (l2 : Int32) (l3 : Int32) : Option Int32 :=
  ld (B 9) 4 l2 fun v4 =>
  if v4 ≤ l3 then
    some (-6 : Int32)
  else
    c1 (FX4_inRow B l2 l3) fun r8 =>
    if r8 = l1 then
      some l3
    else
      lt1 (l3 + (1 : Int32)) fun x11 =>
      k9 l1 l2 x11
set_option maxRecDepth 100000 in
set_option maxHeartbeats 4000000 in
theorem wX4_placeOf_9s {E : WE} {V : VT} {A : Nat → Prop} {H0 : Heap} {M : Mem} {j : Nat} (hj : j < 11) (Cx : CX E RX4 cX4_placeOf 4 1 22) {r : Int32} {B : Blk} (hret : RetI E V A H0 cX4_placeOf .int r (jb M j B)) {k9 : Int32 → Int32 → Int32 → Option Int32} (hk9 : ∀ {H : Heap} {locs : List Loc} {ls : Array Slot} {l1 : Int32} {l2 : Int32} {l3 : Int32}, Wd V A H0 (jb M j B) (eS E) H locs → lv_has ls 4 [(0, .ref (vA V j 1)), (1, .int l1), (2, .int l2), (3, .int l3)] → k9 l1 l2 l3 = some r → Wq E H locs 9 ls []) {H : Heap} {locs : List Loc} {ls : Array Slot} {l1 : Int32} {l2 : Int32} {l3 : Int32} (hW : Wd V A H0 (jb M j B) (eS E) H locs) (hl : lv_has ls 4 [(0, .ref (vA V j 1)), (1, .int l1), (2, .int l2), (3, .int l3)]) (hF : FX4_placeOf_9s B k9 l1 l2 l3 = some r) : Wq E H locs 9 ls [] := by
  unfold FX4_placeOf_9s at hF
  refine q_iload_n Cx dX4_placeOf_9 rfl (lv_at hl 3 rfl) ?_
  refine q_aload_n Cx dX4_placeOf_10 rfl (lv_at hl 0 rfl) ?_
  refine q_get (v := .ref (vA V j 9)) Cx hW (oP hj) ic4 7 (by decide) rfl wd_110 dX4_placeOf_11 ?_
  refine q_iload_n Cx dX4_placeOf_14 rfl (lv_at hl 2 rfl) ?_
  obtain ⟨h5, v4, e6, hF⟩ := ld_some hF
  refine qb_iald Cx hW (ai_9 hj) h5 e6 dX4_placeOf_15 ?_
  refine q_icmp_ge (tgt := 37) Cx dX4_placeOf_16 (by decide) (fun c7 => ?_) (fun c7 => ?_)
  · have hF := (if_pos c7).symm.trans hF
    refine q_bipush (v := (-6 : Int32)) Cx dX4_placeOf_37 (by decide) ?_
    cases hF
    exact hret _ _ _ _ dX4_placeOf_39 (nI32 _) hW
  · have hF := (if_neg c7).symm.trans hF
    refine q_aload_n Cx dX4_placeOf_19 rfl (lv_at hl 0 rfl) ?_
    refine q_iload_n Cx dX4_placeOf_20 rfl (lv_at hl 2 rfl) ?_
    refine q_iload_n Cx dX4_placeOf_21 rfl (lv_at hl 3 rfl) ?_
    obtain ⟨r8, e9, hF⟩ := c1_some hF
    refine q_callI (as := [.int l2, .int l3]) (rest := []) Cx (kX4_inRow hj e9) okX4_inRow ovX4_inRow wd_325 ⟨rfl, rfl, by decide, by decide⟩ hW (oP hj) ic4 rfl hl.1 (Nat.le_of_ble_eq_true rfl) rfl dX4_placeOf_22 (fun H locs hW => ?_)
    refine q_iload_n Cx dX4_placeOf_25 rfl (lv_at hl 1 rfl) ?_
    refine q_icmp_ne (tgt := 31) Cx dX4_placeOf_26 (by decide) (fun c10 => ?_) (fun c10 => ?_)
    · have hF := (if_neg c10).symm.trans hF
      obtain ⟨x11, e12, hF⟩ := lt1_some hF
      refine q_iinc (k := 3) (v := x11) (lv' := [(3, .int x11), (0, .ref (vA V j 1)), (1, .int l1), (2, .int l2)]) Cx dX4_placeOf_31 hl rfl e12.symm (by decide) rfl (fun ls hl => ?_)
      refine q_goto (tgt := 9) Cx dX4_placeOf_34 (by decide) ?_
      exact hk9 hW (lv_sub hl [1, 2, 3, 0] rfl) hF
    · have hF := (if_pos c10).symm.trans hF
      refine q_iload_n Cx dX4_placeOf_29 rfl (lv_at hl 3 rfl) ?_
      cases hF
      exact hret _ _ _ _ dX4_placeOf_30 (nI32 _) hW
def FX4_placeOf_9 (B : Blk) : Nat → Int32 → Int32 → Int32 → Option Int32
  | 0 => fun _ _ _ => none
  | n + 1 => FX4_placeOf_9s B (FX4_placeOf_9 B n)
set_option maxRecDepth 100000 in
theorem wX4_placeOf_9 {E : WE} {V : VT} {A : Nat → Prop} {H0 : Heap} {M : Mem} {j : Nat} (hj : j < 11) (Cx : CX E RX4 cX4_placeOf 4 1 22) {r : Int32} {B : Blk} (hret : RetI E V A H0 cX4_placeOf .int r (jb M j B)) : ∀ (n : Nat) {H : Heap} {locs : List Loc} {ls : Array Slot} {l1 : Int32} {l2 : Int32} {l3 : Int32}, Wd V A H0 (jb M j B) (eS E) H locs → lv_has ls 4 [(0, .ref (vA V j 1)), (1, .int l1), (2, .int l2), (3, .int l3)] → FX4_placeOf_9 B n l1 l2 l3 = some r → Wq E H locs 9 ls [] := by
  intro n
  induction n with
  | zero => intro _ _ _ _ _ _ hW hl hF; cases hF
  | succ n ih => intro _ _ _ _ _ _ hW hl hF; exact wX4_placeOf_9s hj Cx hret ih hW hl hF
def FX4_placeOf (B : Blk) (l1 : Int32) : Option Int32 :=
  ld (B 3) 24 l1 fun v1 =>
  FX4_placeOf_9 B fu l1 v1 (0 : Int32)
set_option maxRecDepth 100000 in
set_option maxHeartbeats 4000000 in
theorem wX4_placeOf {E : WE} {V : VT} {A : Nat → Prop} {H0 : Heap} {M : Mem} {j : Nat} (hj : j < 11) (Cx : CX E RX4 cX4_placeOf 4 1 22) {r : Int32} {B : Blk} (hret : RetI E V A H0 cX4_placeOf .int r (jb M j B)) {H : Heap} {locs : List Loc} {ls : Array Slot} {l1 : Int32} (hW : Wd V A H0 (jb M j B) (eS E) H locs) (hl : lv_has ls 4 [(0, .ref (vA V j 1)), (1, .int l1)]) (hF : FX4_placeOf B l1 = some r) : Wq E H locs 0 ls [] := by
  unfold FX4_placeOf at hF
  refine q_aload_n Cx dX4_placeOf_0 rfl (lv_at hl 0 rfl) ?_
  refine q_get (v := .ref (vA V j 3)) Cx hW (oP hj) ic4 1 (by decide) rfl wd_99 dX4_placeOf_1 ?_
  refine q_iload_n Cx dX4_placeOf_4 rfl (lv_at hl 1 rfl) ?_
  obtain ⟨h2, v1, e3, hF⟩ := ld_some hF
  refine qb_iald Cx hW (ai_3 hj) h2 e3 dX4_placeOf_5 ?_
  refine q_istore_n (lv' := [(2, .int v1), (0, .ref (vA V j 1)), (1, .int l1)]) Cx dX4_placeOf_6 rfl hl (by decide) rfl (fun ls hl => ?_)
  refine q_iconst (v := (0 : Int32)) Cx dX4_placeOf_7 (by decide) ?_
  refine q_istore_n (lv' := [(3, .int (0 : Int32)), (2, .int v1), (0, .ref (vA V j 1)), (1, .int l1)]) Cx dX4_placeOf_8 rfl hl (by decide) rfl (fun ls hl => ?_)
  exact wX4_placeOf_9 hj Cx hret fu hW (lv_sub hl [2, 3, 1, 0] rfl) hF
set_option maxRecDepth 100000 in
theorem kX4_placeOf {l : Launch} {V : VT} {M : Mem} {j : Nat} (hj : j < 11) {B : Blk} {l1 : Int32} {r : Int32} (hF : FX4_placeOf B l1 = some r) : MetI l V yX4_placeOf cX4_placeOf 4 .int ({ frames := 1, cells := 0, slots := 0, locals := 22 } : Room) [.ref (vA V j 1), .int l1] r (jb M j B) (jb M j B) := metI_of (by decide) (Nat.le_of_ble_eq_true rfl) (fun E H0 _ Cx hret H locs ls hW hl => wX4_placeOf hj Cx hret hW hl hF)
theorem dX4_shift_0 : decode cX4_shift 0 = .ok (.aload_n 0, 1) := by decide +kernel
theorem dX4_shift_1 : decode cX4_shift 1 = .ok (.getfield 9, 3) := by decide +kernel
theorem dX4_shift_4 : decode cX4_shift 4 = .ok (.iload_n 1, 1) := by decide +kernel
theorem dX4_shift_5 : decode cX4_shift 5 = .ok (.iaload, 1) := by decide +kernel
theorem dX4_shift_6 : decode cX4_shift 6 = .ok (.bipush 24, 2) := by decide +kernel
theorem dX4_shift_8 : decode cX4_shift 8 = .ok (.imul, 1) := by decide +kernel
theorem dX4_shift_9 : decode cX4_shift 9 = .ok (.istore_n 3, 1) := by decide +kernel
theorem dX4_shift_10 : decode cX4_shift 10 = .ok (.aload_n 0, 1) := by decide +kernel
theorem dX4_shift_11 : decode cX4_shift 11 = .ok (.iload_n 1, 1) := by decide +kernel
theorem dX4_shift_12 : decode cX4_shift 12 = .ok (.invokevirtual 53, 3) := by decide +kernel
theorem dX4_shift_15 : decode cX4_shift 15 = .ok (.istore 4, 2) := by decide +kernel
theorem dX4_shift_17 : decode cX4_shift 17 = .ok (.iload 4, 2) := by decide +kernel
theorem dX4_shift_19 : decode cX4_shift 19 = .ok (.ifCond .lt 22, 3) := by decide +kernel
theorem dX4_shift_22 : decode cX4_shift 22 = .ok (.iload_n 2, 1) := by decide +kernel
theorem dX4_shift_23 : decode cX4_shift 23 = .ok (.ifCond .lt 18, 3) := by decide +kernel
theorem dX4_shift_26 : decode cX4_shift 26 = .ok (.iload_n 2, 1) := by decide +kernel
theorem dX4_shift_27 : decode cX4_shift 27 = .ok (.aload_n 0, 1) := by decide +kernel
theorem dX4_shift_28 : decode cX4_shift 28 = .ok (.getfield 30, 3) := by decide +kernel
theorem dX4_shift_31 : decode cX4_shift 31 = .ok (.aload_n 0, 1) := by decide +kernel
theorem dX4_shift_32 : decode cX4_shift 32 = .ok (.getfield 9, 3) := by decide +kernel
theorem dX4_shift_35 : decode cX4_shift 35 = .ok (.iload_n 1, 1) := by decide +kernel
theorem dX4_shift_36 : decode cX4_shift 36 = .ok (.iaload, 1) := by decide +kernel
theorem dX4_shift_37 : decode cX4_shift 37 = .ok (.iaload, 1) := by decide +kernel
theorem dX4_shift_38 : decode cX4_shift 38 = .ok (.if_icmp .lt 4, 3) := by decide +kernel
theorem dX4_shift_41 : decode cX4_shift 41 = .ok (.return_, 1) := by decide +kernel
theorem dX4_shift_42 : decode cX4_shift 42 = .ok (.iload 4, 2) := by decide +kernel
theorem dX4_shift_44 : decode cX4_shift 44 = .ok (.istore 5, 2) := by decide +kernel
theorem dX4_shift_46 : decode cX4_shift 46 = .ok (.iload 5, 2) := by decide +kernel
theorem dX4_shift_48 : decode cX4_shift 48 = .ok (.iload_n 2, 1) := by decide +kernel
theorem dX4_shift_49 : decode cX4_shift 49 = .ok (.if_icmp .ge 29, 3) := by decide +kernel
theorem dX4_shift_52 : decode cX4_shift 52 = .ok (.aload_n 0, 1) := by decide +kernel
theorem dX4_shift_53 : decode cX4_shift 53 = .ok (.getfield 27, 3) := by decide +kernel
theorem dX4_shift_56 : decode cX4_shift 56 = .ok (.iload_n 3, 1) := by decide +kernel
theorem dX4_shift_57 : decode cX4_shift 57 = .ok (.iload 5, 2) := by decide +kernel
theorem dX4_shift_59 : decode cX4_shift 59 = .ok (.iadd, 1) := by decide +kernel
theorem dX4_shift_60 : decode cX4_shift 60 = .ok (.aload_n 0, 1) := by decide +kernel
theorem dX4_shift_61 : decode cX4_shift 61 = .ok (.getfield 27, 3) := by decide +kernel
theorem dX4_shift_64 : decode cX4_shift 64 = .ok (.iload_n 3, 1) := by decide +kernel
theorem dX4_shift_65 : decode cX4_shift 65 = .ok (.iload 5, 2) := by decide +kernel
theorem dX4_shift_67 : decode cX4_shift 67 = .ok (.iadd, 1) := by decide +kernel
theorem dX4_shift_68 : decode cX4_shift 68 = .ok (.iconst 1, 1) := by decide +kernel
theorem dX4_shift_69 : decode cX4_shift 69 = .ok (.iadd, 1) := by decide +kernel
theorem dX4_shift_70 : decode cX4_shift 70 = .ok (.iaload, 1) := by decide +kernel
theorem dX4_shift_71 : decode cX4_shift 71 = .ok (.iastore, 1) := by decide +kernel
theorem dX4_shift_72 : decode cX4_shift 72 = .ok (.iinc 5 1, 3) := by decide +kernel
theorem dX4_shift_75 : decode cX4_shift 75 = .ok (.goto (-29), 3) := by decide +kernel
theorem dX4_shift_78 : decode cX4_shift 78 = .ok (.iload 4, 2) := by decide +kernel
theorem dX4_shift_80 : decode cX4_shift 80 = .ok (.istore 5, 2) := by decide +kernel
theorem dX4_shift_82 : decode cX4_shift 82 = .ok (.iload 5, 2) := by decide +kernel
theorem dX4_shift_84 : decode cX4_shift 84 = .ok (.iload_n 2, 1) := by decide +kernel
theorem dX4_shift_85 : decode cX4_shift 85 = .ok (.if_icmp .le 29, 3) := by decide +kernel
theorem dX4_shift_88 : decode cX4_shift 88 = .ok (.aload_n 0, 1) := by decide +kernel
theorem dX4_shift_89 : decode cX4_shift 89 = .ok (.getfield 27, 3) := by decide +kernel
theorem dX4_shift_92 : decode cX4_shift 92 = .ok (.iload_n 3, 1) := by decide +kernel
theorem dX4_shift_93 : decode cX4_shift 93 = .ok (.iload 5, 2) := by decide +kernel
theorem dX4_shift_95 : decode cX4_shift 95 = .ok (.iadd, 1) := by decide +kernel
theorem dX4_shift_96 : decode cX4_shift 96 = .ok (.aload_n 0, 1) := by decide +kernel
theorem dX4_shift_97 : decode cX4_shift 97 = .ok (.getfield 27, 3) := by decide +kernel
theorem dX4_shift_100 : decode cX4_shift 100 = .ok (.iload_n 3, 1) := by decide +kernel
theorem dX4_shift_101 : decode cX4_shift 101 = .ok (.iload 5, 2) := by decide +kernel
theorem dX4_shift_103 : decode cX4_shift 103 = .ok (.iadd, 1) := by decide +kernel
theorem dX4_shift_104 : decode cX4_shift 104 = .ok (.iconst 1, 1) := by decide +kernel
theorem dX4_shift_105 : decode cX4_shift 105 = .ok (.isub, 1) := by decide +kernel
theorem dX4_shift_106 : decode cX4_shift 106 = .ok (.iaload, 1) := by decide +kernel
theorem dX4_shift_107 : decode cX4_shift 107 = .ok (.iastore, 1) := by decide +kernel
theorem dX4_shift_108 : decode cX4_shift 108 = .ok (.iinc 5 (-1), 3) := by decide +kernel
theorem dX4_shift_111 : decode cX4_shift 111 = .ok (.goto (-29), 3) := by decide +kernel
theorem dX4_shift_114 : decode cX4_shift 114 = .ok (.aload_n 0, 1) := by decide +kernel
theorem dX4_shift_115 : decode cX4_shift 115 = .ok (.getfield 27, 3) := by decide +kernel
theorem dX4_shift_118 : decode cX4_shift 118 = .ok (.iload_n 3, 1) := by decide +kernel
theorem dX4_shift_119 : decode cX4_shift 119 = .ok (.iload_n 2, 1) := by decide +kernel
theorem dX4_shift_120 : decode cX4_shift 120 = .ok (.iadd, 1) := by decide +kernel
theorem dX4_shift_121 : decode cX4_shift 121 = .ok (.iload_n 1, 1) := by decide +kernel
theorem dX4_shift_122 : decode cX4_shift 122 = .ok (.iastore, 1) := by decide +kernel
theorem dX4_shift_123 : decode cX4_shift 123 = .ok (.return_, 1) := by decide +kernel
theorem okX4_shift : CalOK yX4_shift cX4_shift 6 (none) 2 := ⟨wd_69, wd_360, by decide +kernel⟩
theorem ovX4_shift : VirOK yX4_shift := ⟨wd_358, wd_359⟩
def FX4_shift_82s (k82 : Int32 → Int32 → Int32 → Int32 → Blk → Option Blk) (l1 : Int32) (l2 : Int32) (l3 : Int32) (l5 : Int32) (B : Blk) : Option Blk :=
  if l5 ≤ l2 then
    stb B 8 96 (l3 + l2) l1 fun B19 =>
    some B19
  else
    ld (B 8) 96 ((l3 + l5) - (1 : Int32)) fun v22 =>
    stb B 8 96 (l3 + l5) v22 fun B25 =>
    lt1 (l5 + (-1 : Int32)) fun x28 =>
    k82 l1 l2 l3 x28 B25
set_option maxRecDepth 100000 in
set_option maxHeartbeats 4000000 in
theorem wX4_shift_82s {E : WE} {V : VT} {A : Nat → Prop} {H0 : Heap} {M : Mem} {j : Nat} (hj : j < 11) (Cx : CX E RX4 cX4_shift 6 2 45) {B' : Blk} (hret : RetV E V A H0 cX4_shift (jb M j B')) {k82 : Int32 → Int32 → Int32 → Int32 → Blk → Option Blk} (hk82 : ∀ {H : Heap} {locs : List Loc} {ls : Array Slot} {B : Blk} {l1 : Int32} {l2 : Int32} {l3 : Int32} {l5 : Int32}, Wd V A H0 (jb M j B) (eS E) H locs → lv_has ls 6 [(0, .ref (vA V j 1)), (1, .int l1), (2, .int l2), (3, .int l3), (5, .int l5)] → k82 l1 l2 l3 l5 B = some B' → Wq E H locs 82 ls []) {H : Heap} {locs : List Loc} {ls : Array Slot} {l1 : Int32} {l2 : Int32} {l3 : Int32} {l5 : Int32} {B : Blk} (hW : Wd V A H0 (jb M j B) (eS E) H locs) (hl : lv_has ls 6 [(0, .ref (vA V j 1)), (1, .int l1), (2, .int l2), (3, .int l3), (5, .int l5)]) (hF : FX4_shift_82s k82 l1 l2 l3 l5 B = some B') : Wq E H locs 82 ls [] := by
  unfold FX4_shift_82s at hF
  refine q_iload Cx dX4_shift_82 (lv_at hl 4 rfl) ?_
  refine q_iload_n Cx dX4_shift_84 rfl (lv_at hl 2 rfl) ?_
  refine q_icmp_le (tgt := 114) Cx dX4_shift_85 (by decide) (fun c18 => ?_) (fun c18 => ?_)
  · have hF := (if_pos c18).symm.trans hF
    refine q_aload_n Cx dX4_shift_114 rfl (lv_at hl 0 rfl) ?_
    refine q_get (v := .ref (vA V j 8)) Cx hW (oP hj) ic4 6 (by decide) rfl wd_109 dX4_shift_115 ?_
    refine q_iload_n Cx dX4_shift_118 rfl (lv_at hl 3 rfl) ?_
    refine q_iload_n Cx dX4_shift_119 rfl (lv_at hl 2 rfl) ?_
    refine q_iadd Cx dX4_shift_120 ?_
    refine q_iload_n Cx dX4_shift_121 rfl (lv_at hl 1 rfl) ?_
    obtain ⟨h20, B19, e21, hF⟩ := stb_some hF
    refine qb_iast Cx hW (ai_8 hj) h20 e21 dX4_shift_122 (fun H locs hW => ?_)
    cases hF
    exact hret _ _ _ _ dX4_shift_123 hW
  · have hF := (if_neg c18).symm.trans hF
    refine q_aload_n Cx dX4_shift_88 rfl (lv_at hl 0 rfl) ?_
    refine q_get (v := .ref (vA V j 8)) Cx hW (oP hj) ic4 6 (by decide) rfl wd_109 dX4_shift_89 ?_
    refine q_iload_n Cx dX4_shift_92 rfl (lv_at hl 3 rfl) ?_
    refine q_iload Cx dX4_shift_93 (lv_at hl 4 rfl) ?_
    refine q_iadd Cx dX4_shift_95 ?_
    refine q_aload_n Cx dX4_shift_96 rfl (lv_at hl 0 rfl) ?_
    refine q_get (v := .ref (vA V j 8)) Cx hW (oP hj) ic4 6 (by decide) rfl wd_109 dX4_shift_97 ?_
    refine q_iload_n Cx dX4_shift_100 rfl (lv_at hl 3 rfl) ?_
    refine q_iload Cx dX4_shift_101 (lv_at hl 4 rfl) ?_
    refine q_iadd Cx dX4_shift_103 ?_
    refine q_iconst (v := (1 : Int32)) Cx dX4_shift_104 (by decide) ?_
    refine q_isub Cx dX4_shift_105 ?_
    obtain ⟨h23, v22, e24, hF⟩ := ld_some hF
    refine qb_iald Cx hW (ai_8 hj) h23 e24 dX4_shift_106 ?_
    obtain ⟨h26, B25, e27, hF⟩ := stb_some hF
    refine qb_iast Cx hW (ai_8 hj) h26 e27 dX4_shift_107 (fun H locs hW => ?_)
    obtain ⟨x28, e29, hF⟩ := lt1_some hF
    refine q_iinc (k := 4) (v := x28) (lv' := [(5, .int x28), (0, .ref (vA V j 1)), (1, .int l1), (2, .int l2), (3, .int l3)]) Cx dX4_shift_108 hl rfl e29.symm (by decide) rfl (fun ls hl => ?_)
    refine q_goto (tgt := 82) Cx dX4_shift_111 (by decide) ?_
    exact hk82 hW (lv_sub hl [1, 2, 3, 4, 0] rfl) hF
def FX4_shift_82 : Nat → Int32 → Int32 → Int32 → Int32 → Blk → Option Blk
  | 0 => fun _ _ _ _ _ => none
  | n + 1 => FX4_shift_82s (FX4_shift_82 n)
set_option maxRecDepth 100000 in
theorem wX4_shift_82 {E : WE} {V : VT} {A : Nat → Prop} {H0 : Heap} {M : Mem} {j : Nat} (hj : j < 11) (Cx : CX E RX4 cX4_shift 6 2 45) {B' : Blk} (hret : RetV E V A H0 cX4_shift (jb M j B')) : ∀ (n : Nat) {H : Heap} {locs : List Loc} {ls : Array Slot} {l1 : Int32} {l2 : Int32} {l3 : Int32} {l5 : Int32} {B : Blk}, Wd V A H0 (jb M j B) (eS E) H locs → lv_has ls 6 [(0, .ref (vA V j 1)), (1, .int l1), (2, .int l2), (3, .int l3), (5, .int l5)] → FX4_shift_82 n l1 l2 l3 l5 B = some B' → Wq E H locs 82 ls [] := by
  intro n
  induction n with
  | zero => intro _ _ _ _ _ _ _ _ hW hl hF; cases hF
  | succ n ih => intro _ _ _ _ _ _ _ _ hW hl hF; exact wX4_shift_82s hj Cx hret ih hW hl hF
def FX4_shift_46s (k46 : Int32 → Int32 → Int32 → Int32 → Int32 → Blk → Option Blk) (l1 : Int32) (l2 : Int32) (l3 : Int32) (l4 : Int32) (l5 : Int32) (B : Blk) : Option Blk :=
  if l2 ≤ l5 then
    FX4_shift_82 fu l1 l2 l3 l4 B
  else
    ld (B 8) 96 ((l3 + l5) + (1 : Int32)) fun v30 =>
    stb B 8 96 (l3 + l5) v30 fun B33 =>
    lt1 (l5 + (1 : Int32)) fun x36 =>
    k46 l1 l2 l3 l4 x36 B33
set_option maxRecDepth 100000 in
set_option maxHeartbeats 4000000 in
theorem wX4_shift_46s {E : WE} {V : VT} {A : Nat → Prop} {H0 : Heap} {M : Mem} {j : Nat} (hj : j < 11) (Cx : CX E RX4 cX4_shift 6 2 45) {B' : Blk} (hret : RetV E V A H0 cX4_shift (jb M j B')) {k46 : Int32 → Int32 → Int32 → Int32 → Int32 → Blk → Option Blk} (hk46 : ∀ {H : Heap} {locs : List Loc} {ls : Array Slot} {B : Blk} {l1 : Int32} {l2 : Int32} {l3 : Int32} {l4 : Int32} {l5 : Int32}, Wd V A H0 (jb M j B) (eS E) H locs → lv_has ls 6 [(0, .ref (vA V j 1)), (1, .int l1), (2, .int l2), (3, .int l3), (4, .int l4), (5, .int l5)] → k46 l1 l2 l3 l4 l5 B = some B' → Wq E H locs 46 ls []) {H : Heap} {locs : List Loc} {ls : Array Slot} {l1 : Int32} {l2 : Int32} {l3 : Int32} {l4 : Int32} {l5 : Int32} {B : Blk} (hW : Wd V A H0 (jb M j B) (eS E) H locs) (hl : lv_has ls 6 [(0, .ref (vA V j 1)), (1, .int l1), (2, .int l2), (3, .int l3), (4, .int l4), (5, .int l5)]) (hF : FX4_shift_46s k46 l1 l2 l3 l4 l5 B = some B') : Wq E H locs 46 ls [] := by
  unfold FX4_shift_46s at hF
  refine q_iload Cx dX4_shift_46 (lv_at hl 5 rfl) ?_
  refine q_iload_n Cx dX4_shift_48 rfl (lv_at hl 2 rfl) ?_
  refine q_icmp_ge (tgt := 78) Cx dX4_shift_49 (by decide) (fun c17 => ?_) (fun c17 => ?_)
  · have hF := (if_pos c17).symm.trans hF
    refine q_iload Cx dX4_shift_78 (lv_at hl 4 rfl) ?_
    refine q_istore (lv' := [(5, .int l4), (0, .ref (vA V j 1)), (1, .int l1), (2, .int l2), (3, .int l3), (4, .int l4)]) Cx dX4_shift_80 hl (by decide) rfl (fun ls hl => ?_)
    exact wX4_shift_82 hj Cx hret fu hW (lv_sub hl [1, 2, 3, 4, 0] rfl) hF
  · have hF := (if_neg c17).symm.trans hF
    refine q_aload_n Cx dX4_shift_52 rfl (lv_at hl 0 rfl) ?_
    refine q_get (v := .ref (vA V j 8)) Cx hW (oP hj) ic4 6 (by decide) rfl wd_109 dX4_shift_53 ?_
    refine q_iload_n Cx dX4_shift_56 rfl (lv_at hl 3 rfl) ?_
    refine q_iload Cx dX4_shift_57 (lv_at hl 5 rfl) ?_
    refine q_iadd Cx dX4_shift_59 ?_
    refine q_aload_n Cx dX4_shift_60 rfl (lv_at hl 0 rfl) ?_
    refine q_get (v := .ref (vA V j 8)) Cx hW (oP hj) ic4 6 (by decide) rfl wd_109 dX4_shift_61 ?_
    refine q_iload_n Cx dX4_shift_64 rfl (lv_at hl 3 rfl) ?_
    refine q_iload Cx dX4_shift_65 (lv_at hl 5 rfl) ?_
    refine q_iadd Cx dX4_shift_67 ?_
    refine q_iconst (v := (1 : Int32)) Cx dX4_shift_68 (by decide) ?_
    refine q_iadd Cx dX4_shift_69 ?_
    obtain ⟨h31, v30, e32, hF⟩ := ld_some hF
    refine qb_iald Cx hW (ai_8 hj) h31 e32 dX4_shift_70 ?_
    obtain ⟨h34, B33, e35, hF⟩ := stb_some hF
    refine qb_iast Cx hW (ai_8 hj) h34 e35 dX4_shift_71 (fun H locs hW => ?_)
    obtain ⟨x36, e37, hF⟩ := lt1_some hF
    refine q_iinc (k := 5) (v := x36) (lv' := [(5, .int x36), (0, .ref (vA V j 1)), (1, .int l1), (2, .int l2), (3, .int l3), (4, .int l4)]) Cx dX4_shift_72 hl rfl e37.symm (by decide) rfl (fun ls hl => ?_)
    refine q_goto (tgt := 46) Cx dX4_shift_75 (by decide) ?_
    exact hk46 hW (lv_sub hl [1, 2, 3, 4, 5, 0] rfl) hF
def FX4_shift_46 : Nat → Int32 → Int32 → Int32 → Int32 → Int32 → Blk → Option Blk
  | 0 => fun _ _ _ _ _ _ => none
  | n + 1 => FX4_shift_46s (FX4_shift_46 n)
set_option maxRecDepth 100000 in
theorem wX4_shift_46 {E : WE} {V : VT} {A : Nat → Prop} {H0 : Heap} {M : Mem} {j : Nat} (hj : j < 11) (Cx : CX E RX4 cX4_shift 6 2 45) {B' : Blk} (hret : RetV E V A H0 cX4_shift (jb M j B')) : ∀ (n : Nat) {H : Heap} {locs : List Loc} {ls : Array Slot} {l1 : Int32} {l2 : Int32} {l3 : Int32} {l4 : Int32} {l5 : Int32} {B : Blk}, Wd V A H0 (jb M j B) (eS E) H locs → lv_has ls 6 [(0, .ref (vA V j 1)), (1, .int l1), (2, .int l2), (3, .int l3), (4, .int l4), (5, .int l5)] → FX4_shift_46 n l1 l2 l3 l4 l5 B = some B' → Wq E H locs 46 ls [] := by
  intro n
  induction n with
  | zero => intro _ _ _ _ _ _ _ _ _ hW hl hF; cases hF
  | succ n ih => intro _ _ _ _ _ _ _ _ _ hW hl hF; exact wX4_shift_46s hj Cx hret ih hW hl hF
def FX4_shift (B : Blk) (l1 : Int32) (l2 : Int32) : Option Blk :=
  ld (B 3) 24 l1 fun v1 =>
  lt1 (v1 * (24 : Int32)) fun x4 =>
  c1 (FX4_placeOf B l1) fun r6 =>
  if r6 < 0 then
    some B
  else
    if l2 < 0 then
      some B
    else
      ld (B 3) 24 l1 fun v10 =>
      ld (B 9) 4 v10 fun v13 =>
      if l2 < v13 then
        FX4_shift_46 fu l1 l2 x4 r6 r6 B
      else
        some B
set_option maxRecDepth 100000 in
set_option maxHeartbeats 4000000 in
theorem wX4_shift {E : WE} {V : VT} {A : Nat → Prop} {H0 : Heap} {M : Mem} {j : Nat} (hj : j < 11) (Cx : CX E RX4 cX4_shift 6 2 45) {B' : Blk} (hret : RetV E V A H0 cX4_shift (jb M j B')) {H : Heap} {locs : List Loc} {ls : Array Slot} {l1 : Int32} {l2 : Int32} {B : Blk} (hW : Wd V A H0 (jb M j B) (eS E) H locs) (hl : lv_has ls 6 [(0, .ref (vA V j 1)), (1, .int l1), (2, .int l2)]) (hF : FX4_shift B l1 l2 = some B') : Wq E H locs 0 ls [] := by
  unfold FX4_shift at hF
  refine q_aload_n Cx dX4_shift_0 rfl (lv_at hl 0 rfl) ?_
  refine q_get (v := .ref (vA V j 3)) Cx hW (oP hj) ic4 1 (by decide) rfl wd_99 dX4_shift_1 ?_
  refine q_iload_n Cx dX4_shift_4 rfl (lv_at hl 1 rfl) ?_
  obtain ⟨h2, v1, e3, hF⟩ := ld_some hF
  refine qb_iald Cx hW (ai_3 hj) h2 e3 dX4_shift_5 ?_
  refine q_bipush (v := (24 : Int32)) Cx dX4_shift_6 (by decide) ?_
  refine q_imul Cx dX4_shift_8 ?_
  obtain ⟨x4, e5, hF⟩ := lt1_some hF
  refine q_topi e5 ?_
  refine q_istore_n (lv' := [(3, .int x4), (0, .ref (vA V j 1)), (1, .int l1), (2, .int l2)]) Cx dX4_shift_9 rfl hl (by decide) rfl (fun ls hl => ?_)
  refine q_aload_n Cx dX4_shift_10 rfl (lv_at hl 1 rfl) ?_
  refine q_iload_n Cx dX4_shift_11 rfl (lv_at hl 2 rfl) ?_
  obtain ⟨r6, e7, hF⟩ := c1_some hF
  refine q_callI (as := [.int l1]) (rest := []) Cx (kX4_placeOf hj e7) okX4_placeOf ovX4_placeOf wd_361 ⟨rfl, rfl, by decide, by decide⟩ hW (oP hj) ic4 rfl hl.1 (Nat.le_of_ble_eq_true rfl) rfl dX4_shift_12 (fun H locs hW => ?_)
  refine q_istore (lv' := [(4, .int r6), (3, .int x4), (0, .ref (vA V j 1)), (1, .int l1), (2, .int l2)]) Cx dX4_shift_15 hl (by decide) rfl (fun ls hl => ?_)
  refine q_iload Cx dX4_shift_17 (lv_at hl 0 rfl) ?_
  refine q_if_lt (tgt := 41) Cx dX4_shift_19 (by decide) (fun c8 => ?_) (fun c8 => ?_)
  · have hF := (if_pos c8).symm.trans hF
    cases hF
    exact hret _ _ _ _ dX4_shift_41 hW
  · have hF := (if_neg c8).symm.trans hF
    refine q_iload_n Cx dX4_shift_22 rfl (lv_at hl 4 rfl) ?_
    refine q_if_lt (tgt := 41) Cx dX4_shift_23 (by decide) (fun c9 => ?_) (fun c9 => ?_)
    · have hF := (if_pos c9).symm.trans hF
      cases hF
      exact hret _ _ _ _ dX4_shift_41 hW
    · have hF := (if_neg c9).symm.trans hF
      refine q_iload_n Cx dX4_shift_26 rfl (lv_at hl 4 rfl) ?_
      refine q_aload_n Cx dX4_shift_27 rfl (lv_at hl 2 rfl) ?_
      refine q_get (v := .ref (vA V j 9)) Cx hW (oP hj) ic4 7 (by decide) rfl wd_110 dX4_shift_28 ?_
      refine q_aload_n Cx dX4_shift_31 rfl (lv_at hl 2 rfl) ?_
      refine q_get (v := .ref (vA V j 3)) Cx hW (oP hj) ic4 1 (by decide) rfl wd_99 dX4_shift_32 ?_
      refine q_iload_n Cx dX4_shift_35 rfl (lv_at hl 3 rfl) ?_
      obtain ⟨h11, v10, e12, hF⟩ := ld_some hF
      refine qb_iald Cx hW (ai_3 hj) h11 e12 dX4_shift_36 ?_
      obtain ⟨h14, v13, e15, hF⟩ := ld_some hF
      refine qb_iald Cx hW (ai_9 hj) h14 e15 dX4_shift_37 ?_
      refine q_icmp_lt (tgt := 42) Cx dX4_shift_38 (by decide) (fun c16 => ?_) (fun c16 => ?_)
      · have hF := (if_pos c16).symm.trans hF
        refine q_iload Cx dX4_shift_42 (lv_at hl 0 rfl) ?_
        refine q_istore (lv' := [(5, .int r6), (4, .int r6), (3, .int x4), (0, .ref (vA V j 1)), (1, .int l1), (2, .int l2)]) Cx dX4_shift_44 hl (by decide) rfl (fun ls hl => ?_)
        exact wX4_shift_46 hj Cx hret fu hW (lv_sub hl [3, 4, 5, 2, 1, 0] rfl) hF
      · have hF := (if_neg c16).symm.trans hF
        cases hF
        exact hret _ _ _ _ dX4_shift_41 hW
set_option maxRecDepth 100000 in
theorem kX4_shift {l : Launch} {V : VT} {M : Mem} {j : Nat} (hj : j < 11) {B : Blk} {l1 : Int32} {l2 : Int32} {B' : Blk} (hF : FX4_shift B l1 l2 = some B') : MetV l V yX4_shift cX4_shift 6 ({ frames := 2, cells := 0, slots := 0, locals := 45 } : Room) [.ref (vA V j 1), .int l1, .int l2] (jb M j B) (jb M j B') := metV_of (by decide) (Nat.le_of_ble_eq_true rfl) (fun E H0 _ Cx hret H locs ls hW hl => wX4_shift hj Cx hret hW hl hF)
theorem dX4_linkFrom_0 : decode cX4_linkFrom 0 = .ok (.iconst 0, 1) := by decide +kernel
theorem dX4_linkFrom_1 : decode cX4_linkFrom 1 = .ok (.istore_n 2, 1) := by decide +kernel
theorem dX4_linkFrom_2 : decode cX4_linkFrom 2 = .ok (.iload_n 2, 1) := by decide +kernel
theorem dX4_linkFrom_3 : decode cX4_linkFrom 3 = .ok (.aload_n 0, 1) := by decide +kernel
theorem dX4_linkFrom_4 : decode cX4_linkFrom 4 = .ok (.getfield 39, 3) := by decide +kernel
theorem dX4_linkFrom_7 : decode cX4_linkFrom 7 = .ok (.if_icmp .ge 79, 3) := by decide +kernel
theorem dX4_linkFrom_10 : decode cX4_linkFrom 10 = .ok (.aload_n 0, 1) := by decide +kernel
theorem dX4_linkFrom_11 : decode cX4_linkFrom 11 = .ok (.getfield 9, 3) := by decide +kernel
theorem dX4_linkFrom_14 : decode cX4_linkFrom 14 = .ok (.iload_n 1, 1) := by decide +kernel
theorem dX4_linkFrom_15 : decode cX4_linkFrom 15 = .ok (.iaload, 1) := by decide +kernel
theorem dX4_linkFrom_16 : decode cX4_linkFrom 16 = .ok (.aload_n 0, 1) := by decide +kernel
theorem dX4_linkFrom_17 : decode cX4_linkFrom 17 = .ok (.getfield 9, 3) := by decide +kernel
theorem dX4_linkFrom_20 : decode cX4_linkFrom 20 = .ok (.iload_n 2, 1) := by decide +kernel
theorem dX4_linkFrom_21 : decode cX4_linkFrom 21 = .ok (.iaload, 1) := by decide +kernel
theorem dX4_linkFrom_22 : decode cX4_linkFrom 22 = .ok (.if_icmp .eq 23, 3) := by decide +kernel
theorem dX4_linkFrom_25 : decode cX4_linkFrom 25 = .ok (.aload_n 0, 1) := by decide +kernel
theorem dX4_linkFrom_26 : decode cX4_linkFrom 26 = .ok (.getfield 18, 3) := by decide +kernel
theorem dX4_linkFrom_29 : decode cX4_linkFrom 29 = .ok (.iload_n 1, 1) := by decide +kernel
theorem dX4_linkFrom_30 : decode cX4_linkFrom 30 = .ok (.iaload, 1) := by decide +kernel
theorem dX4_linkFrom_31 : decode cX4_linkFrom 31 = .ok (.iload_n 2, 1) := by decide +kernel
theorem dX4_linkFrom_32 : decode cX4_linkFrom 32 = .ok (.if_icmp .eq 13, 3) := by decide +kernel
theorem dX4_linkFrom_35 : decode cX4_linkFrom 35 = .ok (.aload_n 0, 1) := by decide +kernel
theorem dX4_linkFrom_36 : decode cX4_linkFrom 36 = .ok (.getfield 18, 3) := by decide +kernel
theorem dX4_linkFrom_39 : decode cX4_linkFrom 39 = .ok (.iload_n 2, 1) := by decide +kernel
theorem dX4_linkFrom_40 : decode cX4_linkFrom 40 = .ok (.iaload, 1) := by decide +kernel
theorem dX4_linkFrom_41 : decode cX4_linkFrom 41 = .ok (.iload_n 1, 1) := by decide +kernel
theorem dX4_linkFrom_42 : decode cX4_linkFrom 42 = .ok (.if_icmp .ne 7, 3) := by decide +kernel
theorem dX4_linkFrom_45 : decode cX4_linkFrom 45 = .ok (.iconst 1, 1) := by decide +kernel
theorem dX4_linkFrom_46 : decode cX4_linkFrom 46 = .ok (.goto 4, 3) := by decide +kernel
theorem dX4_linkFrom_49 : decode cX4_linkFrom 49 = .ok (.iconst 0, 1) := by decide +kernel
theorem dX4_linkFrom_50 : decode cX4_linkFrom 50 = .ok (.istore_n 3, 1) := by decide +kernel
theorem dX4_linkFrom_51 : decode cX4_linkFrom 51 = .ok (.iload_n 3, 1) := by decide +kernel
theorem dX4_linkFrom_52 : decode cX4_linkFrom 52 = .ok (.ifCond .eq 28, 3) := by decide +kernel
theorem dX4_linkFrom_55 : decode cX4_linkFrom 55 = .ok (.aload_n 0, 1) := by decide +kernel
theorem dX4_linkFrom_56 : decode cX4_linkFrom 56 = .ok (.getfield 36, 3) := by decide +kernel
theorem dX4_linkFrom_59 : decode cX4_linkFrom 59 = .ok (.iload_n 2, 1) := by decide +kernel
theorem dX4_linkFrom_60 : decode cX4_linkFrom 60 = .ok (.iaload, 1) := by decide +kernel
theorem dX4_linkFrom_61 : decode cX4_linkFrom 61 = .ok (.bipush (-6), 2) := by decide +kernel
theorem dX4_linkFrom_63 : decode cX4_linkFrom 63 = .ok (.if_icmp .ne 17, 3) := by decide +kernel
theorem dX4_linkFrom_66 : decode cX4_linkFrom 66 = .ok (.aload_n 0, 1) := by decide +kernel
theorem dX4_linkFrom_67 : decode cX4_linkFrom 67 = .ok (.getfield 36, 3) := by decide +kernel
theorem dX4_linkFrom_70 : decode cX4_linkFrom 70 = .ok (.iload_n 2, 1) := by decide +kernel
theorem dX4_linkFrom_71 : decode cX4_linkFrom 71 = .ok (.aload_n 0, 1) := by decide +kernel
theorem dX4_linkFrom_72 : decode cX4_linkFrom 72 = .ok (.getfield 36, 3) := by decide +kernel
theorem dX4_linkFrom_75 : decode cX4_linkFrom 75 = .ok (.iload_n 1, 1) := by decide +kernel
theorem dX4_linkFrom_76 : decode cX4_linkFrom 76 = .ok (.iaload, 1) := by decide +kernel
theorem dX4_linkFrom_77 : decode cX4_linkFrom 77 = .ok (.iconst 1, 1) := by decide +kernel
theorem dX4_linkFrom_78 : decode cX4_linkFrom 78 = .ok (.iadd, 1) := by decide +kernel
theorem dX4_linkFrom_79 : decode cX4_linkFrom 79 = .ok (.iastore, 1) := by decide +kernel
theorem dX4_linkFrom_80 : decode cX4_linkFrom 80 = .ok (.iinc 2 1, 3) := by decide +kernel
theorem dX4_linkFrom_83 : decode cX4_linkFrom 83 = .ok (.goto (-81), 3) := by decide +kernel
theorem dX4_linkFrom_86 : decode cX4_linkFrom 86 = .ok (.return_, 1) := by decide +kernel
theorem okX4_linkFrom : CalOK yX4_linkFrom cX4_linkFrom 4 (none) 1 := ⟨wd_69, wd_402, by decide +kernel⟩
theorem ovX4_linkFrom : VirOK yX4_linkFrom := ⟨wd_401, wd_3⟩
def FX4_linkFrom_50 (k2 : Int32 → Int32 → Blk → Option Blk) (l1 : Int32) (l2 : Int32) (s0 : Int32) (B : Blk) : Option Blk :=
  if s0 = 0 then
    lt1 (l2 + (1 : Int32)) fun x10 =>
    k2 l1 x10 B
  else
    ld (B 11) 24 l2 fun v12 =>
    if v12 = (-6 : Int32) then
      ld (B 11) 24 l1 fun v18 =>
      stb B 11 24 l2 (v18 + (1 : Int32)) fun B21 =>
      lt1 (l2 + (1 : Int32)) fun x24 =>
      k2 l1 x24 B21
    else
      lt1 (l2 + (1 : Int32)) fun x16 =>
      k2 l1 x16 B
set_option maxRecDepth 100000 in
set_option maxHeartbeats 4000000 in
theorem wX4_linkFrom_50 {E : WE} {V : VT} {A : Nat → Prop} {H0 : Heap} {M : Mem} {j : Nat} (hj : j < 11) (Cx : CX E RX4 cX4_linkFrom 4 0 0) {B' : Blk} (hret : RetV E V A H0 cX4_linkFrom (jb M j B')) {k2 : Int32 → Int32 → Blk → Option Blk} (hk2 : ∀ {H : Heap} {locs : List Loc} {ls : Array Slot} {B : Blk} {l1 : Int32} {l2 : Int32}, Wd V A H0 (jb M j B) (eS E) H locs → lv_has ls 4 [(0, .ref (vA V j 1)), (1, .int l1), (2, .int l2)] → k2 l1 l2 B = some B' → Wq E H locs 2 ls []) {H : Heap} {locs : List Loc} {ls : Array Slot} {l1 : Int32} {l2 : Int32} {s0 : Int32} {B : Blk} (hW : Wd V A H0 (jb M j B) (eS E) H locs) (hl : lv_has ls 4 [(0, .ref (vA V j 1)), (1, .int l1), (2, .int l2)]) (hF : FX4_linkFrom_50 k2 l1 l2 s0 B = some B') : Wq E H locs 50 ls [.int s0] := by
  unfold FX4_linkFrom_50 at hF
  refine q_istore_n (lv' := [(3, .int s0), (0, .ref (vA V j 1)), (1, .int l1), (2, .int l2)]) Cx dX4_linkFrom_50 rfl hl (by decide) rfl (fun ls hl => ?_)
  refine q_iload_n Cx dX4_linkFrom_51 rfl (lv_at hl 0 rfl) ?_
  refine q_if_eq (tgt := 80) Cx dX4_linkFrom_52 (by decide) (fun c9 => ?_) (fun c9 => ?_)
  · have hF := (if_pos c9).symm.trans hF
    obtain ⟨x10, e11, hF⟩ := lt1_some hF
    refine q_iinc (k := 3) (v := x10) (lv' := [(2, .int x10), (3, .int s0), (0, .ref (vA V j 1)), (1, .int l1)]) Cx dX4_linkFrom_80 hl rfl e11.symm (by decide) rfl (fun ls hl => ?_)
    refine q_goto (tgt := 2) Cx dX4_linkFrom_83 (by decide) ?_
    exact hk2 hW (lv_sub hl [2, 3, 0] rfl) hF
  · have hF := (if_neg c9).symm.trans hF
    refine q_aload_n Cx dX4_linkFrom_55 rfl (lv_at hl 1 rfl) ?_
    refine q_get (v := .ref (vA V j 11)) Cx hW (oP hj) ic4 9 (by decide) rfl wd_113 dX4_linkFrom_56 ?_
    refine q_iload_n Cx dX4_linkFrom_59 rfl (lv_at hl 3 rfl) ?_
    obtain ⟨h13, v12, e14, hF⟩ := ld_some hF
    refine qb_iald Cx hW (ai_11 hj) h13 e14 dX4_linkFrom_60 ?_
    refine q_bipush (v := (-6 : Int32)) Cx dX4_linkFrom_61 (by decide) ?_
    refine q_icmp_ne (tgt := 80) Cx dX4_linkFrom_63 (by decide) (fun c15 => ?_) (fun c15 => ?_)
    · have hF := (if_neg c15).symm.trans hF
      obtain ⟨x16, e17, hF⟩ := lt1_some hF
      refine q_iinc (k := 3) (v := x16) (lv' := [(2, .int x16), (3, .int s0), (0, .ref (vA V j 1)), (1, .int l1)]) Cx dX4_linkFrom_80 hl rfl e17.symm (by decide) rfl (fun ls hl => ?_)
      refine q_goto (tgt := 2) Cx dX4_linkFrom_83 (by decide) ?_
      exact hk2 hW (lv_sub hl [2, 3, 0] rfl) hF
    · have hF := (if_pos c15).symm.trans hF
      refine q_aload_n Cx dX4_linkFrom_66 rfl (lv_at hl 1 rfl) ?_
      refine q_get (v := .ref (vA V j 11)) Cx hW (oP hj) ic4 9 (by decide) rfl wd_113 dX4_linkFrom_67 ?_
      refine q_iload_n Cx dX4_linkFrom_70 rfl (lv_at hl 3 rfl) ?_
      refine q_aload_n Cx dX4_linkFrom_71 rfl (lv_at hl 1 rfl) ?_
      refine q_get (v := .ref (vA V j 11)) Cx hW (oP hj) ic4 9 (by decide) rfl wd_113 dX4_linkFrom_72 ?_
      refine q_iload_n Cx dX4_linkFrom_75 rfl (lv_at hl 2 rfl) ?_
      obtain ⟨h19, v18, e20, hF⟩ := ld_some hF
      refine qb_iald Cx hW (ai_11 hj) h19 e20 dX4_linkFrom_76 ?_
      refine q_iconst (v := (1 : Int32)) Cx dX4_linkFrom_77 (by decide) ?_
      refine q_iadd Cx dX4_linkFrom_78 ?_
      obtain ⟨h22, B21, e23, hF⟩ := stb_some hF
      refine qb_iast Cx hW (ai_11 hj) h22 e23 dX4_linkFrom_79 (fun H locs hW => ?_)
      obtain ⟨x24, e25, hF⟩ := lt1_some hF
      refine q_iinc (k := 3) (v := x24) (lv' := [(2, .int x24), (3, .int s0), (0, .ref (vA V j 1)), (1, .int l1)]) Cx dX4_linkFrom_80 hl rfl e25.symm (by decide) rfl (fun ls hl => ?_)
      refine q_goto (tgt := 2) Cx dX4_linkFrom_83 (by decide) ?_
      exact hk2 hW (lv_sub hl [2, 3, 0] rfl) hF
def FX4_linkFrom_45 (k2 : Int32 → Int32 → Blk → Option Blk) (l1 : Int32) (l2 : Int32) (B : Blk) : Option Blk :=
  FX4_linkFrom_50 k2 l1 l2 (1 : Int32) B
set_option maxRecDepth 100000 in
set_option maxHeartbeats 4000000 in
theorem wX4_linkFrom_45 {E : WE} {V : VT} {A : Nat → Prop} {H0 : Heap} {M : Mem} {j : Nat} (hj : j < 11) (Cx : CX E RX4 cX4_linkFrom 4 0 0) {B' : Blk} (hret : RetV E V A H0 cX4_linkFrom (jb M j B')) {k2 : Int32 → Int32 → Blk → Option Blk} (hk2 : ∀ {H : Heap} {locs : List Loc} {ls : Array Slot} {B : Blk} {l1 : Int32} {l2 : Int32}, Wd V A H0 (jb M j B) (eS E) H locs → lv_has ls 4 [(0, .ref (vA V j 1)), (1, .int l1), (2, .int l2)] → k2 l1 l2 B = some B' → Wq E H locs 2 ls []) {H : Heap} {locs : List Loc} {ls : Array Slot} {l1 : Int32} {l2 : Int32} {B : Blk} (hW : Wd V A H0 (jb M j B) (eS E) H locs) (hl : lv_has ls 4 [(0, .ref (vA V j 1)), (1, .int l1), (2, .int l2)]) (hF : FX4_linkFrom_45 k2 l1 l2 B = some B') : Wq E H locs 45 ls [] := by
  unfold FX4_linkFrom_45 at hF
  refine q_iconst (v := (1 : Int32)) Cx dX4_linkFrom_45 (by decide) ?_
  refine q_goto (tgt := 50) Cx dX4_linkFrom_46 (by decide) ?_
  exact wX4_linkFrom_50 hj Cx hret hk2 hW (lv_sub hl [0, 1, 2] rfl) hF
def FX4_linkFrom_2s (k2 : Int32 → Int32 → Blk → Option Blk) (l1 : Int32) (l2 : Int32) (B : Blk) : Option Blk :=
  if ((B 1) 0) ≤ l2 then
    some B
  else
    ld (B 3) 24 l1 fun v2 =>
    ld (B 3) 24 l2 fun v5 =>
    if v2 = v5 then
      FX4_linkFrom_45 k2 l1 l2 B
    else
      ld (B 5) 24 l1 fun v26 =>
      if v26 = l2 then
        FX4_linkFrom_45 k2 l1 l2 B
      else
        ld (B 5) 24 l2 fun v30 =>
        if v30 = l1 then
          FX4_linkFrom_45 k2 l1 l2 B
        else
          FX4_linkFrom_50 k2 l1 l2 (0 : Int32) B
set_option maxRecDepth 100000 in
set_option maxHeartbeats 4000000 in
theorem wX4_linkFrom_2s {E : WE} {V : VT} {A : Nat → Prop} {H0 : Heap} {M : Mem} {j : Nat} (hj : j < 11) (Cx : CX E RX4 cX4_linkFrom 4 0 0) {B' : Blk} (hret : RetV E V A H0 cX4_linkFrom (jb M j B')) {k2 : Int32 → Int32 → Blk → Option Blk} (hk2 : ∀ {H : Heap} {locs : List Loc} {ls : Array Slot} {B : Blk} {l1 : Int32} {l2 : Int32}, Wd V A H0 (jb M j B) (eS E) H locs → lv_has ls 4 [(0, .ref (vA V j 1)), (1, .int l1), (2, .int l2)] → k2 l1 l2 B = some B' → Wq E H locs 2 ls []) {H : Heap} {locs : List Loc} {ls : Array Slot} {l1 : Int32} {l2 : Int32} {B : Blk} (hW : Wd V A H0 (jb M j B) (eS E) H locs) (hl : lv_has ls 4 [(0, .ref (vA V j 1)), (1, .int l1), (2, .int l2)]) (hF : FX4_linkFrom_2s k2 l1 l2 B = some B') : Wq E H locs 2 ls [] := by
  unfold FX4_linkFrom_2s at hF
  refine q_iload_n Cx dX4_linkFrom_2 rfl (lv_at hl 2 rfl) ?_
  refine q_aload_n Cx dX4_linkFrom_3 rfl (lv_at hl 0 rfl) ?_
  refine qb_get (v := .int ((B 1) 0)) Cx hW (oP hj) ic4 0 (by decide) rfl wd_96 dX4_linkFrom_4 ?_
  refine q_icmp_ge (tgt := 86) Cx dX4_linkFrom_7 (by decide) (fun c1 => ?_) (fun c1 => ?_)
  · have hF := (if_pos c1).symm.trans hF
    cases hF
    exact hret _ _ _ _ dX4_linkFrom_86 hW
  · have hF := (if_neg c1).symm.trans hF
    refine q_aload_n Cx dX4_linkFrom_10 rfl (lv_at hl 0 rfl) ?_
    refine q_get (v := .ref (vA V j 3)) Cx hW (oP hj) ic4 1 (by decide) rfl wd_99 dX4_linkFrom_11 ?_
    refine q_iload_n Cx dX4_linkFrom_14 rfl (lv_at hl 1 rfl) ?_
    obtain ⟨h3, v2, e4, hF⟩ := ld_some hF
    refine qb_iald Cx hW (ai_3 hj) h3 e4 dX4_linkFrom_15 ?_
    refine q_aload_n Cx dX4_linkFrom_16 rfl (lv_at hl 0 rfl) ?_
    refine q_get (v := .ref (vA V j 3)) Cx hW (oP hj) ic4 1 (by decide) rfl wd_99 dX4_linkFrom_17 ?_
    refine q_iload_n Cx dX4_linkFrom_20 rfl (lv_at hl 2 rfl) ?_
    obtain ⟨h6, v5, e7, hF⟩ := ld_some hF
    refine qb_iald Cx hW (ai_3 hj) h6 e7 dX4_linkFrom_21 ?_
    refine q_icmp_eq (tgt := 45) Cx dX4_linkFrom_22 (by decide) (fun c8 => ?_) (fun c8 => ?_)
    · have hF := (if_pos c8).symm.trans hF
      exact wX4_linkFrom_45 hj Cx hret hk2 hW (lv_sub hl [0, 1, 2] rfl) hF
    · have hF := (if_neg c8).symm.trans hF
      refine q_aload_n Cx dX4_linkFrom_25 rfl (lv_at hl 0 rfl) ?_
      refine q_get (v := .ref (vA V j 5)) Cx hW (oP hj) ic4 3 (by decide) rfl wd_103 dX4_linkFrom_26 ?_
      refine q_iload_n Cx dX4_linkFrom_29 rfl (lv_at hl 1 rfl) ?_
      obtain ⟨h27, v26, e28, hF⟩ := ld_some hF
      refine qb_iald Cx hW (ai_5 hj) h27 e28 dX4_linkFrom_30 ?_
      refine q_iload_n Cx dX4_linkFrom_31 rfl (lv_at hl 2 rfl) ?_
      refine q_icmp_eq (tgt := 45) Cx dX4_linkFrom_32 (by decide) (fun c29 => ?_) (fun c29 => ?_)
      · have hF := (if_pos c29).symm.trans hF
        exact wX4_linkFrom_45 hj Cx hret hk2 hW (lv_sub hl [0, 1, 2] rfl) hF
      · have hF := (if_neg c29).symm.trans hF
        refine q_aload_n Cx dX4_linkFrom_35 rfl (lv_at hl 0 rfl) ?_
        refine q_get (v := .ref (vA V j 5)) Cx hW (oP hj) ic4 3 (by decide) rfl wd_103 dX4_linkFrom_36 ?_
        refine q_iload_n Cx dX4_linkFrom_39 rfl (lv_at hl 2 rfl) ?_
        obtain ⟨h31, v30, e32, hF⟩ := ld_some hF
        refine qb_iald Cx hW (ai_5 hj) h31 e32 dX4_linkFrom_40 ?_
        refine q_iload_n Cx dX4_linkFrom_41 rfl (lv_at hl 1 rfl) ?_
        refine q_icmp_ne (tgt := 49) Cx dX4_linkFrom_42 (by decide) (fun c33 => ?_) (fun c33 => ?_)
        · have hF := (if_neg c33).symm.trans hF
          refine q_iconst (v := (0 : Int32)) Cx dX4_linkFrom_49 (by decide) ?_
          exact wX4_linkFrom_50 hj Cx hret hk2 hW (lv_sub hl [0, 1, 2] rfl) hF
        · have hF := (if_pos c33).symm.trans hF
          exact wX4_linkFrom_45 hj Cx hret hk2 hW (lv_sub hl [0, 1, 2] rfl) hF
def FX4_linkFrom_2 : Nat → Int32 → Int32 → Blk → Option Blk
  | 0 => fun _ _ _ => none
  | n + 1 => FX4_linkFrom_2s (FX4_linkFrom_2 n)
set_option maxRecDepth 100000 in
theorem wX4_linkFrom_2 {E : WE} {V : VT} {A : Nat → Prop} {H0 : Heap} {M : Mem} {j : Nat} (hj : j < 11) (Cx : CX E RX4 cX4_linkFrom 4 0 0) {B' : Blk} (hret : RetV E V A H0 cX4_linkFrom (jb M j B')) : ∀ (n : Nat) {H : Heap} {locs : List Loc} {ls : Array Slot} {l1 : Int32} {l2 : Int32} {B : Blk}, Wd V A H0 (jb M j B) (eS E) H locs → lv_has ls 4 [(0, .ref (vA V j 1)), (1, .int l1), (2, .int l2)] → FX4_linkFrom_2 n l1 l2 B = some B' → Wq E H locs 2 ls [] := by
  intro n
  induction n with
  | zero => intro _ _ _ _ _ _ hW hl hF; cases hF
  | succ n ih => intro _ _ _ _ _ _ hW hl hF; exact wX4_linkFrom_2s hj Cx hret ih hW hl hF
def FX4_linkFrom (B : Blk) (l1 : Int32) : Option Blk :=
  FX4_linkFrom_2 fu l1 (0 : Int32) B
set_option maxRecDepth 100000 in
set_option maxHeartbeats 4000000 in
theorem wX4_linkFrom {E : WE} {V : VT} {A : Nat → Prop} {H0 : Heap} {M : Mem} {j : Nat} (hj : j < 11) (Cx : CX E RX4 cX4_linkFrom 4 0 0) {B' : Blk} (hret : RetV E V A H0 cX4_linkFrom (jb M j B')) {H : Heap} {locs : List Loc} {ls : Array Slot} {l1 : Int32} {B : Blk} (hW : Wd V A H0 (jb M j B) (eS E) H locs) (hl : lv_has ls 4 [(0, .ref (vA V j 1)), (1, .int l1)]) (hF : FX4_linkFrom B l1 = some B') : Wq E H locs 0 ls [] := by
  unfold FX4_linkFrom at hF
  refine q_iconst (v := (0 : Int32)) Cx dX4_linkFrom_0 (by decide) ?_
  refine q_istore_n (lv' := [(2, .int (0 : Int32)), (0, .ref (vA V j 1)), (1, .int l1)]) Cx dX4_linkFrom_1 rfl hl (by decide) rfl (fun ls hl => ?_)
  exact wX4_linkFrom_2 hj Cx hret fu hW (lv_sub hl [1, 2, 0] rfl) hF
set_option maxRecDepth 100000 in
theorem kX4_linkFrom {l : Launch} {V : VT} {M : Mem} {j : Nat} (hj : j < 11) {B : Blk} {l1 : Int32} {B' : Blk} (hF : FX4_linkFrom B l1 = some B') : MetV l V yX4_linkFrom cX4_linkFrom 4 ({ frames := 0, cells := 0, slots := 0, locals := 0 } : Room) [.ref (vA V j 1), .int l1] (jb M j B) (jb M j B') := metV_of (by decide) (Nat.le_of_ble_eq_true rfl) (fun E H0 _ Cx hret H locs ls hW hl => wX4_linkFrom hj Cx hret hW hl hF)
theorem dX4_measureFrom_0 : decode cX4_measureFrom 0 = .ok (.iconst 0, 1) := by decide +kernel
theorem dX4_measureFrom_1 : decode cX4_measureFrom 1 = .ok (.istore_n 2, 1) := by decide +kernel
theorem dX4_measureFrom_2 : decode cX4_measureFrom 2 = .ok (.iload_n 2, 1) := by decide +kernel
theorem dX4_measureFrom_3 : decode cX4_measureFrom 3 = .ok (.aload_n 0, 1) := by decide +kernel
theorem dX4_measureFrom_4 : decode cX4_measureFrom 4 = .ok (.getfield 39, 3) := by decide +kernel
theorem dX4_measureFrom_7 : decode cX4_measureFrom 7 = .ok (.if_icmp .ge 26, 3) := by decide +kernel
theorem dX4_measureFrom_10 : decode cX4_measureFrom 10 = .ok (.aload_n 0, 1) := by decide +kernel
theorem dX4_measureFrom_11 : decode cX4_measureFrom 11 = .ok (.getfield 36, 3) := by decide +kernel
theorem dX4_measureFrom_14 : decode cX4_measureFrom 14 = .ok (.iload_n 2, 1) := by decide +kernel
theorem dX4_measureFrom_15 : decode cX4_measureFrom 15 = .ok (.iload_n 2, 1) := by decide +kernel
theorem dX4_measureFrom_16 : decode cX4_measureFrom 16 = .ok (.iload_n 1, 1) := by decide +kernel
theorem dX4_measureFrom_17 : decode cX4_measureFrom 17 = .ok (.if_icmp .ne 7, 3) := by decide +kernel
theorem dX4_measureFrom_20 : decode cX4_measureFrom 20 = .ok (.iconst 0, 1) := by decide +kernel
theorem dX4_measureFrom_21 : decode cX4_measureFrom 21 = .ok (.goto 5, 3) := by decide +kernel
theorem dX4_measureFrom_24 : decode cX4_measureFrom 24 = .ok (.bipush (-6), 2) := by decide +kernel
theorem dX4_measureFrom_26 : decode cX4_measureFrom 26 = .ok (.iastore, 1) := by decide +kernel
theorem dX4_measureFrom_27 : decode cX4_measureFrom 27 = .ok (.iinc 2 1, 3) := by decide +kernel
theorem dX4_measureFrom_30 : decode cX4_measureFrom 30 = .ok (.goto (-28), 3) := by decide +kernel
theorem dX4_measureFrom_33 : decode cX4_measureFrom 33 = .ok (.iconst 0, 1) := by decide +kernel
theorem dX4_measureFrom_34 : decode cX4_measureFrom 34 = .ok (.istore_n 2, 1) := by decide +kernel
theorem dX4_measureFrom_35 : decode cX4_measureFrom 35 = .ok (.iload_n 2, 1) := by decide +kernel
theorem dX4_measureFrom_36 : decode cX4_measureFrom 36 = .ok (.aload_n 0, 1) := by decide +kernel
theorem dX4_measureFrom_37 : decode cX4_measureFrom 37 = .ok (.getfield 39, 3) := by decide +kernel
theorem dX4_measureFrom_40 : decode cX4_measureFrom 40 = .ok (.if_icmp .ge 40, 3) := by decide +kernel
theorem dX4_measureFrom_43 : decode cX4_measureFrom 43 = .ok (.iconst 0, 1) := by decide +kernel
theorem dX4_measureFrom_44 : decode cX4_measureFrom 44 = .ok (.istore_n 3, 1) := by decide +kernel
theorem dX4_measureFrom_45 : decode cX4_measureFrom 45 = .ok (.iload_n 3, 1) := by decide +kernel
theorem dX4_measureFrom_46 : decode cX4_measureFrom 46 = .ok (.aload_n 0, 1) := by decide +kernel
theorem dX4_measureFrom_47 : decode cX4_measureFrom 47 = .ok (.getfield 39, 3) := by decide +kernel
theorem dX4_measureFrom_50 : decode cX4_measureFrom 50 = .ok (.if_icmp .ge 24, 3) := by decide +kernel
theorem dX4_measureFrom_53 : decode cX4_measureFrom 53 = .ok (.aload_n 0, 1) := by decide +kernel
theorem dX4_measureFrom_54 : decode cX4_measureFrom 54 = .ok (.getfield 36, 3) := by decide +kernel
theorem dX4_measureFrom_57 : decode cX4_measureFrom 57 = .ok (.iload_n 3, 1) := by decide +kernel
theorem dX4_measureFrom_58 : decode cX4_measureFrom 58 = .ok (.iaload, 1) := by decide +kernel
theorem dX4_measureFrom_59 : decode cX4_measureFrom 59 = .ok (.iload_n 2, 1) := by decide +kernel
theorem dX4_measureFrom_60 : decode cX4_measureFrom 60 = .ok (.if_icmp .ne 8, 3) := by decide +kernel
theorem dX4_measureFrom_63 : decode cX4_measureFrom 63 = .ok (.aload_n 0, 1) := by decide +kernel
theorem dX4_measureFrom_64 : decode cX4_measureFrom 64 = .ok (.iload_n 3, 1) := by decide +kernel
theorem dX4_measureFrom_65 : decode cX4_measureFrom 65 = .ok (.invokevirtual 85, 3) := by decide +kernel
theorem dX4_measureFrom_68 : decode cX4_measureFrom 68 = .ok (.iinc 3 1, 3) := by decide +kernel
theorem dX4_measureFrom_71 : decode cX4_measureFrom 71 = .ok (.goto (-26), 3) := by decide +kernel
theorem dX4_measureFrom_74 : decode cX4_measureFrom 74 = .ok (.iinc 2 1, 3) := by decide +kernel
theorem dX4_measureFrom_77 : decode cX4_measureFrom 77 = .ok (.goto (-42), 3) := by decide +kernel
theorem dX4_measureFrom_80 : decode cX4_measureFrom 80 = .ok (.return_, 1) := by decide +kernel
theorem okX4_measureFrom : CalOK yX4_measureFrom cX4_measureFrom 4 (none) 1 := ⟨wd_69, wd_398, by decide +kernel⟩
theorem ovX4_measureFrom : VirOK yX4_measureFrom := ⟨wd_396, wd_397⟩
def FX4_measureFrom_45s (k35 : Int32 → Blk → Option Blk) (k45 : Int32 → Int32 → Blk → Option Blk) (l2 : Int32) (l3 : Int32) (B : Blk) : Option Blk :=
  if ((B 1) 0) ≤ l3 then
    lt1 (l2 + (1 : Int32)) fun x4 =>
    k35 x4 B
  else
    ld (B 11) 24 l3 fun v6 =>
    if v6 = l2 then
      c1 (FX4_linkFrom B l3) fun B14 =>
      lt1 (l3 + (1 : Int32)) fun x15 =>
      k45 l2 x15 B14
    else
      lt1 (l3 + (1 : Int32)) fun x10 =>
      k45 l2 x10 B
set_option maxRecDepth 100000 in
set_option maxHeartbeats 4000000 in
theorem wX4_measureFrom_45s {E : WE} {V : VT} {A : Nat → Prop} {H0 : Heap} {M : Mem} {j : Nat} (hj : j < 11) (Cx : CX E RX4 cX4_measureFrom 4 1 23) {B' : Blk} (hret : RetV E V A H0 cX4_measureFrom (jb M j B')) {k35 : Int32 → Blk → Option Blk} (hk35 : ∀ {H : Heap} {locs : List Loc} {ls : Array Slot} {B : Blk} {l2 : Int32}, Wd V A H0 (jb M j B) (eS E) H locs → lv_has ls 4 [(0, .ref (vA V j 1)), (2, .int l2)] → k35 l2 B = some B' → Wq E H locs 35 ls []) {k45 : Int32 → Int32 → Blk → Option Blk} (hk45 : ∀ {H : Heap} {locs : List Loc} {ls : Array Slot} {B : Blk} {l2 : Int32} {l3 : Int32}, Wd V A H0 (jb M j B) (eS E) H locs → lv_has ls 4 [(0, .ref (vA V j 1)), (2, .int l2), (3, .int l3)] → k45 l2 l3 B = some B' → Wq E H locs 45 ls []) {H : Heap} {locs : List Loc} {ls : Array Slot} {l2 : Int32} {l3 : Int32} {B : Blk} (hW : Wd V A H0 (jb M j B) (eS E) H locs) (hl : lv_has ls 4 [(0, .ref (vA V j 1)), (2, .int l2), (3, .int l3)]) (hF : FX4_measureFrom_45s k35 k45 l2 l3 B = some B') : Wq E H locs 45 ls [] := by
  unfold FX4_measureFrom_45s at hF
  refine q_iload_n Cx dX4_measureFrom_45 rfl (lv_at hl 2 rfl) ?_
  refine q_aload_n Cx dX4_measureFrom_46 rfl (lv_at hl 0 rfl) ?_
  refine qb_get (v := .int ((B 1) 0)) Cx hW (oP hj) ic4 0 (by decide) rfl wd_96 dX4_measureFrom_47 ?_
  refine q_icmp_ge (tgt := 74) Cx dX4_measureFrom_50 (by decide) (fun c3 => ?_) (fun c3 => ?_)
  · have hF := (if_pos c3).symm.trans hF
    obtain ⟨x4, e5, hF⟩ := lt1_some hF
    refine q_iinc (k := 1) (v := x4) (lv' := [(2, .int x4), (0, .ref (vA V j 1)), (3, .int l3)]) Cx dX4_measureFrom_74 hl rfl e5.symm (by decide) rfl (fun ls hl => ?_)
    refine q_goto (tgt := 35) Cx dX4_measureFrom_77 (by decide) ?_
    exact hk35 hW (lv_sub hl [1, 0] rfl) hF
  · have hF := (if_neg c3).symm.trans hF
    refine q_aload_n Cx dX4_measureFrom_53 rfl (lv_at hl 0 rfl) ?_
    refine q_get (v := .ref (vA V j 11)) Cx hW (oP hj) ic4 9 (by decide) rfl wd_113 dX4_measureFrom_54 ?_
    refine q_iload_n Cx dX4_measureFrom_57 rfl (lv_at hl 2 rfl) ?_
    obtain ⟨h7, v6, e8, hF⟩ := ld_some hF
    refine qb_iald Cx hW (ai_11 hj) h7 e8 dX4_measureFrom_58 ?_
    refine q_iload_n Cx dX4_measureFrom_59 rfl (lv_at hl 1 rfl) ?_
    refine q_icmp_ne (tgt := 68) Cx dX4_measureFrom_60 (by decide) (fun c9 => ?_) (fun c9 => ?_)
    · have hF := (if_neg c9).symm.trans hF
      obtain ⟨x10, e11, hF⟩ := lt1_some hF
      refine q_iinc (k := 2) (v := x10) (lv' := [(3, .int x10), (0, .ref (vA V j 1)), (2, .int l2)]) Cx dX4_measureFrom_68 hl rfl e11.symm (by decide) rfl (fun ls hl => ?_)
      refine q_goto (tgt := 45) Cx dX4_measureFrom_71 (by decide) ?_
      exact hk45 hW (lv_sub hl [1, 2, 0] rfl) hF
    · have hF := (if_pos c9).symm.trans hF
      refine q_aload_n Cx dX4_measureFrom_63 rfl (lv_at hl 0 rfl) ?_
      refine q_iload_n Cx dX4_measureFrom_64 rfl (lv_at hl 2 rfl) ?_
      obtain ⟨B14, e13, hF⟩ := c1_some hF
      refine q_callV (as := [.int l3]) (rest := []) Cx (kX4_linkFrom hj e13) okX4_linkFrom ovX4_linkFrom wd_399 ⟨rfl, rfl, by decide, by decide⟩ hW (oP hj) ic4 rfl hl.1 (Nat.le_of_ble_eq_true rfl) rfl dX4_measureFrom_65 (fun H locs hW => ?_)
      obtain ⟨x15, e16, hF⟩ := lt1_some hF
      refine q_iinc (k := 2) (v := x15) (lv' := [(3, .int x15), (0, .ref (vA V j 1)), (2, .int l2)]) Cx dX4_measureFrom_68 hl rfl e16.symm (by decide) rfl (fun ls hl => ?_)
      refine q_goto (tgt := 45) Cx dX4_measureFrom_71 (by decide) ?_
      exact hk45 hW (lv_sub hl [1, 2, 0] rfl) hF
def FX4_measureFrom_45 (k35 : Int32 → Blk → Option Blk) : Nat → Int32 → Int32 → Blk → Option Blk
  | 0 => fun _ _ _ => none
  | n + 1 => FX4_measureFrom_45s k35 (FX4_measureFrom_45 k35 n)
set_option maxRecDepth 100000 in
theorem wX4_measureFrom_45 {E : WE} {V : VT} {A : Nat → Prop} {H0 : Heap} {M : Mem} {j : Nat} (hj : j < 11) (Cx : CX E RX4 cX4_measureFrom 4 1 23) {B' : Blk} (hret : RetV E V A H0 cX4_measureFrom (jb M j B')) {k35 : Int32 → Blk → Option Blk} (hk35 : ∀ {H : Heap} {locs : List Loc} {ls : Array Slot} {B : Blk} {l2 : Int32}, Wd V A H0 (jb M j B) (eS E) H locs → lv_has ls 4 [(0, .ref (vA V j 1)), (2, .int l2)] → k35 l2 B = some B' → Wq E H locs 35 ls []) : ∀ (n : Nat) {H : Heap} {locs : List Loc} {ls : Array Slot} {l2 : Int32} {l3 : Int32} {B : Blk}, Wd V A H0 (jb M j B) (eS E) H locs → lv_has ls 4 [(0, .ref (vA V j 1)), (2, .int l2), (3, .int l3)] → FX4_measureFrom_45 k35 n l2 l3 B = some B' → Wq E H locs 45 ls [] := by
  intro n
  induction n with
  | zero => intro _ _ _ _ _ _ hW hl hF; cases hF
  | succ n ih => intro _ _ _ _ _ _ hW hl hF; exact wX4_measureFrom_45s hj Cx hret hk35 ih hW hl hF
def FX4_measureFrom_35s (k35 : Int32 → Blk → Option Blk) (l2 : Int32) (B : Blk) : Option Blk :=
  if ((B 1) 0) ≤ l2 then
    some B
  else
    FX4_measureFrom_45 k35 fu l2 (0 : Int32) B
set_option maxRecDepth 100000 in
set_option maxHeartbeats 4000000 in
theorem wX4_measureFrom_35s {E : WE} {V : VT} {A : Nat → Prop} {H0 : Heap} {M : Mem} {j : Nat} (hj : j < 11) (Cx : CX E RX4 cX4_measureFrom 4 1 23) {B' : Blk} (hret : RetV E V A H0 cX4_measureFrom (jb M j B')) {k35 : Int32 → Blk → Option Blk} (hk35 : ∀ {H : Heap} {locs : List Loc} {ls : Array Slot} {B : Blk} {l2 : Int32}, Wd V A H0 (jb M j B) (eS E) H locs → lv_has ls 4 [(0, .ref (vA V j 1)), (2, .int l2)] → k35 l2 B = some B' → Wq E H locs 35 ls []) {H : Heap} {locs : List Loc} {ls : Array Slot} {l2 : Int32} {B : Blk} (hW : Wd V A H0 (jb M j B) (eS E) H locs) (hl : lv_has ls 4 [(0, .ref (vA V j 1)), (2, .int l2)]) (hF : FX4_measureFrom_35s k35 l2 B = some B') : Wq E H locs 35 ls [] := by
  unfold FX4_measureFrom_35s at hF
  refine q_iload_n Cx dX4_measureFrom_35 rfl (lv_at hl 1 rfl) ?_
  refine q_aload_n Cx dX4_measureFrom_36 rfl (lv_at hl 0 rfl) ?_
  refine qb_get (v := .int ((B 1) 0)) Cx hW (oP hj) ic4 0 (by decide) rfl wd_96 dX4_measureFrom_37 ?_
  refine q_icmp_ge (tgt := 80) Cx dX4_measureFrom_40 (by decide) (fun c2 => ?_) (fun c2 => ?_)
  · have hF := (if_pos c2).symm.trans hF
    cases hF
    exact hret _ _ _ _ dX4_measureFrom_80 hW
  · have hF := (if_neg c2).symm.trans hF
    refine q_iconst (v := (0 : Int32)) Cx dX4_measureFrom_43 (by decide) ?_
    refine q_istore_n (lv' := [(3, .int (0 : Int32)), (0, .ref (vA V j 1)), (2, .int l2)]) Cx dX4_measureFrom_44 rfl hl (by decide) rfl (fun ls hl => ?_)
    exact wX4_measureFrom_45 hj Cx hret hk35 fu hW (lv_sub hl [1, 2, 0] rfl) hF
def FX4_measureFrom_35 : Nat → Int32 → Blk → Option Blk
  | 0 => fun _ _ => none
  | n + 1 => FX4_measureFrom_35s (FX4_measureFrom_35 n)
set_option maxRecDepth 100000 in
theorem wX4_measureFrom_35 {E : WE} {V : VT} {A : Nat → Prop} {H0 : Heap} {M : Mem} {j : Nat} (hj : j < 11) (Cx : CX E RX4 cX4_measureFrom 4 1 23) {B' : Blk} (hret : RetV E V A H0 cX4_measureFrom (jb M j B')) : ∀ (n : Nat) {H : Heap} {locs : List Loc} {ls : Array Slot} {l2 : Int32} {B : Blk}, Wd V A H0 (jb M j B) (eS E) H locs → lv_has ls 4 [(0, .ref (vA V j 1)), (2, .int l2)] → FX4_measureFrom_35 n l2 B = some B' → Wq E H locs 35 ls [] := by
  intro n
  induction n with
  | zero => intro _ _ _ _ _ hW hl hF; cases hF
  | succ n ih => intro _ _ _ _ _ hW hl hF; exact wX4_measureFrom_35s hj Cx hret ih hW hl hF
def FX4_measureFrom_26 (k2 : Int32 → Int32 → Blk → Option Blk) (l1 : Int32) (l2 : Int32) (s0 : Int32) (s1 : Int32) (B : Blk) : Option Blk :=
  stb B 11 24 s1 s0 fun B18 =>
  lt1 (l2 + (1 : Int32)) fun x21 =>
  k2 l1 x21 B18
set_option maxRecDepth 100000 in
set_option maxHeartbeats 4000000 in
theorem wX4_measureFrom_26 {E : WE} {V : VT} {A : Nat → Prop} {H0 : Heap} {M : Mem} {j : Nat} (hj : j < 11) (Cx : CX E RX4 cX4_measureFrom 4 1 23) {B' : Blk} (hret : RetV E V A H0 cX4_measureFrom (jb M j B')) {k2 : Int32 → Int32 → Blk → Option Blk} (hk2 : ∀ {H : Heap} {locs : List Loc} {ls : Array Slot} {B : Blk} {l1 : Int32} {l2 : Int32}, Wd V A H0 (jb M j B) (eS E) H locs → lv_has ls 4 [(0, .ref (vA V j 1)), (1, .int l1), (2, .int l2)] → k2 l1 l2 B = some B' → Wq E H locs 2 ls []) {H : Heap} {locs : List Loc} {ls : Array Slot} {l1 : Int32} {l2 : Int32} {s0 : Int32} {s1 : Int32} {B : Blk} (hW : Wd V A H0 (jb M j B) (eS E) H locs) (hl : lv_has ls 4 [(0, .ref (vA V j 1)), (1, .int l1), (2, .int l2)]) (hF : FX4_measureFrom_26 k2 l1 l2 s0 s1 B = some B') : Wq E H locs 26 ls [.int s0, .int s1, .ref (vA V j 11)] := by
  unfold FX4_measureFrom_26 at hF
  obtain ⟨h19, B18, e20, hF⟩ := stb_some hF
  refine qb_iast Cx hW (ai_11 hj) h19 e20 dX4_measureFrom_26 (fun H locs hW => ?_)
  obtain ⟨x21, e22, hF⟩ := lt1_some hF
  refine q_iinc (k := 2) (v := x21) (lv' := [(2, .int x21), (0, .ref (vA V j 1)), (1, .int l1)]) Cx dX4_measureFrom_27 hl rfl e22.symm (by decide) rfl (fun ls hl => ?_)
  refine q_goto (tgt := 2) Cx dX4_measureFrom_30 (by decide) ?_
  exact hk2 hW (lv_sub hl [1, 2, 0] rfl) hF
def FX4_measureFrom_2s (k2 : Int32 → Int32 → Blk → Option Blk) (l1 : Int32) (l2 : Int32) (B : Blk) : Option Blk :=
  if ((B 1) 0) ≤ l2 then
    FX4_measureFrom_35 fu (0 : Int32) B
  else
    if l2 = l1 then
      FX4_measureFrom_26 k2 l1 l2 (0 : Int32) l2 B
    else
      FX4_measureFrom_26 k2 l1 l2 (-6 : Int32) l2 B
set_option maxRecDepth 100000 in
set_option maxHeartbeats 4000000 in
theorem wX4_measureFrom_2s {E : WE} {V : VT} {A : Nat → Prop} {H0 : Heap} {M : Mem} {j : Nat} (hj : j < 11) (Cx : CX E RX4 cX4_measureFrom 4 1 23) {B' : Blk} (hret : RetV E V A H0 cX4_measureFrom (jb M j B')) {k2 : Int32 → Int32 → Blk → Option Blk} (hk2 : ∀ {H : Heap} {locs : List Loc} {ls : Array Slot} {B : Blk} {l1 : Int32} {l2 : Int32}, Wd V A H0 (jb M j B) (eS E) H locs → lv_has ls 4 [(0, .ref (vA V j 1)), (1, .int l1), (2, .int l2)] → k2 l1 l2 B = some B' → Wq E H locs 2 ls []) {H : Heap} {locs : List Loc} {ls : Array Slot} {l1 : Int32} {l2 : Int32} {B : Blk} (hW : Wd V A H0 (jb M j B) (eS E) H locs) (hl : lv_has ls 4 [(0, .ref (vA V j 1)), (1, .int l1), (2, .int l2)]) (hF : FX4_measureFrom_2s k2 l1 l2 B = some B') : Wq E H locs 2 ls [] := by
  unfold FX4_measureFrom_2s at hF
  refine q_iload_n Cx dX4_measureFrom_2 rfl (lv_at hl 2 rfl) ?_
  refine q_aload_n Cx dX4_measureFrom_3 rfl (lv_at hl 0 rfl) ?_
  refine qb_get (v := .int ((B 1) 0)) Cx hW (oP hj) ic4 0 (by decide) rfl wd_96 dX4_measureFrom_4 ?_
  refine q_icmp_ge (tgt := 33) Cx dX4_measureFrom_7 (by decide) (fun c1 => ?_) (fun c1 => ?_)
  · have hF := (if_pos c1).symm.trans hF
    refine q_iconst (v := (0 : Int32)) Cx dX4_measureFrom_33 (by decide) ?_
    refine q_istore_n (lv' := [(2, .int (0 : Int32)), (0, .ref (vA V j 1)), (1, .int l1)]) Cx dX4_measureFrom_34 rfl hl (by decide) rfl (fun ls hl => ?_)
    exact wX4_measureFrom_35 hj Cx hret fu hW (lv_sub hl [1, 0] rfl) hF
  · have hF := (if_neg c1).symm.trans hF
    refine q_aload_n Cx dX4_measureFrom_10 rfl (lv_at hl 0 rfl) ?_
    refine q_get (v := .ref (vA V j 11)) Cx hW (oP hj) ic4 9 (by decide) rfl wd_113 dX4_measureFrom_11 ?_
    refine q_iload_n Cx dX4_measureFrom_14 rfl (lv_at hl 2 rfl) ?_
    refine q_iload_n Cx dX4_measureFrom_15 rfl (lv_at hl 2 rfl) ?_
    refine q_iload_n Cx dX4_measureFrom_16 rfl (lv_at hl 1 rfl) ?_
    refine q_icmp_ne (tgt := 24) Cx dX4_measureFrom_17 (by decide) (fun c17 => ?_) (fun c17 => ?_)
    · have hF := (if_neg c17).symm.trans hF
      refine q_bipush (v := (-6 : Int32)) Cx dX4_measureFrom_24 (by decide) ?_
      exact wX4_measureFrom_26 hj Cx hret hk2 hW (lv_sub hl [0, 1, 2] rfl) hF
    · have hF := (if_pos c17).symm.trans hF
      refine q_iconst (v := (0 : Int32)) Cx dX4_measureFrom_20 (by decide) ?_
      refine q_goto (tgt := 26) Cx dX4_measureFrom_21 (by decide) ?_
      exact wX4_measureFrom_26 hj Cx hret hk2 hW (lv_sub hl [0, 1, 2] rfl) hF
def FX4_measureFrom_2 : Nat → Int32 → Int32 → Blk → Option Blk
  | 0 => fun _ _ _ => none
  | n + 1 => FX4_measureFrom_2s (FX4_measureFrom_2 n)
set_option maxRecDepth 100000 in
theorem wX4_measureFrom_2 {E : WE} {V : VT} {A : Nat → Prop} {H0 : Heap} {M : Mem} {j : Nat} (hj : j < 11) (Cx : CX E RX4 cX4_measureFrom 4 1 23) {B' : Blk} (hret : RetV E V A H0 cX4_measureFrom (jb M j B')) : ∀ (n : Nat) {H : Heap} {locs : List Loc} {ls : Array Slot} {l1 : Int32} {l2 : Int32} {B : Blk}, Wd V A H0 (jb M j B) (eS E) H locs → lv_has ls 4 [(0, .ref (vA V j 1)), (1, .int l1), (2, .int l2)] → FX4_measureFrom_2 n l1 l2 B = some B' → Wq E H locs 2 ls [] := by
  intro n
  induction n with
  | zero => intro _ _ _ _ _ _ hW hl hF; cases hF
  | succ n ih => intro _ _ _ _ _ _ hW hl hF; exact wX4_measureFrom_2s hj Cx hret ih hW hl hF
def FX4_measureFrom (B : Blk) (l1 : Int32) : Option Blk :=
  FX4_measureFrom_2 fu l1 (0 : Int32) B
set_option maxRecDepth 100000 in
set_option maxHeartbeats 4000000 in
theorem wX4_measureFrom {E : WE} {V : VT} {A : Nat → Prop} {H0 : Heap} {M : Mem} {j : Nat} (hj : j < 11) (Cx : CX E RX4 cX4_measureFrom 4 1 23) {B' : Blk} (hret : RetV E V A H0 cX4_measureFrom (jb M j B')) {H : Heap} {locs : List Loc} {ls : Array Slot} {l1 : Int32} {B : Blk} (hW : Wd V A H0 (jb M j B) (eS E) H locs) (hl : lv_has ls 4 [(0, .ref (vA V j 1)), (1, .int l1)]) (hF : FX4_measureFrom B l1 = some B') : Wq E H locs 0 ls [] := by
  unfold FX4_measureFrom at hF
  refine q_iconst (v := (0 : Int32)) Cx dX4_measureFrom_0 (by decide) ?_
  refine q_istore_n (lv' := [(2, .int (0 : Int32)), (0, .ref (vA V j 1)), (1, .int l1)]) Cx dX4_measureFrom_1 rfl hl (by decide) rfl (fun ls hl => ?_)
  exact wX4_measureFrom_2 hj Cx hret fu hW (lv_sub hl [1, 2, 0] rfl) hF
set_option maxRecDepth 100000 in
theorem kX4_measureFrom {l : Launch} {V : VT} {M : Mem} {j : Nat} (hj : j < 11) {B : Blk} {l1 : Int32} {B' : Blk} (hF : FX4_measureFrom B l1 = some B') : MetV l V yX4_measureFrom cX4_measureFrom 4 ({ frames := 1, cells := 0, slots := 0, locals := 23 } : Room) [.ref (vA V j 1), .int l1] (jb M j B) (jb M j B') := metV_of (by decide) (Nat.le_of_ble_eq_true rfl) (fun E H0 _ Cx hret H locs ls hW hl => wX4_measureFrom hj Cx hret hW hl hF)
theorem dX4_startOf_0 : decode cX4_startOf 0 = .ok (.aload_n 0, 1) := by decide +kernel
theorem dX4_startOf_1 : decode cX4_startOf 1 = .ok (.getfield 21, 3) := by decide +kernel
theorem dX4_startOf_4 : decode cX4_startOf 4 = .ok (.iload_n 1, 1) := by decide +kernel
theorem dX4_startOf_5 : decode cX4_startOf 5 = .ok (.iaload, 1) := by decide +kernel
theorem dX4_startOf_6 : decode cX4_startOf 6 = .ok (.aload_n 0, 1) := by decide +kernel
theorem dX4_startOf_7 : decode cX4_startOf 7 = .ok (.getfield 15, 3) := by decide +kernel
theorem dX4_startOf_10 : decode cX4_startOf 10 = .ok (.iload_n 1, 1) := by decide +kernel
theorem dX4_startOf_11 : decode cX4_startOf 11 = .ok (.iaload, 1) := by decide +kernel
theorem dX4_startOf_12 : decode cX4_startOf 12 = .ok (.isub, 1) := by decide +kernel
theorem dX4_startOf_13 : decode cX4_startOf 13 = .ok (.ireturn, 1) := by decide +kernel
theorem okX4_startOf : CalOK yX4_startOf cX4_startOf 2 (some .int) 1 := ⟨wd_69, wd_474, by decide +kernel⟩
theorem ovX4_startOf : VirOK yX4_startOf := ⟨wd_472, wd_473⟩
def FX4_startOf (B : Blk) (l1 : Int32) : Option Int32 :=
  ld (B 6) 24 l1 fun v1 =>
  ld (B 4) 24 l1 fun v4 =>
  some (v1 - v4)
set_option maxRecDepth 100000 in
set_option maxHeartbeats 4000000 in
theorem wX4_startOf {E : WE} {V : VT} {A : Nat → Prop} {H0 : Heap} {M : Mem} {j : Nat} (hj : j < 11) (Cx : CX E RX4 cX4_startOf 2 0 0) {r : Int32} {B : Blk} (hret : RetI E V A H0 cX4_startOf .int r (jb M j B)) {H : Heap} {locs : List Loc} {ls : Array Slot} {l1 : Int32} (hW : Wd V A H0 (jb M j B) (eS E) H locs) (hl : lv_has ls 2 [(0, .ref (vA V j 1)), (1, .int l1)]) (hF : FX4_startOf B l1 = some r) : Wq E H locs 0 ls [] := by
  unfold FX4_startOf at hF
  refine q_aload_n Cx dX4_startOf_0 rfl (lv_at hl 0 rfl) ?_
  refine q_get (v := .ref (vA V j 6)) Cx hW (oP hj) ic4 4 (by decide) rfl wd_105 dX4_startOf_1 ?_
  refine q_iload_n Cx dX4_startOf_4 rfl (lv_at hl 1 rfl) ?_
  obtain ⟨h2, v1, e3, hF⟩ := ld_some hF
  refine qb_iald Cx hW (ai_6 hj) h2 e3 dX4_startOf_5 ?_
  refine q_aload_n Cx dX4_startOf_6 rfl (lv_at hl 0 rfl) ?_
  refine q_get (v := .ref (vA V j 4)) Cx hW (oP hj) ic4 2 (by decide) rfl wd_101 dX4_startOf_7 ?_
  refine q_iload_n Cx dX4_startOf_10 rfl (lv_at hl 1 rfl) ?_
  obtain ⟨h5, v4, e6, hF⟩ := ld_some hF
  refine qb_iald Cx hW (ai_4 hj) h5 e6 dX4_startOf_11 ?_
  refine q_isub Cx dX4_startOf_12 ?_
  cases hF
  exact hret _ _ _ _ dX4_startOf_13 (nI32 _) hW
set_option maxRecDepth 100000 in
theorem kX4_startOf {l : Launch} {V : VT} {M : Mem} {j : Nat} (hj : j < 11) {B : Blk} {l1 : Int32} {r : Int32} (hF : FX4_startOf B l1 = some r) : MetI l V yX4_startOf cX4_startOf 2 .int ({ frames := 0, cells := 0, slots := 0, locals := 0 } : Room) [.ref (vA V j 1), .int l1] r (jb M j B) (jb M j B) := metI_of (by decide) (Nat.le_of_ble_eq_true rfl) (fun E H0 _ Cx hret H locs ls hW hl => wX4_startOf hj Cx hret hW hl hF)
theorem dX4_inFrontOf_0 : decode cX4_inFrontOf 0 = .ok (.aload_n 0, 1) := by decide +kernel
theorem dX4_inFrontOf_1 : decode cX4_inFrontOf 1 = .ok (.aload_n 0, 1) := by decide +kernel
theorem dX4_inFrontOf_2 : decode cX4_inFrontOf 2 = .ok (.getfield 9, 3) := by decide +kernel
theorem dX4_inFrontOf_5 : decode cX4_inFrontOf 5 = .ok (.iload_n 1, 1) := by decide +kernel
theorem dX4_inFrontOf_6 : decode cX4_inFrontOf 6 = .ok (.iaload, 1) := by decide +kernel
theorem dX4_inFrontOf_7 : decode cX4_inFrontOf 7 = .ok (.aload_n 0, 1) := by decide +kernel
theorem dX4_inFrontOf_8 : decode cX4_inFrontOf 8 = .ok (.iload_n 1, 1) := by decide +kernel
theorem dX4_inFrontOf_9 : decode cX4_inFrontOf 9 = .ok (.invokevirtual 53, 3) := by decide +kernel
theorem dX4_inFrontOf_12 : decode cX4_inFrontOf 12 = .ok (.iconst 1, 1) := by decide +kernel
theorem dX4_inFrontOf_13 : decode cX4_inFrontOf 13 = .ok (.isub, 1) := by decide +kernel
theorem dX4_inFrontOf_14 : decode cX4_inFrontOf 14 = .ok (.invokevirtual 49, 3) := by decide +kernel
theorem dX4_inFrontOf_17 : decode cX4_inFrontOf 17 = .ok (.ireturn, 1) := by decide +kernel
theorem okX4_inFrontOf : CalOK yX4_inFrontOf cX4_inFrontOf 2 (some .int) 1 := ⟨wd_69, wd_487, by decide +kernel⟩
theorem ovX4_inFrontOf : VirOK yX4_inFrontOf := ⟨wd_485, wd_486⟩
def FX4_inFrontOf (B : Blk) (l1 : Int32) : Option Int32 :=
  ld (B 3) 24 l1 fun v1 =>
  c1 (FX4_placeOf B l1) fun r4 =>
  c1 (FX4_inRow B v1 (r4 - (1 : Int32))) fun r6 =>
  some r6
set_option maxRecDepth 100000 in
set_option maxHeartbeats 4000000 in
theorem wX4_inFrontOf {E : WE} {V : VT} {A : Nat → Prop} {H0 : Heap} {M : Mem} {j : Nat} (hj : j < 11) (Cx : CX E RX4 cX4_inFrontOf 2 2 45) {r : Int32} {B : Blk} (hret : RetI E V A H0 cX4_inFrontOf .int r (jb M j B)) {H : Heap} {locs : List Loc} {ls : Array Slot} {l1 : Int32} (hW : Wd V A H0 (jb M j B) (eS E) H locs) (hl : lv_has ls 2 [(0, .ref (vA V j 1)), (1, .int l1)]) (hF : FX4_inFrontOf B l1 = some r) : Wq E H locs 0 ls [] := by
  unfold FX4_inFrontOf at hF
  refine q_aload_n Cx dX4_inFrontOf_0 rfl (lv_at hl 0 rfl) ?_
  refine q_aload_n Cx dX4_inFrontOf_1 rfl (lv_at hl 0 rfl) ?_
  refine q_get (v := .ref (vA V j 3)) Cx hW (oP hj) ic4 1 (by decide) rfl wd_99 dX4_inFrontOf_2 ?_
  refine q_iload_n Cx dX4_inFrontOf_5 rfl (lv_at hl 1 rfl) ?_
  obtain ⟨h2, v1, e3, hF⟩ := ld_some hF
  refine qb_iald Cx hW (ai_3 hj) h2 e3 dX4_inFrontOf_6 ?_
  refine q_aload_n Cx dX4_inFrontOf_7 rfl (lv_at hl 0 rfl) ?_
  refine q_iload_n Cx dX4_inFrontOf_8 rfl (lv_at hl 1 rfl) ?_
  obtain ⟨r4, e5, hF⟩ := c1_some hF
  refine q_callI (as := [.int l1]) (rest := [.int v1, .ref (vA V j 1)]) Cx (kX4_placeOf hj e5) okX4_placeOf ovX4_placeOf wd_361 ⟨rfl, rfl, by decide, by decide⟩ hW (oP hj) ic4 rfl hl.1 (Nat.le_of_ble_eq_true rfl) rfl dX4_inFrontOf_9 (fun H locs hW => ?_)
  refine q_iconst (v := (1 : Int32)) Cx dX4_inFrontOf_12 (by decide) ?_
  refine q_isub Cx dX4_inFrontOf_13 ?_
  obtain ⟨r6, e7, hF⟩ := c1_some hF
  refine q_callI (as := [.int v1, .int (r4 - (1 : Int32))]) (rest := []) Cx (kX4_inRow hj e7) okX4_inRow ovX4_inRow wd_325 ⟨rfl, rfl, by decide, by decide⟩ hW (oP hj) ic4 rfl hl.1 (Nat.le_of_ble_eq_true rfl) rfl dX4_inFrontOf_14 (fun H locs hW => ?_)
  cases hF
  exact hret _ _ _ _ dX4_inFrontOf_17 (nI32 _) hW
set_option maxRecDepth 100000 in
theorem kX4_inFrontOf {l : Launch} {V : VT} {M : Mem} {j : Nat} (hj : j < 11) {B : Blk} {l1 : Int32} {r : Int32} (hF : FX4_inFrontOf B l1 = some r) : MetI l V yX4_inFrontOf cX4_inFrontOf 2 .int ({ frames := 2, cells := 0, slots := 0, locals := 45 } : Room) [.ref (vA V j 1), .int l1] r (jb M j B) (jb M j B) := metI_of (by decide) (Nat.le_of_ble_eq_true rfl) (fun E H0 _ Cx hret H locs ls hW hl => wX4_inFrontOf hj Cx hret hW hl hF)
theorem dX4_followersOf_0 : decode cX4_followersOf 0 = .ok (.aload_n 0, 1) := by decide +kernel
theorem dX4_followersOf_1 : decode cX4_followersOf 1 = .ok (.aload_n 0, 1) := by decide +kernel
theorem dX4_followersOf_2 : decode cX4_followersOf 2 = .ok (.getfield 9, 3) := by decide +kernel
theorem dX4_followersOf_5 : decode cX4_followersOf 5 = .ok (.iload_n 1, 1) := by decide +kernel
theorem dX4_followersOf_6 : decode cX4_followersOf 6 = .ok (.iaload, 1) := by decide +kernel
theorem dX4_followersOf_7 : decode cX4_followersOf 7 = .ok (.aload_n 0, 1) := by decide +kernel
theorem dX4_followersOf_8 : decode cX4_followersOf 8 = .ok (.iload_n 1, 1) := by decide +kernel
theorem dX4_followersOf_9 : decode cX4_followersOf 9 = .ok (.invokevirtual 53, 3) := by decide +kernel
theorem dX4_followersOf_12 : decode cX4_followersOf 12 = .ok (.iconst 1, 1) := by decide +kernel
theorem dX4_followersOf_13 : decode cX4_followersOf 13 = .ok (.iadd, 1) := by decide +kernel
theorem dX4_followersOf_14 : decode cX4_followersOf 14 = .ok (.invokevirtual 49, 3) := by decide +kernel
theorem dX4_followersOf_17 : decode cX4_followersOf 17 = .ok (.istore_n 2, 1) := by decide +kernel
theorem dX4_followersOf_18 : decode cX4_followersOf 18 = .ok (.aload_n 0, 1) := by decide +kernel
theorem dX4_followersOf_19 : decode cX4_followersOf 19 = .ok (.iload_n 2, 1) := by decide +kernel
theorem dX4_followersOf_20 : decode cX4_followersOf 20 = .ok (.invokevirtual 68, 3) := by decide +kernel
theorem dX4_followersOf_23 : decode cX4_followersOf 23 = .ok (.ifCond .eq 9, 3) := by decide +kernel
theorem dX4_followersOf_26 : decode cX4_followersOf 26 = .ok (.iconst 1, 1) := by decide +kernel
theorem dX4_followersOf_27 : decode cX4_followersOf 27 = .ok (.iload_n 2, 1) := by decide +kernel
theorem dX4_followersOf_28 : decode cX4_followersOf 28 = .ok (.ishl, 1) := by decide +kernel
theorem dX4_followersOf_29 : decode cX4_followersOf 29 = .ok (.goto 4, 3) := by decide +kernel
theorem dX4_followersOf_32 : decode cX4_followersOf 32 = .ok (.iconst 0, 1) := by decide +kernel
theorem dX4_followersOf_33 : decode cX4_followersOf 33 = .ok (.istore_n 3, 1) := by decide +kernel
theorem dX4_followersOf_34 : decode cX4_followersOf 34 = .ok (.iconst 0, 1) := by decide +kernel
theorem dX4_followersOf_35 : decode cX4_followersOf 35 = .ok (.istore 4, 2) := by decide +kernel
theorem dX4_followersOf_37 : decode cX4_followersOf 37 = .ok (.iload 4, 2) := by decide +kernel
theorem dX4_followersOf_39 : decode cX4_followersOf 39 = .ok (.aload_n 0, 1) := by decide +kernel
theorem dX4_followersOf_40 : decode cX4_followersOf 40 = .ok (.getfield 39, 3) := by decide +kernel
theorem dX4_followersOf_43 : decode cX4_followersOf 43 = .ok (.if_icmp .ge 27, 3) := by decide +kernel
theorem dX4_followersOf_46 : decode cX4_followersOf 46 = .ok (.aload_n 0, 1) := by decide +kernel
theorem dX4_followersOf_47 : decode cX4_followersOf 47 = .ok (.getfield 18, 3) := by decide +kernel
theorem dX4_followersOf_50 : decode cX4_followersOf 50 = .ok (.iload 4, 2) := by decide +kernel
theorem dX4_followersOf_52 : decode cX4_followersOf 52 = .ok (.iaload, 1) := by decide +kernel
theorem dX4_followersOf_53 : decode cX4_followersOf 53 = .ok (.iload_n 1, 1) := by decide +kernel
theorem dX4_followersOf_54 : decode cX4_followersOf 54 = .ok (.if_icmp .ne 10, 3) := by decide +kernel
theorem dX4_followersOf_57 : decode cX4_followersOf 57 = .ok (.iload_n 3, 1) := by decide +kernel
theorem dX4_followersOf_58 : decode cX4_followersOf 58 = .ok (.iconst 1, 1) := by decide +kernel
theorem dX4_followersOf_59 : decode cX4_followersOf 59 = .ok (.iload 4, 2) := by decide +kernel
theorem dX4_followersOf_61 : decode cX4_followersOf 61 = .ok (.ishl, 1) := by decide +kernel
theorem dX4_followersOf_62 : decode cX4_followersOf 62 = .ok (.ior, 1) := by decide +kernel
theorem dX4_followersOf_63 : decode cX4_followersOf 63 = .ok (.istore_n 3, 1) := by decide +kernel
theorem dX4_followersOf_64 : decode cX4_followersOf 64 = .ok (.iinc 4 1, 3) := by decide +kernel
theorem dX4_followersOf_67 : decode cX4_followersOf 67 = .ok (.goto (-30), 3) := by decide +kernel
theorem dX4_followersOf_70 : decode cX4_followersOf 70 = .ok (.iload_n 3, 1) := by decide +kernel
theorem dX4_followersOf_71 : decode cX4_followersOf 71 = .ok (.ireturn, 1) := by decide +kernel
theorem okX4_followersOf : CalOK yX4_followersOf cX4_followersOf 5 (some .int) 1 := ⟨wd_69, wd_503, by decide +kernel⟩
theorem ovX4_followersOf : VirOK yX4_followersOf := ⟨wd_501, wd_502⟩
def FX4_followersOf_37s (B : Blk) (k37 : Int32 → Int32 → Int32 → Option Int32) (l1 : Int32) (l3 : Int32) (l4 : Int32) : Option Int32 :=
  if ((B 1) 0) ≤ l4 then
    some l3
  else
    ld (B 5) 24 l4 fun v12 =>
    if v12 = l1 then
      lt1 (l3 ||| ((1 : Int32) <<< (l4 &&& 31))) fun x18 =>
      lt1 (l4 + (1 : Int32)) fun x20 =>
      k37 l1 x18 x20
    else
      lt1 (l4 + (1 : Int32)) fun x16 =>
      k37 l1 l3 x16
set_option maxRecDepth 100000 in
set_option maxHeartbeats 4000000 in
theorem wX4_followersOf_37s {E : WE} {V : VT} {A : Nat → Prop} {H0 : Heap} {M : Mem} {j : Nat} (hj : j < 11) (Cx : CX E RX4 cX4_followersOf 5 2 45) {r : Int32} {B : Blk} (hret : RetI E V A H0 cX4_followersOf .int r (jb M j B)) {k37 : Int32 → Int32 → Int32 → Option Int32} (hk37 : ∀ {H : Heap} {locs : List Loc} {ls : Array Slot} {l1 : Int32} {l3 : Int32} {l4 : Int32}, Wd V A H0 (jb M j B) (eS E) H locs → lv_has ls 5 [(0, .ref (vA V j 1)), (1, .int l1), (3, .int l3), (4, .int l4)] → k37 l1 l3 l4 = some r → Wq E H locs 37 ls []) {H : Heap} {locs : List Loc} {ls : Array Slot} {l1 : Int32} {l3 : Int32} {l4 : Int32} (hW : Wd V A H0 (jb M j B) (eS E) H locs) (hl : lv_has ls 5 [(0, .ref (vA V j 1)), (1, .int l1), (3, .int l3), (4, .int l4)]) (hF : FX4_followersOf_37s B k37 l1 l3 l4 = some r) : Wq E H locs 37 ls [] := by
  unfold FX4_followersOf_37s at hF
  refine q_iload Cx dX4_followersOf_37 (lv_at hl 3 rfl) ?_
  refine q_aload_n Cx dX4_followersOf_39 rfl (lv_at hl 0 rfl) ?_
  refine qb_get (v := .int ((B 1) 0)) Cx hW (oP hj) ic4 0 (by decide) rfl wd_96 dX4_followersOf_40 ?_
  refine q_icmp_ge (tgt := 70) Cx dX4_followersOf_43 (by decide) (fun c11 => ?_) (fun c11 => ?_)
  · have hF := (if_pos c11).symm.trans hF
    refine q_iload_n Cx dX4_followersOf_70 rfl (lv_at hl 2 rfl) ?_
    cases hF
    exact hret _ _ _ _ dX4_followersOf_71 (nI32 _) hW
  · have hF := (if_neg c11).symm.trans hF
    refine q_aload_n Cx dX4_followersOf_46 rfl (lv_at hl 0 rfl) ?_
    refine q_get (v := .ref (vA V j 5)) Cx hW (oP hj) ic4 3 (by decide) rfl wd_103 dX4_followersOf_47 ?_
    refine q_iload Cx dX4_followersOf_50 (lv_at hl 3 rfl) ?_
    obtain ⟨h13, v12, e14, hF⟩ := ld_some hF
    refine qb_iald Cx hW (ai_5 hj) h13 e14 dX4_followersOf_52 ?_
    refine q_iload_n Cx dX4_followersOf_53 rfl (lv_at hl 1 rfl) ?_
    refine q_icmp_ne (tgt := 64) Cx dX4_followersOf_54 (by decide) (fun c15 => ?_) (fun c15 => ?_)
    · have hF := (if_neg c15).symm.trans hF
      obtain ⟨x16, e17, hF⟩ := lt1_some hF
      refine q_iinc (k := 3) (v := x16) (lv' := [(4, .int x16), (0, .ref (vA V j 1)), (1, .int l1), (3, .int l3)]) Cx dX4_followersOf_64 hl rfl e17.symm (by decide) rfl (fun ls hl => ?_)
      refine q_goto (tgt := 37) Cx dX4_followersOf_67 (by decide) ?_
      exact hk37 hW (lv_sub hl [1, 2, 3, 0] rfl) hF
    · have hF := (if_pos c15).symm.trans hF
      refine q_iload_n Cx dX4_followersOf_57 rfl (lv_at hl 2 rfl) ?_
      refine q_iconst (v := (1 : Int32)) Cx dX4_followersOf_58 (by decide) ?_
      refine q_iload Cx dX4_followersOf_59 (lv_at hl 3 rfl) ?_
      refine q_ishl Cx dX4_followersOf_61 ?_
      refine q_ior Cx dX4_followersOf_62 ?_
      obtain ⟨x18, e19, hF⟩ := lt1_some hF
      refine q_topi e19 ?_
      refine q_istore_n (lv' := [(3, .int x18), (0, .ref (vA V j 1)), (1, .int l1), (4, .int l4)]) Cx dX4_followersOf_63 rfl hl (by decide) rfl (fun ls hl => ?_)
      obtain ⟨x20, e21, hF⟩ := lt1_some hF
      refine q_iinc (k := 3) (v := x20) (lv' := [(4, .int x20), (3, .int x18), (0, .ref (vA V j 1)), (1, .int l1)]) Cx dX4_followersOf_64 hl rfl e21.symm (by decide) rfl (fun ls hl => ?_)
      refine q_goto (tgt := 37) Cx dX4_followersOf_67 (by decide) ?_
      exact hk37 hW (lv_sub hl [2, 3, 1, 0] rfl) hF
def FX4_followersOf_37 (B : Blk) : Nat → Int32 → Int32 → Int32 → Option Int32
  | 0 => fun _ _ _ => none
  | n + 1 => FX4_followersOf_37s B (FX4_followersOf_37 B n)
set_option maxRecDepth 100000 in
theorem wX4_followersOf_37 {E : WE} {V : VT} {A : Nat → Prop} {H0 : Heap} {M : Mem} {j : Nat} (hj : j < 11) (Cx : CX E RX4 cX4_followersOf 5 2 45) {r : Int32} {B : Blk} (hret : RetI E V A H0 cX4_followersOf .int r (jb M j B)) : ∀ (n : Nat) {H : Heap} {locs : List Loc} {ls : Array Slot} {l1 : Int32} {l3 : Int32} {l4 : Int32}, Wd V A H0 (jb M j B) (eS E) H locs → lv_has ls 5 [(0, .ref (vA V j 1)), (1, .int l1), (3, .int l3), (4, .int l4)] → FX4_followersOf_37 B n l1 l3 l4 = some r → Wq E H locs 37 ls [] := by
  intro n
  induction n with
  | zero => intro _ _ _ _ _ _ hW hl hF; cases hF
  | succ n ih => intro _ _ _ _ _ _ hW hl hF; exact wX4_followersOf_37s hj Cx hret ih hW hl hF
def FX4_followersOf (B : Blk) (l1 : Int32) : Option Int32 :=
  ld (B 3) 24 l1 fun v1 =>
  c1 (FX4_placeOf B l1) fun r4 =>
  c1 (FX4_inRow B v1 (r4 + (1 : Int32))) fun r6 =>
  c1 (FX4_has B r6) fun r8 =>
  if r8 = 0 then
    FX4_followersOf_37 B fu l1 (0 : Int32) (0 : Int32)
  else
    lt1 ((1 : Int32) <<< (r6 &&& 31)) fun x22 =>
    FX4_followersOf_37 B fu l1 x22 (0 : Int32)
set_option maxRecDepth 100000 in
set_option maxHeartbeats 4000000 in
theorem wX4_followersOf {E : WE} {V : VT} {A : Nat → Prop} {H0 : Heap} {M : Mem} {j : Nat} (hj : j < 11) (Cx : CX E RX4 cX4_followersOf 5 2 45) {r : Int32} {B : Blk} (hret : RetI E V A H0 cX4_followersOf .int r (jb M j B)) {H : Heap} {locs : List Loc} {ls : Array Slot} {l1 : Int32} (hW : Wd V A H0 (jb M j B) (eS E) H locs) (hl : lv_has ls 5 [(0, .ref (vA V j 1)), (1, .int l1)]) (hF : FX4_followersOf B l1 = some r) : Wq E H locs 0 ls [] := by
  unfold FX4_followersOf at hF
  refine q_aload_n Cx dX4_followersOf_0 rfl (lv_at hl 0 rfl) ?_
  refine q_aload_n Cx dX4_followersOf_1 rfl (lv_at hl 0 rfl) ?_
  refine q_get (v := .ref (vA V j 3)) Cx hW (oP hj) ic4 1 (by decide) rfl wd_99 dX4_followersOf_2 ?_
  refine q_iload_n Cx dX4_followersOf_5 rfl (lv_at hl 1 rfl) ?_
  obtain ⟨h2, v1, e3, hF⟩ := ld_some hF
  refine qb_iald Cx hW (ai_3 hj) h2 e3 dX4_followersOf_6 ?_
  refine q_aload_n Cx dX4_followersOf_7 rfl (lv_at hl 0 rfl) ?_
  refine q_iload_n Cx dX4_followersOf_8 rfl (lv_at hl 1 rfl) ?_
  obtain ⟨r4, e5, hF⟩ := c1_some hF
  refine q_callI (as := [.int l1]) (rest := [.int v1, .ref (vA V j 1)]) Cx (kX4_placeOf hj e5) okX4_placeOf ovX4_placeOf wd_361 ⟨rfl, rfl, by decide, by decide⟩ hW (oP hj) ic4 rfl hl.1 (Nat.le_of_ble_eq_true rfl) rfl dX4_followersOf_9 (fun H locs hW => ?_)
  refine q_iconst (v := (1 : Int32)) Cx dX4_followersOf_12 (by decide) ?_
  refine q_iadd Cx dX4_followersOf_13 ?_
  obtain ⟨r6, e7, hF⟩ := c1_some hF
  refine q_callI (as := [.int v1, .int (r4 + (1 : Int32))]) (rest := []) Cx (kX4_inRow hj e7) okX4_inRow ovX4_inRow wd_325 ⟨rfl, rfl, by decide, by decide⟩ hW (oP hj) ic4 rfl hl.1 (Nat.le_of_ble_eq_true rfl) rfl dX4_followersOf_14 (fun H locs hW => ?_)
  refine q_istore_n (lv' := [(2, .int r6), (0, .ref (vA V j 1)), (1, .int l1)]) Cx dX4_followersOf_17 rfl hl (by decide) rfl (fun ls hl => ?_)
  refine q_aload_n Cx dX4_followersOf_18 rfl (lv_at hl 1 rfl) ?_
  refine q_iload_n Cx dX4_followersOf_19 rfl (lv_at hl 0 rfl) ?_
  obtain ⟨r8, e9, hF⟩ := c1_some hF
  refine q_callI (as := [.int r6]) (rest := []) Cx (kX4_has hj e9) okX4_has ovX4_has wd_333 ⟨rfl, rfl, by decide, by decide⟩ hW (oP hj) ic4 rfl hl.1 (Nat.le_of_ble_eq_true rfl) rfl dX4_followersOf_20 (fun H locs hW => ?_)
  refine q_if_eq (tgt := 32) Cx dX4_followersOf_23 (by decide) (fun c10 => ?_) (fun c10 => ?_)
  · have hF := (if_pos c10).symm.trans hF
    refine q_iconst (v := (0 : Int32)) Cx dX4_followersOf_32 (by decide) ?_
    refine q_istore_n (lv' := [(3, .int (0 : Int32)), (2, .int r6), (0, .ref (vA V j 1)), (1, .int l1)]) Cx dX4_followersOf_33 rfl hl (by decide) rfl (fun ls hl => ?_)
    refine q_iconst (v := (0 : Int32)) Cx dX4_followersOf_34 (by decide) ?_
    refine q_istore (lv' := [(4, .int (0 : Int32)), (3, .int (0 : Int32)), (2, .int r6), (0, .ref (vA V j 1)), (1, .int l1)]) Cx dX4_followersOf_35 hl (by decide) rfl (fun ls hl => ?_)
    exact wX4_followersOf_37 hj Cx hret fu hW (lv_sub hl [3, 4, 1, 0] rfl) hF
  · have hF := (if_neg c10).symm.trans hF
    refine q_iconst (v := (1 : Int32)) Cx dX4_followersOf_26 (by decide) ?_
    refine q_iload_n Cx dX4_followersOf_27 rfl (lv_at hl 0 rfl) ?_
    refine q_ishl Cx dX4_followersOf_28 ?_
    refine q_goto (tgt := 33) Cx dX4_followersOf_29 (by decide) ?_
    obtain ⟨x22, e23, hF⟩ := lt1_some hF
    refine q_topi e23 ?_
    refine q_istore_n (lv' := [(3, .int x22), (2, .int r6), (0, .ref (vA V j 1)), (1, .int l1)]) Cx dX4_followersOf_33 rfl hl (by decide) rfl (fun ls hl => ?_)
    refine q_iconst (v := (0 : Int32)) Cx dX4_followersOf_34 (by decide) ?_
    refine q_istore (lv' := [(4, .int (0 : Int32)), (3, .int x22), (2, .int r6), (0, .ref (vA V j 1)), (1, .int l1)]) Cx dX4_followersOf_35 hl (by decide) rfl (fun ls hl => ?_)
    exact wX4_followersOf_37 hj Cx hret fu hW (lv_sub hl [3, 4, 1, 0] rfl) hF
set_option maxRecDepth 100000 in
theorem kX4_followersOf {l : Launch} {V : VT} {M : Mem} {j : Nat} (hj : j < 11) {B : Blk} {l1 : Int32} {r : Int32} (hF : FX4_followersOf B l1 = some r) : MetI l V yX4_followersOf cX4_followersOf 5 .int ({ frames := 2, cells := 0, slots := 0, locals := 45 } : Room) [.ref (vA V j 1), .int l1] r (jb M j B) (jb M j B) := metI_of (by decide) (Nat.le_of_ble_eq_true rfl) (fun E H0 _ Cx hret H locs ls hW hl => wX4_followersOf hj Cx hret hW hl hF)
theorem dX4_endOfAll_0 : decode cX4_endOfAll 0 = .ok (.iconst 0, 1) := by decide +kernel
theorem dX4_endOfAll_1 : decode cX4_endOfAll 1 = .ok (.istore_n 1, 1) := by decide +kernel
theorem dX4_endOfAll_2 : decode cX4_endOfAll 2 = .ok (.iconst 0, 1) := by decide +kernel
theorem dX4_endOfAll_3 : decode cX4_endOfAll 3 = .ok (.istore_n 2, 1) := by decide +kernel
theorem dX4_endOfAll_4 : decode cX4_endOfAll 4 = .ok (.iload_n 2, 1) := by decide +kernel
theorem dX4_endOfAll_5 : decode cX4_endOfAll 5 = .ok (.aload_n 0, 1) := by decide +kernel
theorem dX4_endOfAll_6 : decode cX4_endOfAll 6 = .ok (.getfield 39, 3) := by decide +kernel
theorem dX4_endOfAll_9 : decode cX4_endOfAll 9 = .ok (.if_icmp .ge 20, 3) := by decide +kernel
theorem dX4_endOfAll_12 : decode cX4_endOfAll 12 = .ok (.iload_n 1, 1) := by decide +kernel
theorem dX4_endOfAll_13 : decode cX4_endOfAll 13 = .ok (.aload_n 0, 1) := by decide +kernel
theorem dX4_endOfAll_14 : decode cX4_endOfAll 14 = .ok (.getfield 21, 3) := by decide +kernel
theorem dX4_endOfAll_17 : decode cX4_endOfAll 17 = .ok (.iload_n 2, 1) := by decide +kernel
theorem dX4_endOfAll_18 : decode cX4_endOfAll 18 = .ok (.iaload, 1) := by decide +kernel
theorem dX4_endOfAll_19 : decode cX4_endOfAll 19 = .ok (.invokestatic 57, 3) := by decide +kernel
theorem dX4_endOfAll_22 : decode cX4_endOfAll 22 = .ok (.istore_n 1, 1) := by decide +kernel
theorem dX4_endOfAll_23 : decode cX4_endOfAll 23 = .ok (.iinc 2 1, 3) := by decide +kernel
theorem dX4_endOfAll_26 : decode cX4_endOfAll 26 = .ok (.goto (-22), 3) := by decide +kernel
theorem dX4_endOfAll_29 : decode cX4_endOfAll 29 = .ok (.iload_n 1, 1) := by decide +kernel
theorem dX4_endOfAll_30 : decode cX4_endOfAll 30 = .ok (.ireturn, 1) := by decide +kernel
theorem okX4_endOfAll : CalOK yX4_endOfAll cX4_endOfAll 3 (some .int) 0 := ⟨wd_69, wd_547, by decide +kernel⟩
theorem ovX4_endOfAll : VirOK yX4_endOfAll := ⟨wd_545, wd_546⟩
def FX4_endOfAll_4s (B : Blk) (k4 : Int32 → Int32 → Option Int32) (l1 : Int32) (l2 : Int32) : Option Int32 :=
  if ((B 1) 0) ≤ l2 then
    some l1
  else
    ld (B 6) 24 l2 fun v2 =>
    lt1 (if l1 < v2 then v2 else l1) fun x5 =>
    lt1 (l2 + (1 : Int32)) fun x7 =>
    k4 x5 x7
set_option maxRecDepth 100000 in
set_option maxHeartbeats 4000000 in
theorem wX4_endOfAll_4s {E : WE} {V : VT} {A : Nat → Prop} {H0 : Heap} {M : Mem} {j : Nat} (hj : j < 11) (Cx : CX E RX4 cX4_endOfAll 3 1 40) {r : Int32} {B : Blk} (hret : RetI E V A H0 cX4_endOfAll .int r (jb M j B)) {k4 : Int32 → Int32 → Option Int32} (hk4 : ∀ {H : Heap} {locs : List Loc} {ls : Array Slot} {l1 : Int32} {l2 : Int32}, Wd V A H0 (jb M j B) (eS E) H locs → lv_has ls 3 [(0, .ref (vA V j 1)), (1, .int l1), (2, .int l2)] → k4 l1 l2 = some r → Wq E H locs 4 ls []) {H : Heap} {locs : List Loc} {ls : Array Slot} {l1 : Int32} {l2 : Int32} (hW : Wd V A H0 (jb M j B) (eS E) H locs) (hl : lv_has ls 3 [(0, .ref (vA V j 1)), (1, .int l1), (2, .int l2)]) (hF : FX4_endOfAll_4s B k4 l1 l2 = some r) : Wq E H locs 4 ls [] := by
  unfold FX4_endOfAll_4s at hF
  refine q_iload_n Cx dX4_endOfAll_4 rfl (lv_at hl 2 rfl) ?_
  refine q_aload_n Cx dX4_endOfAll_5 rfl (lv_at hl 0 rfl) ?_
  refine qb_get (v := .int ((B 1) 0)) Cx hW (oP hj) ic4 0 (by decide) rfl wd_96 dX4_endOfAll_6 ?_
  refine q_icmp_ge (tgt := 29) Cx dX4_endOfAll_9 (by decide) (fun c1 => ?_) (fun c1 => ?_)
  · have hF := (if_pos c1).symm.trans hF
    refine q_iload_n Cx dX4_endOfAll_29 rfl (lv_at hl 1 rfl) ?_
    cases hF
    exact hret _ _ _ _ dX4_endOfAll_30 (nI32 _) hW
  · have hF := (if_neg c1).symm.trans hF
    refine q_iload_n Cx dX4_endOfAll_12 rfl (lv_at hl 1 rfl) ?_
    refine q_aload_n Cx dX4_endOfAll_13 rfl (lv_at hl 0 rfl) ?_
    refine q_get (v := .ref (vA V j 6)) Cx hW (oP hj) ic4 4 (by decide) rfl wd_105 dX4_endOfAll_14 ?_
    refine q_iload_n Cx dX4_endOfAll_17 rfl (lv_at hl 2 rfl) ?_
    obtain ⟨h3, v2, e4, hF⟩ := ld_some hF
    refine qb_iald Cx hW (ai_6 hj) h3 e4 dX4_endOfAll_18 ?_
    obtain ⟨x5, e6, hF⟩ := lt1_some hF
    refine q_max Cx wd_334 wd_335 wd_75 wd_336 hl.1 (by decide) (Nat.le_of_ble_eq_true rfl) e6.symm dX4_endOfAll_19 ?_
    refine q_istore_n (lv' := [(1, .int x5), (0, .ref (vA V j 1)), (2, .int l2)]) Cx dX4_endOfAll_22 rfl hl (by decide) rfl (fun ls hl => ?_)
    obtain ⟨x7, e8, hF⟩ := lt1_some hF
    refine q_iinc (k := 2) (v := x7) (lv' := [(2, .int x7), (1, .int x5), (0, .ref (vA V j 1))]) Cx dX4_endOfAll_23 hl rfl e8.symm (by decide) rfl (fun ls hl => ?_)
    refine q_goto (tgt := 4) Cx dX4_endOfAll_26 (by decide) ?_
    exact hk4 hW (lv_sub hl [2, 1, 0] rfl) hF
def FX4_endOfAll_4 (B : Blk) : Nat → Int32 → Int32 → Option Int32
  | 0 => fun _ _ => none
  | n + 1 => FX4_endOfAll_4s B (FX4_endOfAll_4 B n)
set_option maxRecDepth 100000 in
theorem wX4_endOfAll_4 {E : WE} {V : VT} {A : Nat → Prop} {H0 : Heap} {M : Mem} {j : Nat} (hj : j < 11) (Cx : CX E RX4 cX4_endOfAll 3 1 40) {r : Int32} {B : Blk} (hret : RetI E V A H0 cX4_endOfAll .int r (jb M j B)) : ∀ (n : Nat) {H : Heap} {locs : List Loc} {ls : Array Slot} {l1 : Int32} {l2 : Int32}, Wd V A H0 (jb M j B) (eS E) H locs → lv_has ls 3 [(0, .ref (vA V j 1)), (1, .int l1), (2, .int l2)] → FX4_endOfAll_4 B n l1 l2 = some r → Wq E H locs 4 ls [] := by
  intro n
  induction n with
  | zero => intro _ _ _ _ _ hW hl hF; cases hF
  | succ n ih => intro _ _ _ _ _ hW hl hF; exact wX4_endOfAll_4s hj Cx hret ih hW hl hF
def FX4_endOfAll (B : Blk) : Option Int32 :=
  FX4_endOfAll_4 B fu (0 : Int32) (0 : Int32)
set_option maxRecDepth 100000 in
set_option maxHeartbeats 4000000 in
theorem wX4_endOfAll {E : WE} {V : VT} {A : Nat → Prop} {H0 : Heap} {M : Mem} {j : Nat} (hj : j < 11) (Cx : CX E RX4 cX4_endOfAll 3 1 40) {r : Int32} {B : Blk} (hret : RetI E V A H0 cX4_endOfAll .int r (jb M j B)) {H : Heap} {locs : List Loc} {ls : Array Slot} (hW : Wd V A H0 (jb M j B) (eS E) H locs) (hl : lv_has ls 3 [(0, .ref (vA V j 1))]) (hF : FX4_endOfAll B = some r) : Wq E H locs 0 ls [] := by
  unfold FX4_endOfAll at hF
  refine q_iconst (v := (0 : Int32)) Cx dX4_endOfAll_0 (by decide) ?_
  refine q_istore_n (lv' := [(1, .int (0 : Int32)), (0, .ref (vA V j 1))]) Cx dX4_endOfAll_1 rfl hl (by decide) rfl (fun ls hl => ?_)
  refine q_iconst (v := (0 : Int32)) Cx dX4_endOfAll_2 (by decide) ?_
  refine q_istore_n (lv' := [(2, .int (0 : Int32)), (1, .int (0 : Int32)), (0, .ref (vA V j 1))]) Cx dX4_endOfAll_3 rfl hl (by decide) rfl (fun ls hl => ?_)
  exact wX4_endOfAll_4 hj Cx hret fu hW (lv_sub hl [2, 1, 0] rfl) hF
set_option maxRecDepth 100000 in
theorem kX4_endOfAll {l : Launch} {V : VT} {M : Mem} {j : Nat} (hj : j < 11) {B : Blk} {r : Int32} (hF : FX4_endOfAll B = some r) : MetI l V yX4_endOfAll cX4_endOfAll 3 .int ({ frames := 1, cells := 0, slots := 0, locals := 40 } : Room) [.ref (vA V j 1)] r (jb M j B) (jb M j B) := metI_of (by decide) (Nat.le_of_ble_eq_true rfl) (fun E H0 _ Cx hret H locs ls hW hl => wX4_endOfAll hj Cx hret hW hl hF)
theorem dX4_waitedFor_0 : decode cX4_waitedFor 0 = .ok (.aload_n 0, 1) := by decide +kernel
theorem dX4_waitedFor_1 : decode cX4_waitedFor 1 = .ok (.iload_n 1, 1) := by decide +kernel
theorem dX4_waitedFor_2 : decode cX4_waitedFor 2 = .ok (.invokevirtual 79, 3) := by decide +kernel
theorem dX4_waitedFor_5 : decode cX4_waitedFor 5 = .ok (.istore_n 2, 1) := by decide +kernel
theorem dX4_waitedFor_6 : decode cX4_waitedFor 6 = .ok (.aload_n 0, 1) := by decide +kernel
theorem dX4_waitedFor_7 : decode cX4_waitedFor 7 = .ok (.iload_n 1, 1) := by decide +kernel
theorem dX4_waitedFor_8 : decode cX4_waitedFor 8 = .ok (.invokevirtual 82, 3) := by decide +kernel
theorem dX4_waitedFor_11 : decode cX4_waitedFor 11 = .ok (.istore_n 3, 1) := by decide +kernel
theorem dX4_waitedFor_12 : decode cX4_waitedFor 12 = .ok (.aload_n 0, 1) := by decide +kernel
theorem dX4_waitedFor_13 : decode cX4_waitedFor 13 = .ok (.getfield 18, 3) := by decide +kernel
theorem dX4_waitedFor_16 : decode cX4_waitedFor 16 = .ok (.iload_n 1, 1) := by decide +kernel
theorem dX4_waitedFor_17 : decode cX4_waitedFor 17 = .ok (.iaload, 1) := by decide +kernel
theorem dX4_waitedFor_18 : decode cX4_waitedFor 18 = .ok (.istore 4, 2) := by decide +kernel
theorem dX4_waitedFor_20 : decode cX4_waitedFor 20 = .ok (.aload_n 0, 1) := by decide +kernel
theorem dX4_waitedFor_21 : decode cX4_waitedFor 21 = .ok (.iload_n 3, 1) := by decide +kernel
theorem dX4_waitedFor_22 : decode cX4_waitedFor 22 = .ok (.invokevirtual 68, 3) := by decide +kernel
theorem dX4_waitedFor_25 : decode cX4_waitedFor 25 = .ok (.ifCond .eq 19, 3) := by decide +kernel
theorem dX4_waitedFor_28 : decode cX4_waitedFor 28 = .ok (.aload_n 0, 1) := by decide +kernel
theorem dX4_waitedFor_29 : decode cX4_waitedFor 29 = .ok (.getfield 21, 3) := by decide +kernel
theorem dX4_waitedFor_32 : decode cX4_waitedFor 32 = .ok (.iload_n 3, 1) := by decide +kernel
theorem dX4_waitedFor_33 : decode cX4_waitedFor 33 = .ok (.iaload, 1) := by decide +kernel
theorem dX4_waitedFor_34 : decode cX4_waitedFor 34 = .ok (.iload_n 2, 1) := by decide +kernel
theorem dX4_waitedFor_35 : decode cX4_waitedFor 35 = .ok (.if_icmp .ne 9, 3) := by decide +kernel
theorem dX4_waitedFor_38 : decode cX4_waitedFor 38 = .ok (.iconst 1, 1) := by decide +kernel
theorem dX4_waitedFor_39 : decode cX4_waitedFor 39 = .ok (.iload_n 3, 1) := by decide +kernel
theorem dX4_waitedFor_40 : decode cX4_waitedFor 40 = .ok (.ishl, 1) := by decide +kernel
theorem dX4_waitedFor_41 : decode cX4_waitedFor 41 = .ok (.goto 4, 3) := by decide +kernel
theorem dX4_waitedFor_44 : decode cX4_waitedFor 44 = .ok (.iconst 0, 1) := by decide +kernel
theorem dX4_waitedFor_45 : decode cX4_waitedFor 45 = .ok (.istore 5, 2) := by decide +kernel
theorem dX4_waitedFor_47 : decode cX4_waitedFor 47 = .ok (.aload_n 0, 1) := by decide +kernel
theorem dX4_waitedFor_48 : decode cX4_waitedFor 48 = .ok (.iload 4, 2) := by decide +kernel
theorem dX4_waitedFor_50 : decode cX4_waitedFor 50 = .ok (.invokevirtual 68, 3) := by decide +kernel
theorem dX4_waitedFor_53 : decode cX4_waitedFor 53 = .ok (.ifCond .eq 24, 3) := by decide +kernel
theorem dX4_waitedFor_56 : decode cX4_waitedFor 56 = .ok (.aload_n 0, 1) := by decide +kernel
theorem dX4_waitedFor_57 : decode cX4_waitedFor 57 = .ok (.getfield 21, 3) := by decide +kernel
theorem dX4_waitedFor_60 : decode cX4_waitedFor 60 = .ok (.iload 4, 2) := by decide +kernel
theorem dX4_waitedFor_62 : decode cX4_waitedFor 62 = .ok (.iaload, 1) := by decide +kernel
theorem dX4_waitedFor_63 : decode cX4_waitedFor 63 = .ok (.iload_n 2, 1) := by decide +kernel
theorem dX4_waitedFor_64 : decode cX4_waitedFor 64 = .ok (.if_icmp .ne 13, 3) := by decide +kernel
theorem dX4_waitedFor_67 : decode cX4_waitedFor 67 = .ok (.iload 5, 2) := by decide +kernel
theorem dX4_waitedFor_69 : decode cX4_waitedFor 69 = .ok (.iconst 1, 1) := by decide +kernel
theorem dX4_waitedFor_70 : decode cX4_waitedFor 70 = .ok (.iload 4, 2) := by decide +kernel
theorem dX4_waitedFor_72 : decode cX4_waitedFor 72 = .ok (.ishl, 1) := by decide +kernel
theorem dX4_waitedFor_73 : decode cX4_waitedFor 73 = .ok (.ior, 1) := by decide +kernel
theorem dX4_waitedFor_74 : decode cX4_waitedFor 74 = .ok (.goto 5, 3) := by decide +kernel
theorem dX4_waitedFor_77 : decode cX4_waitedFor 77 = .ok (.iload 5, 2) := by decide +kernel
theorem dX4_waitedFor_79 : decode cX4_waitedFor 79 = .ok (.ireturn, 1) := by decide +kernel
theorem okX4_waitedFor : CalOK yX4_waitedFor cX4_waitedFor 6 (some .int) 1 := ⟨wd_69, wd_603, by decide +kernel⟩
theorem ovX4_waitedFor : VirOK yX4_waitedFor := ⟨wd_602, wd_14⟩
def FX4_waitedFor_45 (B : Blk) (l2 : Int32) (l4 : Int32) (s0 : Int32) : Option Int32 :=
  c1 (FX4_has B l4) fun r11 =>
  if r11 = 0 then
    some s0
  else
    ld (B 6) 24 l4 fun v14 =>
    if v14 = l2 then
      some (s0 ||| ((1 : Int32) <<< (l4 &&& 31)))
    else
      some s0
set_option maxRecDepth 100000 in
set_option maxHeartbeats 4000000 in
theorem wX4_waitedFor_45 {E : WE} {V : VT} {A : Nat → Prop} {H0 : Heap} {M : Mem} {j : Nat} (hj : j < 11) (Cx : CX E RX4 cX4_waitedFor 6 3 66) {r : Int32} {B : Blk} (hret : RetI E V A H0 cX4_waitedFor .int r (jb M j B)) {H : Heap} {locs : List Loc} {ls : Array Slot} {l2 : Int32} {l4 : Int32} {s0 : Int32} (hW : Wd V A H0 (jb M j B) (eS E) H locs) (hl : lv_has ls 6 [(0, .ref (vA V j 1)), (2, .int l2), (4, .int l4)]) (hF : FX4_waitedFor_45 B l2 l4 s0 = some r) : Wq E H locs 45 ls [.int s0] := by
  unfold FX4_waitedFor_45 at hF
  refine q_istore (lv' := [(5, .int s0), (0, .ref (vA V j 1)), (2, .int l2), (4, .int l4)]) Cx dX4_waitedFor_45 hl (by decide) rfl (fun ls hl => ?_)
  refine q_aload_n Cx dX4_waitedFor_47 rfl (lv_at hl 1 rfl) ?_
  refine q_iload Cx dX4_waitedFor_48 (lv_at hl 3 rfl) ?_
  obtain ⟨r11, e12, hF⟩ := c1_some hF
  refine q_callI (as := [.int l4]) (rest := []) Cx (kX4_has hj e12) okX4_has ovX4_has wd_333 ⟨rfl, rfl, by decide, by decide⟩ hW (oP hj) ic4 rfl hl.1 (Nat.le_of_ble_eq_true rfl) rfl dX4_waitedFor_50 (fun H locs hW => ?_)
  refine q_if_eq (tgt := 77) Cx dX4_waitedFor_53 (by decide) (fun c13 => ?_) (fun c13 => ?_)
  · have hF := (if_pos c13).symm.trans hF
    refine q_iload Cx dX4_waitedFor_77 (lv_at hl 0 rfl) ?_
    cases hF
    exact hret _ _ _ _ dX4_waitedFor_79 (nI32 _) hW
  · have hF := (if_neg c13).symm.trans hF
    refine q_aload_n Cx dX4_waitedFor_56 rfl (lv_at hl 1 rfl) ?_
    refine q_get (v := .ref (vA V j 6)) Cx hW (oP hj) ic4 4 (by decide) rfl wd_105 dX4_waitedFor_57 ?_
    refine q_iload Cx dX4_waitedFor_60 (lv_at hl 3 rfl) ?_
    obtain ⟨h15, v14, e16, hF⟩ := ld_some hF
    refine qb_iald Cx hW (ai_6 hj) h15 e16 dX4_waitedFor_62 ?_
    refine q_iload_n Cx dX4_waitedFor_63 rfl (lv_at hl 2 rfl) ?_
    refine q_icmp_ne (tgt := 77) Cx dX4_waitedFor_64 (by decide) (fun c17 => ?_) (fun c17 => ?_)
    · have hF := (if_neg c17).symm.trans hF
      refine q_iload Cx dX4_waitedFor_77 (lv_at hl 0 rfl) ?_
      cases hF
      exact hret _ _ _ _ dX4_waitedFor_79 (nI32 _) hW
    · have hF := (if_pos c17).symm.trans hF
      refine q_iload Cx dX4_waitedFor_67 (lv_at hl 0 rfl) ?_
      refine q_iconst (v := (1 : Int32)) Cx dX4_waitedFor_69 (by decide) ?_
      refine q_iload Cx dX4_waitedFor_70 (lv_at hl 3 rfl) ?_
      refine q_ishl Cx dX4_waitedFor_72 ?_
      refine q_ior Cx dX4_waitedFor_73 ?_
      refine q_goto (tgt := 79) Cx dX4_waitedFor_74 (by decide) ?_
      cases hF
      exact hret _ _ _ _ dX4_waitedFor_79 (nI32 _) hW
def FX4_waitedFor_44 (B : Blk) (l2 : Int32) (l4 : Int32) : Option Int32 :=
  FX4_waitedFor_45 B l2 l4 (0 : Int32)
set_option maxRecDepth 100000 in
set_option maxHeartbeats 4000000 in
theorem wX4_waitedFor_44 {E : WE} {V : VT} {A : Nat → Prop} {H0 : Heap} {M : Mem} {j : Nat} (hj : j < 11) (Cx : CX E RX4 cX4_waitedFor 6 3 66) {r : Int32} {B : Blk} (hret : RetI E V A H0 cX4_waitedFor .int r (jb M j B)) {H : Heap} {locs : List Loc} {ls : Array Slot} {l2 : Int32} {l4 : Int32} (hW : Wd V A H0 (jb M j B) (eS E) H locs) (hl : lv_has ls 6 [(0, .ref (vA V j 1)), (2, .int l2), (4, .int l4)]) (hF : FX4_waitedFor_44 B l2 l4 = some r) : Wq E H locs 44 ls [] := by
  unfold FX4_waitedFor_44 at hF
  refine q_iconst (v := (0 : Int32)) Cx dX4_waitedFor_44 (by decide) ?_
  exact wX4_waitedFor_45 hj Cx hret hW (lv_sub hl [0, 1, 2] rfl) hF
def FX4_waitedFor (B : Blk) (l1 : Int32) : Option Int32 :=
  c1 (FX4_startOf B l1) fun r1 =>
  c1 (FX4_inFrontOf B l1) fun r3 =>
  ld (B 5) 24 l1 fun v5 =>
  c1 (FX4_has B r3) fun r8 =>
  if r8 = 0 then
    FX4_waitedFor_44 B r1 v5
  else
    ld (B 6) 24 r3 fun v18 =>
    if v18 = r1 then
      FX4_waitedFor_45 B r1 v5 ((1 : Int32) <<< (r3 &&& 31))
    else
      FX4_waitedFor_44 B r1 v5
set_option maxRecDepth 100000 in
set_option maxHeartbeats 4000000 in
theorem wX4_waitedFor {E : WE} {V : VT} {A : Nat → Prop} {H0 : Heap} {M : Mem} {j : Nat} (hj : j < 11) (Cx : CX E RX4 cX4_waitedFor 6 3 66) {r : Int32} {B : Blk} (hret : RetI E V A H0 cX4_waitedFor .int r (jb M j B)) {H : Heap} {locs : List Loc} {ls : Array Slot} {l1 : Int32} (hW : Wd V A H0 (jb M j B) (eS E) H locs) (hl : lv_has ls 6 [(0, .ref (vA V j 1)), (1, .int l1)]) (hF : FX4_waitedFor B l1 = some r) : Wq E H locs 0 ls [] := by
  unfold FX4_waitedFor at hF
  refine q_aload_n Cx dX4_waitedFor_0 rfl (lv_at hl 0 rfl) ?_
  refine q_iload_n Cx dX4_waitedFor_1 rfl (lv_at hl 1 rfl) ?_
  obtain ⟨r1, e2, hF⟩ := c1_some hF
  refine q_callI (as := [.int l1]) (rest := []) Cx (kX4_startOf hj e2) okX4_startOf ovX4_startOf wd_604 ⟨rfl, rfl, by decide, by decide⟩ hW (oP hj) ic4 rfl hl.1 (Nat.le_of_ble_eq_true rfl) rfl dX4_waitedFor_2 (fun H locs hW => ?_)
  refine q_istore_n (lv' := [(2, .int r1), (0, .ref (vA V j 1)), (1, .int l1)]) Cx dX4_waitedFor_5 rfl hl (by decide) rfl (fun ls hl => ?_)
  refine q_aload_n Cx dX4_waitedFor_6 rfl (lv_at hl 1 rfl) ?_
  refine q_iload_n Cx dX4_waitedFor_7 rfl (lv_at hl 2 rfl) ?_
  obtain ⟨r3, e4, hF⟩ := c1_some hF
  refine q_callI (as := [.int l1]) (rest := []) Cx (kX4_inFrontOf hj e4) okX4_inFrontOf ovX4_inFrontOf wd_605 ⟨rfl, rfl, by decide, by decide⟩ hW (oP hj) ic4 rfl hl.1 (Nat.le_of_ble_eq_true rfl) rfl dX4_waitedFor_8 (fun H locs hW => ?_)
  refine q_istore_n (lv' := [(3, .int r3), (2, .int r1), (0, .ref (vA V j 1)), (1, .int l1)]) Cx dX4_waitedFor_11 rfl hl (by decide) rfl (fun ls hl => ?_)
  refine q_aload_n Cx dX4_waitedFor_12 rfl (lv_at hl 2 rfl) ?_
  refine q_get (v := .ref (vA V j 5)) Cx hW (oP hj) ic4 3 (by decide) rfl wd_103 dX4_waitedFor_13 ?_
  refine q_iload_n Cx dX4_waitedFor_16 rfl (lv_at hl 3 rfl) ?_
  obtain ⟨h6, v5, e7, hF⟩ := ld_some hF
  refine qb_iald Cx hW (ai_5 hj) h6 e7 dX4_waitedFor_17 ?_
  refine q_istore (lv' := [(4, .int v5), (3, .int r3), (2, .int r1), (0, .ref (vA V j 1)), (1, .int l1)]) Cx dX4_waitedFor_18 hl (by decide) rfl (fun ls hl => ?_)
  refine q_aload_n Cx dX4_waitedFor_20 rfl (lv_at hl 3 rfl) ?_
  refine q_iload_n Cx dX4_waitedFor_21 rfl (lv_at hl 1 rfl) ?_
  obtain ⟨r8, e9, hF⟩ := c1_some hF
  refine q_callI (as := [.int r3]) (rest := []) Cx (kX4_has hj e9) okX4_has ovX4_has wd_333 ⟨rfl, rfl, by decide, by decide⟩ hW (oP hj) ic4 rfl hl.1 (Nat.le_of_ble_eq_true rfl) rfl dX4_waitedFor_22 (fun H locs hW => ?_)
  refine q_if_eq (tgt := 44) Cx dX4_waitedFor_25 (by decide) (fun c10 => ?_) (fun c10 => ?_)
  · have hF := (if_pos c10).symm.trans hF
    exact wX4_waitedFor_44 hj Cx hret hW (lv_sub hl [3, 2, 0] rfl) hF
  · have hF := (if_neg c10).symm.trans hF
    refine q_aload_n Cx dX4_waitedFor_28 rfl (lv_at hl 3 rfl) ?_
    refine q_get (v := .ref (vA V j 6)) Cx hW (oP hj) ic4 4 (by decide) rfl wd_105 dX4_waitedFor_29 ?_
    refine q_iload_n Cx dX4_waitedFor_32 rfl (lv_at hl 1 rfl) ?_
    obtain ⟨h19, v18, e20, hF⟩ := ld_some hF
    refine qb_iald Cx hW (ai_6 hj) h19 e20 dX4_waitedFor_33 ?_
    refine q_iload_n Cx dX4_waitedFor_34 rfl (lv_at hl 2 rfl) ?_
    refine q_icmp_ne (tgt := 44) Cx dX4_waitedFor_35 (by decide) (fun c21 => ?_) (fun c21 => ?_)
    · have hF := (if_neg c21).symm.trans hF
      exact wX4_waitedFor_44 hj Cx hret hW (lv_sub hl [3, 2, 0] rfl) hF
    · have hF := (if_pos c21).symm.trans hF
      refine q_iconst (v := (1 : Int32)) Cx dX4_waitedFor_38 (by decide) ?_
      refine q_iload_n Cx dX4_waitedFor_39 rfl (lv_at hl 1 rfl) ?_
      refine q_ishl Cx dX4_waitedFor_40 ?_
      refine q_goto (tgt := 45) Cx dX4_waitedFor_41 (by decide) ?_
      exact wX4_waitedFor_45 hj Cx hret hW (lv_sub hl [3, 2, 0] rfl) hF
set_option maxRecDepth 100000 in
theorem kX4_waitedFor {l : Launch} {V : VT} {M : Mem} {j : Nat} (hj : j < 11) {B : Blk} {l1 : Int32} {r : Int32} (hF : FX4_waitedFor B l1 = some r) : MetI l V yX4_waitedFor cX4_waitedFor 6 .int ({ frames := 3, cells := 0, slots := 0, locals := 66 } : Room) [.ref (vA V j 1), .int l1] r (jb M j B) (jb M j B) := metI_of (by decide) (Nat.le_of_ble_eq_true rfl) (fun E H0 _ Cx hret H locs ls hW hl => wX4_waitedFor hj Cx hret hW hl hF)
theorem dX4_longestChain_0 : decode cX4_longestChain 0 = .ok (.aload_n 0, 1) := by decide +kernel
theorem dX4_longestChain_1 : decode cX4_longestChain 1 = .ok (.invokevirtual 72, 3) := by decide +kernel
theorem dX4_longestChain_4 : decode cX4_longestChain 4 = .ok (.istore_n 1, 1) := by decide +kernel
theorem dX4_longestChain_5 : decode cX4_longestChain 5 = .ok (.iconst 0, 1) := by decide +kernel
theorem dX4_longestChain_6 : decode cX4_longestChain 6 = .ok (.istore_n 2, 1) := by decide +kernel
theorem dX4_longestChain_7 : decode cX4_longestChain 7 = .ok (.aload_n 0, 1) := by decide +kernel
theorem dX4_longestChain_8 : decode cX4_longestChain 8 = .ok (.getfield 39, 3) := by decide +kernel
theorem dX4_longestChain_11 : decode cX4_longestChain 11 = .ok (.iconst 1, 1) := by decide +kernel
theorem dX4_longestChain_12 : decode cX4_longestChain 12 = .ok (.isub, 1) := by decide +kernel
theorem dX4_longestChain_13 : decode cX4_longestChain 13 = .ok (.istore_n 3, 1) := by decide +kernel
theorem dX4_longestChain_14 : decode cX4_longestChain 14 = .ok (.iload_n 3, 1) := by decide +kernel
theorem dX4_longestChain_15 : decode cX4_longestChain 15 = .ok (.ifCond .lt 51, 3) := by decide +kernel
theorem dX4_longestChain_18 : decode cX4_longestChain 18 = .ok (.aload_n 0, 1) := by decide +kernel
theorem dX4_longestChain_19 : decode cX4_longestChain 19 = .ok (.getfield 24, 3) := by decide +kernel
theorem dX4_longestChain_22 : decode cX4_longestChain 22 = .ok (.iload_n 3, 1) := by decide +kernel
theorem dX4_longestChain_23 : decode cX4_longestChain 23 = .ok (.iaload, 1) := by decide +kernel
theorem dX4_longestChain_24 : decode cX4_longestChain 24 = .ok (.istore 4, 2) := by decide +kernel
theorem dX4_longestChain_26 : decode cX4_longestChain 26 = .ok (.aload_n 0, 1) := by decide +kernel
theorem dX4_longestChain_27 : decode cX4_longestChain 27 = .ok (.getfield 21, 3) := by decide +kernel
theorem dX4_longestChain_30 : decode cX4_longestChain 30 = .ok (.iload 4, 2) := by decide +kernel
theorem dX4_longestChain_32 : decode cX4_longestChain 32 = .ok (.iaload, 1) := by decide +kernel
theorem dX4_longestChain_33 : decode cX4_longestChain 33 = .ok (.iload_n 1, 1) := by decide +kernel
theorem dX4_longestChain_34 : decode cX4_longestChain 34 = .ok (.if_icmp .eq 12, 3) := by decide +kernel
theorem dX4_longestChain_37 : decode cX4_longestChain 37 = .ok (.iload_n 2, 1) := by decide +kernel
theorem dX4_longestChain_38 : decode cX4_longestChain 38 = .ok (.iload 4, 2) := by decide +kernel
theorem dX4_longestChain_40 : decode cX4_longestChain 40 = .ok (.ishr, 1) := by decide +kernel
theorem dX4_longestChain_41 : decode cX4_longestChain 41 = .ok (.iconst 1, 1) := by decide +kernel
theorem dX4_longestChain_42 : decode cX4_longestChain 42 = .ok (.iand, 1) := by decide +kernel
theorem dX4_longestChain_43 : decode cX4_longestChain 43 = .ok (.ifCond .eq 17, 3) := by decide +kernel
theorem dX4_longestChain_46 : decode cX4_longestChain 46 = .ok (.iload_n 2, 1) := by decide +kernel
theorem dX4_longestChain_47 : decode cX4_longestChain 47 = .ok (.iconst 1, 1) := by decide +kernel
theorem dX4_longestChain_48 : decode cX4_longestChain 48 = .ok (.iload 4, 2) := by decide +kernel
theorem dX4_longestChain_50 : decode cX4_longestChain 50 = .ok (.ishl, 1) := by decide +kernel
theorem dX4_longestChain_51 : decode cX4_longestChain 51 = .ok (.aload_n 0, 1) := by decide +kernel
theorem dX4_longestChain_52 : decode cX4_longestChain 52 = .ok (.iload 4, 2) := by decide +kernel
theorem dX4_longestChain_54 : decode cX4_longestChain 54 = .ok (.invokevirtual 76, 3) := by decide +kernel
theorem dX4_longestChain_57 : decode cX4_longestChain 57 = .ok (.ior, 1) := by decide +kernel
theorem dX4_longestChain_58 : decode cX4_longestChain 58 = .ok (.ior, 1) := by decide +kernel
theorem dX4_longestChain_59 : decode cX4_longestChain 59 = .ok (.istore_n 2, 1) := by decide +kernel
theorem dX4_longestChain_60 : decode cX4_longestChain 60 = .ok (.iinc 3 (-1), 3) := by decide +kernel
theorem dX4_longestChain_63 : decode cX4_longestChain 63 = .ok (.goto (-49), 3) := by decide +kernel
theorem dX4_longestChain_66 : decode cX4_longestChain 66 = .ok (.iload_n 2, 1) := by decide +kernel
theorem dX4_longestChain_67 : decode cX4_longestChain 67 = .ok (.ireturn, 1) := by decide +kernel
theorem okX4_longestChain : CalOK yX4_longestChain cX4_longestChain 5 (some .int) 0 := ⟨wd_69, wd_598, by decide +kernel⟩
theorem ovX4_longestChain : VirOK yX4_longestChain := ⟨wd_596, wd_597⟩
def FX4_longestChain_46 (B : Blk) (k14 : Int32 → Int32 → Int32 → Option Int32) (l1 : Int32) (l2 : Int32) (l3 : Int32) (l4 : Int32) : Option Int32 :=
  c1 (FX4_waitedFor B l4) fun r13 =>
  lt1 (l2 ||| (((1 : Int32) <<< (l4 &&& 31)) ||| r13)) fun x15 =>
  lt1 (l3 + (-1 : Int32)) fun x17 =>
  k14 l1 x15 x17
set_option maxRecDepth 100000 in
set_option maxHeartbeats 4000000 in
theorem wX4_longestChain_46 {E : WE} {V : VT} {A : Nat → Prop} {H0 : Heap} {M : Mem} {j : Nat} (hj : j < 11) (Cx : CX E RX4 cX4_longestChain 5 4 91) {r : Int32} {B : Blk} (hret : RetI E V A H0 cX4_longestChain .int r (jb M j B)) {k14 : Int32 → Int32 → Int32 → Option Int32} (hk14 : ∀ {H : Heap} {locs : List Loc} {ls : Array Slot} {l1 : Int32} {l2 : Int32} {l3 : Int32}, Wd V A H0 (jb M j B) (eS E) H locs → lv_has ls 5 [(0, .ref (vA V j 1)), (1, .int l1), (2, .int l2), (3, .int l3)] → k14 l1 l2 l3 = some r → Wq E H locs 14 ls []) {H : Heap} {locs : List Loc} {ls : Array Slot} {l1 : Int32} {l2 : Int32} {l3 : Int32} {l4 : Int32} (hW : Wd V A H0 (jb M j B) (eS E) H locs) (hl : lv_has ls 5 [(0, .ref (vA V j 1)), (1, .int l1), (2, .int l2), (3, .int l3), (4, .int l4)]) (hF : FX4_longestChain_46 B k14 l1 l2 l3 l4 = some r) : Wq E H locs 46 ls [] := by
  unfold FX4_longestChain_46 at hF
  refine q_iload_n Cx dX4_longestChain_46 rfl (lv_at hl 2 rfl) ?_
  refine q_iconst (v := (1 : Int32)) Cx dX4_longestChain_47 (by decide) ?_
  refine q_iload Cx dX4_longestChain_48 (lv_at hl 4 rfl) ?_
  refine q_ishl Cx dX4_longestChain_50 ?_
  refine q_aload_n Cx dX4_longestChain_51 rfl (lv_at hl 0 rfl) ?_
  refine q_iload Cx dX4_longestChain_52 (lv_at hl 4 rfl) ?_
  obtain ⟨r13, e14, hF⟩ := c1_some hF
  refine q_callI (as := [.int l4]) (rest := [.int ((1 : Int32) <<< (l4 &&& 31)), .int l2]) Cx (kX4_waitedFor hj e14) okX4_waitedFor ovX4_waitedFor wd_600 ⟨rfl, rfl, by decide, by decide⟩ hW (oP hj) ic4 rfl hl.1 (Nat.le_of_ble_eq_true rfl) rfl dX4_longestChain_54 (fun H locs hW => ?_)
  refine q_ior Cx dX4_longestChain_57 ?_
  refine q_ior Cx dX4_longestChain_58 ?_
  obtain ⟨x15, e16, hF⟩ := lt1_some hF
  refine q_topi e16 ?_
  refine q_istore_n (lv' := [(2, .int x15), (0, .ref (vA V j 1)), (1, .int l1), (3, .int l3), (4, .int l4)]) Cx dX4_longestChain_59 rfl hl (by decide) rfl (fun ls hl => ?_)
  obtain ⟨x17, e18, hF⟩ := lt1_some hF
  refine q_iinc (k := 3) (v := x17) (lv' := [(3, .int x17), (2, .int x15), (0, .ref (vA V j 1)), (1, .int l1), (4, .int l4)]) Cx dX4_longestChain_60 hl rfl e18.symm (by decide) rfl (fun ls hl => ?_)
  refine q_goto (tgt := 14) Cx dX4_longestChain_63 (by decide) ?_
  exact hk14 hW (lv_sub hl [2, 3, 1, 0] rfl) hF
def FX4_longestChain_14s (B : Blk) (k14 : Int32 → Int32 → Int32 → Option Int32) (l1 : Int32) (l2 : Int32) (l3 : Int32) : Option Int32 :=
  if l3 < 0 then
    some l2
  else
    ld (B 7) 24 l3 fun v6 =>
    ld (B 6) 24 v6 fun v9 =>
    if v9 = l1 then
      FX4_longestChain_46 B k14 l1 l2 l3 v6
    else
      if ((l2 >>> (v6 &&& 31)) &&& (1 : Int32)) = 0 then
        lt1 (l3 + (-1 : Int32)) fun x20 =>
        k14 l1 l2 x20
      else
        FX4_longestChain_46 B k14 l1 l2 l3 v6
set_option maxRecDepth 100000 in
set_option maxHeartbeats 4000000 in
theorem wX4_longestChain_14s {E : WE} {V : VT} {A : Nat → Prop} {H0 : Heap} {M : Mem} {j : Nat} (hj : j < 11) (Cx : CX E RX4 cX4_longestChain 5 4 91) {r : Int32} {B : Blk} (hret : RetI E V A H0 cX4_longestChain .int r (jb M j B)) {k14 : Int32 → Int32 → Int32 → Option Int32} (hk14 : ∀ {H : Heap} {locs : List Loc} {ls : Array Slot} {l1 : Int32} {l2 : Int32} {l3 : Int32}, Wd V A H0 (jb M j B) (eS E) H locs → lv_has ls 5 [(0, .ref (vA V j 1)), (1, .int l1), (2, .int l2), (3, .int l3)] → k14 l1 l2 l3 = some r → Wq E H locs 14 ls []) {H : Heap} {locs : List Loc} {ls : Array Slot} {l1 : Int32} {l2 : Int32} {l3 : Int32} (hW : Wd V A H0 (jb M j B) (eS E) H locs) (hl : lv_has ls 5 [(0, .ref (vA V j 1)), (1, .int l1), (2, .int l2), (3, .int l3)]) (hF : FX4_longestChain_14s B k14 l1 l2 l3 = some r) : Wq E H locs 14 ls [] := by
  unfold FX4_longestChain_14s at hF
  refine q_iload_n Cx dX4_longestChain_14 rfl (lv_at hl 3 rfl) ?_
  refine q_if_lt (tgt := 66) Cx dX4_longestChain_15 (by decide) (fun c5 => ?_) (fun c5 => ?_)
  · have hF := (if_pos c5).symm.trans hF
    refine q_iload_n Cx dX4_longestChain_66 rfl (lv_at hl 2 rfl) ?_
    cases hF
    exact hret _ _ _ _ dX4_longestChain_67 (nI32 _) hW
  · have hF := (if_neg c5).symm.trans hF
    refine q_aload_n Cx dX4_longestChain_18 rfl (lv_at hl 0 rfl) ?_
    refine q_get (v := .ref (vA V j 7)) Cx hW (oP hj) ic4 5 (by decide) rfl wd_107 dX4_longestChain_19 ?_
    refine q_iload_n Cx dX4_longestChain_22 rfl (lv_at hl 3 rfl) ?_
    obtain ⟨h7, v6, e8, hF⟩ := ld_some hF
    refine qb_iald Cx hW (ai_7 hj) h7 e8 dX4_longestChain_23 ?_
    refine q_istore (lv' := [(4, .int v6), (0, .ref (vA V j 1)), (1, .int l1), (2, .int l2), (3, .int l3)]) Cx dX4_longestChain_24 hl (by decide) rfl (fun ls hl => ?_)
    refine q_aload_n Cx dX4_longestChain_26 rfl (lv_at hl 1 rfl) ?_
    refine q_get (v := .ref (vA V j 6)) Cx hW (oP hj) ic4 4 (by decide) rfl wd_105 dX4_longestChain_27 ?_
    refine q_iload Cx dX4_longestChain_30 (lv_at hl 0 rfl) ?_
    obtain ⟨h10, v9, e11, hF⟩ := ld_some hF
    refine qb_iald Cx hW (ai_6 hj) h10 e11 dX4_longestChain_32 ?_
    refine q_iload_n Cx dX4_longestChain_33 rfl (lv_at hl 2 rfl) ?_
    refine q_icmp_eq (tgt := 46) Cx dX4_longestChain_34 (by decide) (fun c12 => ?_) (fun c12 => ?_)
    · have hF := (if_pos c12).symm.trans hF
      exact wX4_longestChain_46 hj Cx hret hk14 hW (lv_sub hl [1, 2, 3, 4, 0] rfl) hF
    · have hF := (if_neg c12).symm.trans hF
      refine q_iload_n Cx dX4_longestChain_37 rfl (lv_at hl 3 rfl) ?_
      refine q_iload Cx dX4_longestChain_38 (lv_at hl 0 rfl) ?_
      refine q_ishr Cx dX4_longestChain_40 ?_
      refine q_iconst (v := (1 : Int32)) Cx dX4_longestChain_41 (by decide) ?_
      refine q_iand Cx dX4_longestChain_42 ?_
      refine q_if_eq (tgt := 60) Cx dX4_longestChain_43 (by decide) (fun c19 => ?_) (fun c19 => ?_)
      · have hF := (if_pos c19).symm.trans hF
        obtain ⟨x20, e21, hF⟩ := lt1_some hF
        refine q_iinc (k := 4) (v := x20) (lv' := [(3, .int x20), (4, .int v6), (0, .ref (vA V j 1)), (1, .int l1), (2, .int l2)]) Cx dX4_longestChain_60 hl rfl e21.symm (by decide) rfl (fun ls hl => ?_)
        refine q_goto (tgt := 14) Cx dX4_longestChain_63 (by decide) ?_
        exact hk14 hW (lv_sub hl [2, 3, 4, 0] rfl) hF
      · have hF := (if_neg c19).symm.trans hF
        exact wX4_longestChain_46 hj Cx hret hk14 hW (lv_sub hl [1, 2, 3, 4, 0] rfl) hF
def FX4_longestChain_14 (B : Blk) : Nat → Int32 → Int32 → Int32 → Option Int32
  | 0 => fun _ _ _ => none
  | n + 1 => FX4_longestChain_14s B (FX4_longestChain_14 B n)
set_option maxRecDepth 100000 in
theorem wX4_longestChain_14 {E : WE} {V : VT} {A : Nat → Prop} {H0 : Heap} {M : Mem} {j : Nat} (hj : j < 11) (Cx : CX E RX4 cX4_longestChain 5 4 91) {r : Int32} {B : Blk} (hret : RetI E V A H0 cX4_longestChain .int r (jb M j B)) : ∀ (n : Nat) {H : Heap} {locs : List Loc} {ls : Array Slot} {l1 : Int32} {l2 : Int32} {l3 : Int32}, Wd V A H0 (jb M j B) (eS E) H locs → lv_has ls 5 [(0, .ref (vA V j 1)), (1, .int l1), (2, .int l2), (3, .int l3)] → FX4_longestChain_14 B n l1 l2 l3 = some r → Wq E H locs 14 ls [] := by
  intro n
  induction n with
  | zero => intro _ _ _ _ _ _ hW hl hF; cases hF
  | succ n ih => intro _ _ _ _ _ _ hW hl hF; exact wX4_longestChain_14s hj Cx hret ih hW hl hF
def FX4_longestChain (B : Blk) : Option Int32 :=
  c1 (FX4_endOfAll B) fun r1 =>
  lt1 (((B 1) 0) - (1 : Int32)) fun x3 =>
  FX4_longestChain_14 B fu r1 (0 : Int32) x3
set_option maxRecDepth 100000 in
set_option maxHeartbeats 4000000 in
theorem wX4_longestChain {E : WE} {V : VT} {A : Nat → Prop} {H0 : Heap} {M : Mem} {j : Nat} (hj : j < 11) (Cx : CX E RX4 cX4_longestChain 5 4 91) {r : Int32} {B : Blk} (hret : RetI E V A H0 cX4_longestChain .int r (jb M j B)) {H : Heap} {locs : List Loc} {ls : Array Slot} (hW : Wd V A H0 (jb M j B) (eS E) H locs) (hl : lv_has ls 5 [(0, .ref (vA V j 1))]) (hF : FX4_longestChain B = some r) : Wq E H locs 0 ls [] := by
  unfold FX4_longestChain at hF
  refine q_aload_n Cx dX4_longestChain_0 rfl (lv_at hl 0 rfl) ?_
  obtain ⟨r1, e2, hF⟩ := c1_some hF
  refine q_callI (as := []) (rest := []) Cx (kX4_endOfAll hj e2) okX4_endOfAll ovX4_endOfAll wd_599 ⟨rfl, rfl, by decide, by decide⟩ hW (oP hj) ic4 rfl hl.1 (Nat.le_of_ble_eq_true rfl) rfl dX4_longestChain_1 (fun H locs hW => ?_)
  refine q_istore_n (lv' := [(1, .int r1), (0, .ref (vA V j 1))]) Cx dX4_longestChain_4 rfl hl (by decide) rfl (fun ls hl => ?_)
  refine q_iconst (v := (0 : Int32)) Cx dX4_longestChain_5 (by decide) ?_
  refine q_istore_n (lv' := [(2, .int (0 : Int32)), (1, .int r1), (0, .ref (vA V j 1))]) Cx dX4_longestChain_6 rfl hl (by decide) rfl (fun ls hl => ?_)
  refine q_aload_n Cx dX4_longestChain_7 rfl (lv_at hl 2 rfl) ?_
  refine qb_get (v := .int ((B 1) 0)) Cx hW (oP hj) ic4 0 (by decide) rfl wd_96 dX4_longestChain_8 ?_
  refine q_iconst (v := (1 : Int32)) Cx dX4_longestChain_11 (by decide) ?_
  refine q_isub Cx dX4_longestChain_12 ?_
  obtain ⟨x3, e4, hF⟩ := lt1_some hF
  refine q_topi e4 ?_
  refine q_istore_n (lv' := [(3, .int x3), (2, .int (0 : Int32)), (1, .int r1), (0, .ref (vA V j 1))]) Cx dX4_longestChain_13 rfl hl (by decide) rfl (fun ls hl => ?_)
  exact wX4_longestChain_14 hj Cx hret fu hW (lv_sub hl [3, 2, 1, 0] rfl) hF
set_option maxRecDepth 100000 in
theorem kX4_longestChain {l : Launch} {V : VT} {M : Mem} {j : Nat} (hj : j < 11) {B : Blk} {r : Int32} (hF : FX4_longestChain B = some r) : MetI l V yX4_longestChain cX4_longestChain 5 .int ({ frames := 4, cells := 0, slots := 0, locals := 91 } : Room) [.ref (vA V j 1)] r (jb M j B) (jb M j B) := metI_of (by decide) (Nat.le_of_ble_eq_true rfl) (fun E H0 _ Cx hret H locs ls hW hl => wX4_longestChain hj Cx hret hW hl hF)
end
section
theorem dX0_copyFrom_0 : decode cX0_copyFrom 0 = .ok (.aload_n 0, 1) := by decide +kernel
theorem dX0_copyFrom_1 : decode cX0_copyFrom 1 = .ok (.aload_n 1, 1) := by decide +kernel
theorem dX0_copyFrom_2 : decode cX0_copyFrom 2 = .ok (.getfield 24, 3) := by decide +kernel
theorem dX0_copyFrom_5 : decode cX0_copyFrom 5 = .ok (.putfield 24, 3) := by decide +kernel
theorem dX0_copyFrom_8 : decode cX0_copyFrom 8 = .ok (.aload_n 1, 1) := by decide +kernel
theorem dX0_copyFrom_9 : decode cX0_copyFrom 9 = .ok (.getfield 9, 3) := by decide +kernel
theorem dX0_copyFrom_12 : decode cX0_copyFrom 12 = .ok (.iconst 0, 1) := by decide +kernel
theorem dX0_copyFrom_13 : decode cX0_copyFrom 13 = .ok (.aload_n 0, 1) := by decide +kernel
theorem dX0_copyFrom_14 : decode cX0_copyFrom 14 = .ok (.getfield 9, 3) := by decide +kernel
theorem dX0_copyFrom_17 : decode cX0_copyFrom 17 = .ok (.iconst 0, 1) := by decide +kernel
theorem dX0_copyFrom_18 : decode cX0_copyFrom 18 = .ok (.bipush 40, 2) := by decide +kernel
theorem dX0_copyFrom_20 : decode cX0_copyFrom 20 = .ok (.invokestatic 28, 3) := by decide +kernel
theorem dX0_copyFrom_23 : decode cX0_copyFrom 23 = .ok (.aload_n 1, 1) := by decide +kernel
theorem dX0_copyFrom_24 : decode cX0_copyFrom 24 = .ok (.getfield 15, 3) := by decide +kernel
theorem dX0_copyFrom_27 : decode cX0_copyFrom 27 = .ok (.iconst 0, 1) := by decide +kernel
theorem dX0_copyFrom_28 : decode cX0_copyFrom 28 = .ok (.aload_n 0, 1) := by decide +kernel
theorem dX0_copyFrom_29 : decode cX0_copyFrom 29 = .ok (.getfield 15, 3) := by decide +kernel
theorem dX0_copyFrom_32 : decode cX0_copyFrom 32 = .ok (.iconst 0, 1) := by decide +kernel
theorem dX0_copyFrom_33 : decode cX0_copyFrom 33 = .ok (.bipush 40, 2) := by decide +kernel
theorem dX0_copyFrom_35 : decode cX0_copyFrom 35 = .ok (.invokestatic 28, 3) := by decide +kernel
theorem dX0_copyFrom_38 : decode cX0_copyFrom 38 = .ok (.aload_n 1, 1) := by decide +kernel
theorem dX0_copyFrom_39 : decode cX0_copyFrom 39 = .ok (.getfield 18, 3) := by decide +kernel
theorem dX0_copyFrom_42 : decode cX0_copyFrom 42 = .ok (.iconst 0, 1) := by decide +kernel
theorem dX0_copyFrom_43 : decode cX0_copyFrom 43 = .ok (.aload_n 0, 1) := by decide +kernel
theorem dX0_copyFrom_44 : decode cX0_copyFrom 44 = .ok (.getfield 18, 3) := by decide +kernel
theorem dX0_copyFrom_47 : decode cX0_copyFrom 47 = .ok (.iconst 0, 1) := by decide +kernel
theorem dX0_copyFrom_48 : decode cX0_copyFrom 48 = .ok (.bipush 40, 2) := by decide +kernel
theorem dX0_copyFrom_50 : decode cX0_copyFrom 50 = .ok (.invokestatic 28, 3) := by decide +kernel
theorem dX0_copyFrom_53 : decode cX0_copyFrom 53 = .ok (.aload_n 1, 1) := by decide +kernel
theorem dX0_copyFrom_54 : decode cX0_copyFrom 54 = .ok (.getfield 21, 3) := by decide +kernel
theorem dX0_copyFrom_57 : decode cX0_copyFrom 57 = .ok (.iconst 0, 1) := by decide +kernel
theorem dX0_copyFrom_58 : decode cX0_copyFrom 58 = .ok (.aload_n 0, 1) := by decide +kernel
theorem dX0_copyFrom_59 : decode cX0_copyFrom 59 = .ok (.getfield 21, 3) := by decide +kernel
theorem dX0_copyFrom_62 : decode cX0_copyFrom 62 = .ok (.iconst 0, 1) := by decide +kernel
theorem dX0_copyFrom_63 : decode cX0_copyFrom 63 = .ok (.bipush 40, 2) := by decide +kernel
theorem dX0_copyFrom_65 : decode cX0_copyFrom 65 = .ok (.invokestatic 28, 3) := by decide +kernel
theorem dX0_copyFrom_68 : decode cX0_copyFrom 68 = .ok (.return_, 1) := by decide +kernel
theorem okX0_copyFrom : CalOK yX0_copyFrom cX0_copyFrom 2 (none) 1 := ⟨wd_70, wd_289, by decide +kernel⟩
theorem ovX0_copyFrom : VirOK yX0_copyFrom := ⟨wd_287, wd_288⟩
def FX0_copyFrom (B : Blk) (Bo : Blk) : Option Blk :=
  lt1 (bs B 2 0 ((Bo 2) 0)) fun B1 =>
  lt1 (bc B1 12 (va_cpy (Bo 12) (B1 12) 0 0 40)) fun B3 =>
  lt1 (bc B3 13 (va_cpy (Bo 13) (B3 13) 0 0 40)) fun B5 =>
  lt1 (bc B5 14 (va_cpy (Bo 14) (B5 14) 0 0 40)) fun B7 =>
  lt1 (bc B7 15 (va_cpy (Bo 15) (B7 15) 0 0 40)) fun B9 =>
  some B9
set_option maxRecDepth 100000 in
set_option maxHeartbeats 4000000 in
theorem wX0_copyFrom {E : WE} {V : VT} {A : Nat → Prop} {H0 : Heap} {M : Mem} {j : Nat} (hj : j < 11) {o : Nat} (ho : o < 11) (hoj : o ≠ j) (Cx : CX E RX0 cX0_copyFrom 2 1 60) {B' : Blk} (hret : RetV E V A H0 cX0_copyFrom (jb M j B')) {Bo : Blk} (hBo : Bo = M o) {H : Heap} {locs : List Loc} {ls : Array Slot} {B : Blk} (hW : Wd V A H0 (jb M j B) (eS E) H locs) (hl : lv_has ls 2 [(0, .ref (vA V j 2)), (1, .ref (vA V o 2))]) (hF : FX0_copyFrom B Bo = some B') : Wq E H locs 0 ls [] := by
  unfold FX0_copyFrom at hF
  refine q_aload_n Cx dX0_copyFrom_0 rfl (lv_at hl 0 rfl) ?_
  refine q_aload_n Cx dX0_copyFrom_1 rfl (lv_at hl 1 rfl) ?_
  refine q_get (v := .int ((Bo 2) 0)) Cx hW (oC ho) ic0 0 (by decide) (by rw [jb_ne hoj, ← hBo]; rfl) wd_144 dX0_copyFrom_2 ?_
  obtain ⟨B1, e2, hF⟩ := lt1_some hF
  refine qb_put Cx hW (oC hj) ic0 0 (by decide) (Nat.le_of_ble_eq_true rfl) e2 rfl rfl ⟨nI32 _, rfl⟩ wd_144 dX0_copyFrom_5 (fun H locs hW => ?_)
  refine q_aload_n Cx dX0_copyFrom_8 rfl (lv_at hl 1 rfl) ?_
  refine q_get (v := .ref (vA V o 12)) Cx hW (oC ho) ic0 1 (by decide) rfl wd_147 dX0_copyFrom_9 ?_
  refine q_iconst (v := (0 : Int32)) Cx dX0_copyFrom_12 (by decide) ?_
  refine q_aload_n Cx dX0_copyFrom_13 rfl (lv_at hl 0 rfl) ?_
  refine q_get (v := .ref (vA V j 12)) Cx hW (oC hj) ic0 1 (by decide) rfl wd_147 dX0_copyFrom_14 ?_
  refine q_iconst (v := (0 : Int32)) Cx dX0_copyFrom_17 (by decide) ?_
  refine q_bipush (v := (40 : Int32)) Cx dX0_copyFrom_18 (by decide) ?_
  obtain ⟨B3, e4, hF⟩ := lt1_some hF
  refine qb_copy (cnt := (40 : Int32)) (B' := B3) Cx hW (ai_12 ho) (ai_12 hj) hoj (by decide) (by decide) (by decide) (by rw [e4, hBo]; rfl) wd_290 wd_285 wd_284 wd_74 hl.1 (by decide) (Nat.le_of_ble_eq_true rfl) dX0_copyFrom_20 (fun H locs hW => ?_)
  refine q_aload_n Cx dX0_copyFrom_23 rfl (lv_at hl 1 rfl) ?_
  refine q_get (v := .ref (vA V o 13)) Cx hW (oC ho) ic0 2 (by decide) rfl wd_149 dX0_copyFrom_24 ?_
  refine q_iconst (v := (0 : Int32)) Cx dX0_copyFrom_27 (by decide) ?_
  refine q_aload_n Cx dX0_copyFrom_28 rfl (lv_at hl 0 rfl) ?_
  refine q_get (v := .ref (vA V j 13)) Cx hW (oC hj) ic0 2 (by decide) rfl wd_149 dX0_copyFrom_29 ?_
  refine q_iconst (v := (0 : Int32)) Cx dX0_copyFrom_32 (by decide) ?_
  refine q_bipush (v := (40 : Int32)) Cx dX0_copyFrom_33 (by decide) ?_
  obtain ⟨B5, e6, hF⟩ := lt1_some hF
  refine qb_copy (cnt := (40 : Int32)) (B' := B5) Cx hW (ai_13 ho) (ai_13 hj) hoj (by decide) (by decide) (by decide) (by rw [e6, hBo]; rfl) wd_290 wd_285 wd_284 wd_74 hl.1 (by decide) (Nat.le_of_ble_eq_true rfl) dX0_copyFrom_35 (fun H locs hW => ?_)
  refine q_aload_n Cx dX0_copyFrom_38 rfl (lv_at hl 1 rfl) ?_
  refine q_get (v := .ref (vA V o 14)) Cx hW (oC ho) ic0 3 (by decide) rfl wd_151 dX0_copyFrom_39 ?_
  refine q_iconst (v := (0 : Int32)) Cx dX0_copyFrom_42 (by decide) ?_
  refine q_aload_n Cx dX0_copyFrom_43 rfl (lv_at hl 0 rfl) ?_
  refine q_get (v := .ref (vA V j 14)) Cx hW (oC hj) ic0 3 (by decide) rfl wd_151 dX0_copyFrom_44 ?_
  refine q_iconst (v := (0 : Int32)) Cx dX0_copyFrom_47 (by decide) ?_
  refine q_bipush (v := (40 : Int32)) Cx dX0_copyFrom_48 (by decide) ?_
  obtain ⟨B7, e8, hF⟩ := lt1_some hF
  refine qb_copy (cnt := (40 : Int32)) (B' := B7) Cx hW (ai_14 ho) (ai_14 hj) hoj (by decide) (by decide) (by decide) (by rw [e8, hBo]; rfl) wd_290 wd_285 wd_284 wd_74 hl.1 (by decide) (Nat.le_of_ble_eq_true rfl) dX0_copyFrom_50 (fun H locs hW => ?_)
  refine q_aload_n Cx dX0_copyFrom_53 rfl (lv_at hl 1 rfl) ?_
  refine q_get (v := .ref (vA V o 15)) Cx hW (oC ho) ic0 4 (by decide) rfl wd_153 dX0_copyFrom_54 ?_
  refine q_iconst (v := (0 : Int32)) Cx dX0_copyFrom_57 (by decide) ?_
  refine q_aload_n Cx dX0_copyFrom_58 rfl (lv_at hl 0 rfl) ?_
  refine q_get (v := .ref (vA V j 15)) Cx hW (oC hj) ic0 4 (by decide) rfl wd_153 dX0_copyFrom_59 ?_
  refine q_iconst (v := (0 : Int32)) Cx dX0_copyFrom_62 (by decide) ?_
  refine q_bipush (v := (40 : Int32)) Cx dX0_copyFrom_63 (by decide) ?_
  obtain ⟨B9, e10, hF⟩ := lt1_some hF
  refine qb_copy (cnt := (40 : Int32)) (B' := B9) Cx hW (ai_15 ho) (ai_15 hj) hoj (by decide) (by decide) (by decide) (by rw [e10, hBo]; rfl) wd_290 wd_285 wd_284 wd_74 hl.1 (by decide) (Nat.le_of_ble_eq_true rfl) dX0_copyFrom_65 (fun H locs hW => ?_)
  cases hF
  exact hret _ _ _ _ dX0_copyFrom_68 hW
set_option maxRecDepth 100000 in
theorem kX0_copyFrom {l : Launch} {V : VT} {M : Mem} {j : Nat} (hj : j < 11) {o : Nat} (ho : o < 11) (hoj : o ≠ j) {Bo : Blk} (hBo : Bo = M o) {B : Blk} {B' : Blk} (hF : FX0_copyFrom B Bo = some B') : MetV l V yX0_copyFrom cX0_copyFrom 2 ({ frames := 1, cells := 0, slots := 0, locals := 60 } : Room) [.ref (vA V j 2), .ref (vA V o 2)] (jb M j B) (jb M j B') := metV_of (by decide) (Nat.le_of_ble_eq_true rfl) (fun E H0 _ Cx hret H locs ls hW hl => wX0_copyFrom hj ho hoj Cx hret hBo hW hl hF)
theorem dX0_isFull_0 : decode cX0_isFull 0 = .ok (.aload_n 0, 1) := by decide +kernel
theorem dX0_isFull_1 : decode cX0_isFull 1 = .ok (.getfield 24, 3) := by decide +kernel
theorem dX0_isFull_4 : decode cX0_isFull 4 = .ok (.bipush 40, 2) := by decide +kernel
theorem dX0_isFull_6 : decode cX0_isFull 6 = .ok (.if_icmp .lt 7, 3) := by decide +kernel
theorem dX0_isFull_9 : decode cX0_isFull 9 = .ok (.iconst 1, 1) := by decide +kernel
theorem dX0_isFull_10 : decode cX0_isFull 10 = .ok (.goto 4, 3) := by decide +kernel
theorem dX0_isFull_13 : decode cX0_isFull 13 = .ok (.iconst 0, 1) := by decide +kernel
theorem dX0_isFull_14 : decode cX0_isFull 14 = .ok (.ireturn, 1) := by decide +kernel
theorem okX0_isFull : CalOK yX0_isFull cX0_isFull 1 (some .boolean) 0 := ⟨wd_70, wd_422, by decide +kernel⟩
theorem ovX0_isFull : VirOK yX0_isFull := ⟨wd_420, wd_421⟩
def FX0_isFull (B : Blk) : Option Int32 :=
  if ((B 2) 0) < (40 : Int32) then
    some (0 : Int32)
  else
    some (1 : Int32)
set_option maxRecDepth 100000 in
set_option maxHeartbeats 4000000 in
theorem wX0_isFull {E : WE} {V : VT} {A : Nat → Prop} {H0 : Heap} {M : Mem} {j : Nat} (hj : j < 11) (Cx : CX E RX0 cX0_isFull 1 0 0) {r : Int32} {B : Blk} (hret : RetI E V A H0 cX0_isFull .boolean r (jb M j B)) {H : Heap} {locs : List Loc} {ls : Array Slot} (hW : Wd V A H0 (jb M j B) (eS E) H locs) (hl : lv_has ls 1 [(0, .ref (vA V j 2))]) (hF : FX0_isFull B = some r) : Wq E H locs 0 ls [] := by
  unfold FX0_isFull at hF
  refine q_aload_n Cx dX0_isFull_0 rfl (lv_at hl 0 rfl) ?_
  refine qb_get (v := .int ((B 2) 0)) Cx hW (oC hj) ic0 0 (by decide) rfl wd_144 dX0_isFull_1 ?_
  refine q_bipush (v := (40 : Int32)) Cx dX0_isFull_4 (by decide) ?_
  refine q_icmp_lt (tgt := 13) Cx dX0_isFull_6 (by decide) (fun c1 => ?_) (fun c1 => ?_)
  · have hF := (if_pos c1).symm.trans hF
    refine q_iconst (v := (0 : Int32)) Cx dX0_isFull_13 (by decide) ?_
    cases hF
    exact hret _ _ _ _ dX0_isFull_14 (by rfl) hW
  · have hF := (if_neg c1).symm.trans hF
    refine q_iconst (v := (1 : Int32)) Cx dX0_isFull_9 (by decide) ?_
    refine q_goto (tgt := 14) Cx dX0_isFull_10 (by decide) ?_
    cases hF
    exact hret _ _ _ _ dX0_isFull_14 (by rfl) hW
set_option maxRecDepth 100000 in
theorem kX0_isFull {l : Launch} {V : VT} {M : Mem} {j : Nat} (hj : j < 11) {B : Blk} {r : Int32} (hF : FX0_isFull B = some r) : MetI l V yX0_isFull cX0_isFull 1 .boolean ({ frames := 0, cells := 0, slots := 0, locals := 0 } : Room) [.ref (vA V j 2)] r (jb M j B) (jb M j B) := metI_of (by decide) (Nat.le_of_ble_eq_true rfl) (fun E H0 _ Cx hret H locs ls hW hl => wX0_isFull hj Cx hret hW hl hF)
theorem dX0_append_0 : decode cX0_append 0 = .ok (.aload_n 0, 1) := by decide +kernel
theorem dX0_append_1 : decode cX0_append 1 = .ok (.invokevirtual 38, 3) := by decide +kernel
theorem dX0_append_4 : decode cX0_append 4 = .ok (.ifCond .eq 4, 3) := by decide +kernel
theorem dX0_append_7 : decode cX0_append 7 = .ok (.return_, 1) := by decide +kernel
theorem dX0_append_8 : decode cX0_append 8 = .ok (.aload_n 0, 1) := by decide +kernel
theorem dX0_append_9 : decode cX0_append 9 = .ok (.getfield 9, 3) := by decide +kernel
theorem dX0_append_12 : decode cX0_append 12 = .ok (.aload_n 0, 1) := by decide +kernel
theorem dX0_append_13 : decode cX0_append 13 = .ok (.getfield 24, 3) := by decide +kernel
theorem dX0_append_16 : decode cX0_append 16 = .ok (.iload_n 1, 1) := by decide +kernel
theorem dX0_append_17 : decode cX0_append 17 = .ok (.iastore, 1) := by decide +kernel
theorem dX0_append_18 : decode cX0_append 18 = .ok (.aload_n 0, 1) := by decide +kernel
theorem dX0_append_19 : decode cX0_append 19 = .ok (.getfield 15, 3) := by decide +kernel
theorem dX0_append_22 : decode cX0_append 22 = .ok (.aload_n 0, 1) := by decide +kernel
theorem dX0_append_23 : decode cX0_append 23 = .ok (.getfield 24, 3) := by decide +kernel
theorem dX0_append_26 : decode cX0_append 26 = .ok (.iload_n 2, 1) := by decide +kernel
theorem dX0_append_27 : decode cX0_append 27 = .ok (.iastore, 1) := by decide +kernel
theorem dX0_append_28 : decode cX0_append 28 = .ok (.aload_n 0, 1) := by decide +kernel
theorem dX0_append_29 : decode cX0_append 29 = .ok (.getfield 18, 3) := by decide +kernel
theorem dX0_append_32 : decode cX0_append 32 = .ok (.aload_n 0, 1) := by decide +kernel
theorem dX0_append_33 : decode cX0_append 33 = .ok (.getfield 24, 3) := by decide +kernel
theorem dX0_append_36 : decode cX0_append 36 = .ok (.iload_n 3, 1) := by decide +kernel
theorem dX0_append_37 : decode cX0_append 37 = .ok (.iastore, 1) := by decide +kernel
theorem dX0_append_38 : decode cX0_append 38 = .ok (.aload_n 0, 1) := by decide +kernel
theorem dX0_append_39 : decode cX0_append 39 = .ok (.getfield 21, 3) := by decide +kernel
theorem dX0_append_42 : decode cX0_append 42 = .ok (.aload_n 0, 1) := by decide +kernel
theorem dX0_append_43 : decode cX0_append 43 = .ok (.getfield 24, 3) := by decide +kernel
theorem dX0_append_46 : decode cX0_append 46 = .ok (.iload 4, 2) := by decide +kernel
theorem dX0_append_48 : decode cX0_append 48 = .ok (.iastore, 1) := by decide +kernel
theorem dX0_append_49 : decode cX0_append 49 = .ok (.aload_n 0, 1) := by decide +kernel
theorem dX0_append_50 : decode cX0_append 50 = .ok (.dup, 1) := by decide +kernel
theorem dX0_append_51 : decode cX0_append 51 = .ok (.getfield 24, 3) := by decide +kernel
theorem dX0_append_54 : decode cX0_append 54 = .ok (.iconst 1, 1) := by decide +kernel
theorem dX0_append_55 : decode cX0_append 55 = .ok (.iadd, 1) := by decide +kernel
theorem dX0_append_56 : decode cX0_append 56 = .ok (.putfield 24, 3) := by decide +kernel
theorem dX0_append_59 : decode cX0_append 59 = .ok (.return_, 1) := by decide +kernel
theorem okX0_append : CalOK yX0_append cX0_append 5 (none) 4 := ⟨wd_70, wd_433, by decide +kernel⟩
theorem ovX0_append : VirOK yX0_append := ⟨wd_431, wd_432⟩
def FX0_append (B : Blk) (l1 : Int32) (l2 : Int32) (l3 : Int32) (l4 : Int32) : Option Blk :=
  c1 (FX0_isFull B) fun r1 =>
  if r1 = 0 then
    stb B 12 40 ((B 2) 0) l1 fun B4 =>
    stb B4 13 40 ((B4 2) 0) l2 fun B7 =>
    stb B7 14 40 ((B7 2) 0) l3 fun B10 =>
    stb B10 15 40 ((B10 2) 0) l4 fun B13 =>
    lt1 (bs B13 2 0 (((B13 2) 0) + (1 : Int32))) fun B16 =>
    some B16
  else
    some B
set_option maxRecDepth 100000 in
set_option maxHeartbeats 4000000 in
theorem wX0_append {E : WE} {V : VT} {A : Nat → Prop} {H0 : Heap} {M : Mem} {j : Nat} (hj : j < 11) (Cx : CX E RX0 cX0_append 5 1 20) {B' : Blk} (hret : RetV E V A H0 cX0_append (jb M j B')) {H : Heap} {locs : List Loc} {ls : Array Slot} {l1 : Int32} {l2 : Int32} {l3 : Int32} {l4 : Int32} {B : Blk} (hW : Wd V A H0 (jb M j B) (eS E) H locs) (hl : lv_has ls 5 [(0, .ref (vA V j 2)), (1, .int l1), (2, .int l2), (3, .int l3), (4, .int l4)]) (hF : FX0_append B l1 l2 l3 l4 = some B') : Wq E H locs 0 ls [] := by
  unfold FX0_append at hF
  refine q_aload_n Cx dX0_append_0 rfl (lv_at hl 0 rfl) ?_
  obtain ⟨r1, e2, hF⟩ := c1_some hF
  refine q_callI (as := []) (rest := []) Cx (kX0_isFull hj e2) okX0_isFull ovX0_isFull wd_434 ⟨rfl, rfl, by decide, by decide⟩ hW (oC hj) ic0 rfl hl.1 (Nat.le_of_ble_eq_true rfl) rfl dX0_append_1 (fun H locs hW => ?_)
  refine q_if_eq (tgt := 8) Cx dX0_append_4 (by decide) (fun c3 => ?_) (fun c3 => ?_)
  · have hF := (if_pos c3).symm.trans hF
    refine q_aload_n Cx dX0_append_8 rfl (lv_at hl 0 rfl) ?_
    refine q_get (v := .ref (vA V j 12)) Cx hW (oC hj) ic0 1 (by decide) rfl wd_147 dX0_append_9 ?_
    refine q_aload_n Cx dX0_append_12 rfl (lv_at hl 0 rfl) ?_
    refine qb_get (v := .int ((B 2) 0)) Cx hW (oC hj) ic0 0 (by decide) rfl wd_144 dX0_append_13 ?_
    refine q_iload_n Cx dX0_append_16 rfl (lv_at hl 1 rfl) ?_
    obtain ⟨h5, B4, e6, hF⟩ := stb_some hF
    refine qb_iast Cx hW (ai_12 hj) h5 e6 dX0_append_17 (fun H locs hW => ?_)
    refine q_aload_n Cx dX0_append_18 rfl (lv_at hl 0 rfl) ?_
    refine q_get (v := .ref (vA V j 13)) Cx hW (oC hj) ic0 2 (by decide) rfl wd_149 dX0_append_19 ?_
    refine q_aload_n Cx dX0_append_22 rfl (lv_at hl 0 rfl) ?_
    refine qb_get (v := .int ((B4 2) 0)) Cx hW (oC hj) ic0 0 (by decide) rfl wd_144 dX0_append_23 ?_
    refine q_iload_n Cx dX0_append_26 rfl (lv_at hl 2 rfl) ?_
    obtain ⟨h8, B7, e9, hF⟩ := stb_some hF
    refine qb_iast Cx hW (ai_13 hj) h8 e9 dX0_append_27 (fun H locs hW => ?_)
    refine q_aload_n Cx dX0_append_28 rfl (lv_at hl 0 rfl) ?_
    refine q_get (v := .ref (vA V j 14)) Cx hW (oC hj) ic0 3 (by decide) rfl wd_151 dX0_append_29 ?_
    refine q_aload_n Cx dX0_append_32 rfl (lv_at hl 0 rfl) ?_
    refine qb_get (v := .int ((B7 2) 0)) Cx hW (oC hj) ic0 0 (by decide) rfl wd_144 dX0_append_33 ?_
    refine q_iload_n Cx dX0_append_36 rfl (lv_at hl 3 rfl) ?_
    obtain ⟨h11, B10, e12, hF⟩ := stb_some hF
    refine qb_iast Cx hW (ai_14 hj) h11 e12 dX0_append_37 (fun H locs hW => ?_)
    refine q_aload_n Cx dX0_append_38 rfl (lv_at hl 0 rfl) ?_
    refine q_get (v := .ref (vA V j 15)) Cx hW (oC hj) ic0 4 (by decide) rfl wd_153 dX0_append_39 ?_
    refine q_aload_n Cx dX0_append_42 rfl (lv_at hl 0 rfl) ?_
    refine qb_get (v := .int ((B10 2) 0)) Cx hW (oC hj) ic0 0 (by decide) rfl wd_144 dX0_append_43 ?_
    refine q_iload Cx dX0_append_46 (lv_at hl 4 rfl) ?_
    obtain ⟨h14, B13, e15, hF⟩ := stb_some hF
    refine qb_iast Cx hW (ai_15 hj) h14 e15 dX0_append_48 (fun H locs hW => ?_)
    refine q_aload_n Cx dX0_append_49 rfl (lv_at hl 0 rfl) ?_
    refine q_dup Cx dX0_append_50 rfl ?_
    refine qb_get (v := .int ((B13 2) 0)) Cx hW (oC hj) ic0 0 (by decide) rfl wd_144 dX0_append_51 ?_
    refine q_iconst (v := (1 : Int32)) Cx dX0_append_54 (by decide) ?_
    refine q_iadd Cx dX0_append_55 ?_
    obtain ⟨B16, e17, hF⟩ := lt1_some hF
    refine qb_put Cx hW (oC hj) ic0 0 (by decide) (Nat.le_of_ble_eq_true rfl) e17 rfl rfl ⟨nI32 _, rfl⟩ wd_144 dX0_append_56 (fun H locs hW => ?_)
    cases hF
    exact hret _ _ _ _ dX0_append_59 hW
  · have hF := (if_neg c3).symm.trans hF
    cases hF
    exact hret _ _ _ _ dX0_append_7 hW
set_option maxRecDepth 100000 in
theorem kX0_append {l : Launch} {V : VT} {M : Mem} {j : Nat} (hj : j < 11) {B : Blk} {l1 : Int32} {l2 : Int32} {l3 : Int32} {l4 : Int32} {B' : Blk} (hF : FX0_append B l1 l2 l3 l4 = some B') : MetV l V yX0_append cX0_append 5 ({ frames := 1, cells := 0, slots := 0, locals := 20 } : Room) [.ref (vA V j 2), .int l1, .int l2, .int l3, .int l4] (jb M j B) (jb M j B') := metV_of (by decide) (Nat.le_of_ble_eq_true rfl) (fun E H0 _ Cx hret H locs ls hW hl => wX0_append hj Cx hret hW hl hF)
theorem dX0_has_0 : decode cX0_has 0 = .ok (.iload_n 1, 1) := by decide +kernel
theorem dX0_has_1 : decode cX0_has 1 = .ok (.ifCond .lt 15, 3) := by decide +kernel
theorem dX0_has_4 : decode cX0_has 4 = .ok (.iload_n 1, 1) := by decide +kernel
theorem dX0_has_5 : decode cX0_has 5 = .ok (.aload_n 0, 1) := by decide +kernel
theorem dX0_has_6 : decode cX0_has 6 = .ok (.getfield 24, 3) := by decide +kernel
theorem dX0_has_9 : decode cX0_has 9 = .ok (.if_icmp .ge 7, 3) := by decide +kernel
theorem dX0_has_12 : decode cX0_has 12 = .ok (.iconst 1, 1) := by decide +kernel
theorem dX0_has_13 : decode cX0_has 13 = .ok (.goto 4, 3) := by decide +kernel
theorem dX0_has_16 : decode cX0_has 16 = .ok (.iconst 0, 1) := by decide +kernel
theorem dX0_has_17 : decode cX0_has 17 = .ok (.ireturn, 1) := by decide +kernel
theorem okX0_has : CalOK yX0_has cX0_has 2 (some .boolean) 1 := ⟨wd_70, wd_446, by decide +kernel⟩
theorem ovX0_has : VirOK yX0_has := ⟨wd_444, wd_445⟩
def FX0_has (B : Blk) (l1 : Int32) : Option Int32 :=
  if l1 < 0 then
    some (0 : Int32)
  else
    if ((B 2) 0) ≤ l1 then
      some (0 : Int32)
    else
      some (1 : Int32)
set_option maxRecDepth 100000 in
set_option maxHeartbeats 4000000 in
theorem wX0_has {E : WE} {V : VT} {A : Nat → Prop} {H0 : Heap} {M : Mem} {j : Nat} (hj : j < 11) (Cx : CX E RX0 cX0_has 2 0 0) {r : Int32} {B : Blk} (hret : RetI E V A H0 cX0_has .boolean r (jb M j B)) {H : Heap} {locs : List Loc} {ls : Array Slot} {l1 : Int32} (hW : Wd V A H0 (jb M j B) (eS E) H locs) (hl : lv_has ls 2 [(0, .ref (vA V j 2)), (1, .int l1)]) (hF : FX0_has B l1 = some r) : Wq E H locs 0 ls [] := by
  unfold FX0_has at hF
  refine q_iload_n Cx dX0_has_0 rfl (lv_at hl 1 rfl) ?_
  refine q_if_lt (tgt := 16) Cx dX0_has_1 (by decide) (fun c1 => ?_) (fun c1 => ?_)
  · have hF := (if_pos c1).symm.trans hF
    refine q_iconst (v := (0 : Int32)) Cx dX0_has_16 (by decide) ?_
    cases hF
    exact hret _ _ _ _ dX0_has_17 (by rfl) hW
  · have hF := (if_neg c1).symm.trans hF
    refine q_iload_n Cx dX0_has_4 rfl (lv_at hl 1 rfl) ?_
    refine q_aload_n Cx dX0_has_5 rfl (lv_at hl 0 rfl) ?_
    refine qb_get (v := .int ((B 2) 0)) Cx hW (oC hj) ic0 0 (by decide) rfl wd_144 dX0_has_6 ?_
    refine q_icmp_ge (tgt := 16) Cx dX0_has_9 (by decide) (fun c2 => ?_) (fun c2 => ?_)
    · have hF := (if_pos c2).symm.trans hF
      refine q_iconst (v := (0 : Int32)) Cx dX0_has_16 (by decide) ?_
      cases hF
      exact hret _ _ _ _ dX0_has_17 (by rfl) hW
    · have hF := (if_neg c2).symm.trans hF
      refine q_iconst (v := (1 : Int32)) Cx dX0_has_12 (by decide) ?_
      refine q_goto (tgt := 17) Cx dX0_has_13 (by decide) ?_
      cases hF
      exact hret _ _ _ _ dX0_has_17 (by rfl) hW
set_option maxRecDepth 100000 in
theorem kX0_has {l : Launch} {V : VT} {M : Mem} {j : Nat} (hj : j < 11) {B : Blk} {l1 : Int32} {r : Int32} (hF : FX0_has B l1 = some r) : MetI l V yX0_has cX0_has 2 .boolean ({ frames := 0, cells := 0, slots := 0, locals := 0 } : Room) [.ref (vA V j 2), .int l1] r (jb M j B) (jb M j B) := metI_of (by decide) (Nat.le_of_ble_eq_true rfl) (fun E H0 _ Cx hret H locs ls hW hl => wX0_has hj Cx hret hW hl hF)
theorem dX0_remove_0 : decode cX0_remove 0 = .ok (.iload_n 1, 1) := by decide +kernel
theorem dX0_remove_1 : decode cX0_remove 1 = .ok (.istore_n 2, 1) := by decide +kernel
theorem dX0_remove_2 : decode cX0_remove 2 = .ok (.iload_n 2, 1) := by decide +kernel
theorem dX0_remove_3 : decode cX0_remove 3 = .ok (.iconst 1, 1) := by decide +kernel
theorem dX0_remove_4 : decode cX0_remove 4 = .ok (.iadd, 1) := by decide +kernel
theorem dX0_remove_5 : decode cX0_remove 5 = .ok (.aload_n 0, 1) := by decide +kernel
theorem dX0_remove_6 : decode cX0_remove 6 = .ok (.getfield 24, 3) := by decide +kernel
theorem dX0_remove_9 : decode cX0_remove 9 = .ok (.if_icmp .ge 65, 3) := by decide +kernel
theorem dX0_remove_12 : decode cX0_remove 12 = .ok (.aload_n 0, 1) := by decide +kernel
theorem dX0_remove_13 : decode cX0_remove 13 = .ok (.getfield 9, 3) := by decide +kernel
theorem dX0_remove_16 : decode cX0_remove 16 = .ok (.iload_n 2, 1) := by decide +kernel
theorem dX0_remove_17 : decode cX0_remove 17 = .ok (.aload_n 0, 1) := by decide +kernel
theorem dX0_remove_18 : decode cX0_remove 18 = .ok (.getfield 9, 3) := by decide +kernel
theorem dX0_remove_21 : decode cX0_remove 21 = .ok (.iload_n 2, 1) := by decide +kernel
theorem dX0_remove_22 : decode cX0_remove 22 = .ok (.iconst 1, 1) := by decide +kernel
theorem dX0_remove_23 : decode cX0_remove 23 = .ok (.iadd, 1) := by decide +kernel
theorem dX0_remove_24 : decode cX0_remove 24 = .ok (.iaload, 1) := by decide +kernel
theorem dX0_remove_25 : decode cX0_remove 25 = .ok (.iastore, 1) := by decide +kernel
theorem dX0_remove_26 : decode cX0_remove 26 = .ok (.aload_n 0, 1) := by decide +kernel
theorem dX0_remove_27 : decode cX0_remove 27 = .ok (.getfield 15, 3) := by decide +kernel
theorem dX0_remove_30 : decode cX0_remove 30 = .ok (.iload_n 2, 1) := by decide +kernel
theorem dX0_remove_31 : decode cX0_remove 31 = .ok (.aload_n 0, 1) := by decide +kernel
theorem dX0_remove_32 : decode cX0_remove 32 = .ok (.getfield 15, 3) := by decide +kernel
theorem dX0_remove_35 : decode cX0_remove 35 = .ok (.iload_n 2, 1) := by decide +kernel
theorem dX0_remove_36 : decode cX0_remove 36 = .ok (.iconst 1, 1) := by decide +kernel
theorem dX0_remove_37 : decode cX0_remove 37 = .ok (.iadd, 1) := by decide +kernel
theorem dX0_remove_38 : decode cX0_remove 38 = .ok (.iaload, 1) := by decide +kernel
theorem dX0_remove_39 : decode cX0_remove 39 = .ok (.iastore, 1) := by decide +kernel
theorem dX0_remove_40 : decode cX0_remove 40 = .ok (.aload_n 0, 1) := by decide +kernel
theorem dX0_remove_41 : decode cX0_remove 41 = .ok (.getfield 18, 3) := by decide +kernel
theorem dX0_remove_44 : decode cX0_remove 44 = .ok (.iload_n 2, 1) := by decide +kernel
theorem dX0_remove_45 : decode cX0_remove 45 = .ok (.aload_n 0, 1) := by decide +kernel
theorem dX0_remove_46 : decode cX0_remove 46 = .ok (.getfield 18, 3) := by decide +kernel
theorem dX0_remove_49 : decode cX0_remove 49 = .ok (.iload_n 2, 1) := by decide +kernel
theorem dX0_remove_50 : decode cX0_remove 50 = .ok (.iconst 1, 1) := by decide +kernel
theorem dX0_remove_51 : decode cX0_remove 51 = .ok (.iadd, 1) := by decide +kernel
theorem dX0_remove_52 : decode cX0_remove 52 = .ok (.iaload, 1) := by decide +kernel
theorem dX0_remove_53 : decode cX0_remove 53 = .ok (.iastore, 1) := by decide +kernel
theorem dX0_remove_54 : decode cX0_remove 54 = .ok (.aload_n 0, 1) := by decide +kernel
theorem dX0_remove_55 : decode cX0_remove 55 = .ok (.getfield 21, 3) := by decide +kernel
theorem dX0_remove_58 : decode cX0_remove 58 = .ok (.iload_n 2, 1) := by decide +kernel
theorem dX0_remove_59 : decode cX0_remove 59 = .ok (.aload_n 0, 1) := by decide +kernel
theorem dX0_remove_60 : decode cX0_remove 60 = .ok (.getfield 21, 3) := by decide +kernel
theorem dX0_remove_63 : decode cX0_remove 63 = .ok (.iload_n 2, 1) := by decide +kernel
theorem dX0_remove_64 : decode cX0_remove 64 = .ok (.iconst 1, 1) := by decide +kernel
theorem dX0_remove_65 : decode cX0_remove 65 = .ok (.iadd, 1) := by decide +kernel
theorem dX0_remove_66 : decode cX0_remove 66 = .ok (.iaload, 1) := by decide +kernel
theorem dX0_remove_67 : decode cX0_remove 67 = .ok (.iastore, 1) := by decide +kernel
theorem dX0_remove_68 : decode cX0_remove 68 = .ok (.iinc 2 1, 3) := by decide +kernel
theorem dX0_remove_71 : decode cX0_remove 71 = .ok (.goto (-69), 3) := by decide +kernel
theorem dX0_remove_74 : decode cX0_remove 74 = .ok (.aload_n 0, 1) := by decide +kernel
theorem dX0_remove_75 : decode cX0_remove 75 = .ok (.dup, 1) := by decide +kernel
theorem dX0_remove_76 : decode cX0_remove 76 = .ok (.getfield 24, 3) := by decide +kernel
theorem dX0_remove_79 : decode cX0_remove 79 = .ok (.iconst 1, 1) := by decide +kernel
theorem dX0_remove_80 : decode cX0_remove 80 = .ok (.isub, 1) := by decide +kernel
theorem dX0_remove_81 : decode cX0_remove 81 = .ok (.putfield 24, 3) := by decide +kernel
theorem dX0_remove_84 : decode cX0_remove 84 = .ok (.return_, 1) := by decide +kernel
theorem okX0_remove : CalOK yX0_remove cX0_remove 3 (none) 1 := ⟨wd_70, wd_454, by decide +kernel⟩
theorem ovX0_remove : VirOK yX0_remove := ⟨wd_453, wd_8⟩
def FX0_remove_2s (k2 : Int32 → Blk → Option Blk) (l2 : Int32) (B : Blk) : Option Blk :=
  if ((B 2) 0) ≤ (l2 + (1 : Int32)) then
    lt1 (bs B 2 0 (((B 2) 0) - (1 : Int32))) fun B2 =>
    some B2
  else
    ld (B 12) 40 (l2 + (1 : Int32)) fun v4 =>
    stb B 12 40 l2 v4 fun B7 =>
    ld (B7 13) 40 (l2 + (1 : Int32)) fun v10 =>
    stb B7 13 40 l2 v10 fun B13 =>
    ld (B13 14) 40 (l2 + (1 : Int32)) fun v16 =>
    stb B13 14 40 l2 v16 fun B19 =>
    ld (B19 15) 40 (l2 + (1 : Int32)) fun v22 =>
    stb B19 15 40 l2 v22 fun B25 =>
    lt1 (l2 + (1 : Int32)) fun x28 =>
    k2 x28 B25
set_option maxRecDepth 100000 in
set_option maxHeartbeats 4000000 in
theorem wX0_remove_2s {E : WE} {V : VT} {A : Nat → Prop} {H0 : Heap} {M : Mem} {j : Nat} (hj : j < 11) (Cx : CX E RX0 cX0_remove 3 0 0) {B' : Blk} (hret : RetV E V A H0 cX0_remove (jb M j B')) {k2 : Int32 → Blk → Option Blk} (hk2 : ∀ {H : Heap} {locs : List Loc} {ls : Array Slot} {B : Blk} {l2 : Int32}, Wd V A H0 (jb M j B) (eS E) H locs → lv_has ls 3 [(0, .ref (vA V j 2)), (2, .int l2)] → k2 l2 B = some B' → Wq E H locs 2 ls []) {H : Heap} {locs : List Loc} {ls : Array Slot} {l2 : Int32} {B : Blk} (hW : Wd V A H0 (jb M j B) (eS E) H locs) (hl : lv_has ls 3 [(0, .ref (vA V j 2)), (2, .int l2)]) (hF : FX0_remove_2s k2 l2 B = some B') : Wq E H locs 2 ls [] := by
  unfold FX0_remove_2s at hF
  refine q_iload_n Cx dX0_remove_2 rfl (lv_at hl 1 rfl) ?_
  refine q_iconst (v := (1 : Int32)) Cx dX0_remove_3 (by decide) ?_
  refine q_iadd Cx dX0_remove_4 ?_
  refine q_aload_n Cx dX0_remove_5 rfl (lv_at hl 0 rfl) ?_
  refine qb_get (v := .int ((B 2) 0)) Cx hW (oC hj) ic0 0 (by decide) rfl wd_144 dX0_remove_6 ?_
  refine q_icmp_ge (tgt := 74) Cx dX0_remove_9 (by decide) (fun c1 => ?_) (fun c1 => ?_)
  · have hF := (if_pos c1).symm.trans hF
    refine q_aload_n Cx dX0_remove_74 rfl (lv_at hl 0 rfl) ?_
    refine q_dup Cx dX0_remove_75 rfl ?_
    refine qb_get (v := .int ((B 2) 0)) Cx hW (oC hj) ic0 0 (by decide) rfl wd_144 dX0_remove_76 ?_
    refine q_iconst (v := (1 : Int32)) Cx dX0_remove_79 (by decide) ?_
    refine q_isub Cx dX0_remove_80 ?_
    obtain ⟨B2, e3, hF⟩ := lt1_some hF
    refine qb_put Cx hW (oC hj) ic0 0 (by decide) (Nat.le_of_ble_eq_true rfl) e3 rfl rfl ⟨nI32 _, rfl⟩ wd_144 dX0_remove_81 (fun H locs hW => ?_)
    cases hF
    exact hret _ _ _ _ dX0_remove_84 hW
  · have hF := (if_neg c1).symm.trans hF
    refine q_aload_n Cx dX0_remove_12 rfl (lv_at hl 0 rfl) ?_
    refine q_get (v := .ref (vA V j 12)) Cx hW (oC hj) ic0 1 (by decide) rfl wd_147 dX0_remove_13 ?_
    refine q_iload_n Cx dX0_remove_16 rfl (lv_at hl 1 rfl) ?_
    refine q_aload_n Cx dX0_remove_17 rfl (lv_at hl 0 rfl) ?_
    refine q_get (v := .ref (vA V j 12)) Cx hW (oC hj) ic0 1 (by decide) rfl wd_147 dX0_remove_18 ?_
    refine q_iload_n Cx dX0_remove_21 rfl (lv_at hl 1 rfl) ?_
    refine q_iconst (v := (1 : Int32)) Cx dX0_remove_22 (by decide) ?_
    refine q_iadd Cx dX0_remove_23 ?_
    obtain ⟨h5, v4, e6, hF⟩ := ld_some hF
    refine qb_iald Cx hW (ai_12 hj) h5 e6 dX0_remove_24 ?_
    obtain ⟨h8, B7, e9, hF⟩ := stb_some hF
    refine qb_iast Cx hW (ai_12 hj) h8 e9 dX0_remove_25 (fun H locs hW => ?_)
    refine q_aload_n Cx dX0_remove_26 rfl (lv_at hl 0 rfl) ?_
    refine q_get (v := .ref (vA V j 13)) Cx hW (oC hj) ic0 2 (by decide) rfl wd_149 dX0_remove_27 ?_
    refine q_iload_n Cx dX0_remove_30 rfl (lv_at hl 1 rfl) ?_
    refine q_aload_n Cx dX0_remove_31 rfl (lv_at hl 0 rfl) ?_
    refine q_get (v := .ref (vA V j 13)) Cx hW (oC hj) ic0 2 (by decide) rfl wd_149 dX0_remove_32 ?_
    refine q_iload_n Cx dX0_remove_35 rfl (lv_at hl 1 rfl) ?_
    refine q_iconst (v := (1 : Int32)) Cx dX0_remove_36 (by decide) ?_
    refine q_iadd Cx dX0_remove_37 ?_
    obtain ⟨h11, v10, e12, hF⟩ := ld_some hF
    refine qb_iald Cx hW (ai_13 hj) h11 e12 dX0_remove_38 ?_
    obtain ⟨h14, B13, e15, hF⟩ := stb_some hF
    refine qb_iast Cx hW (ai_13 hj) h14 e15 dX0_remove_39 (fun H locs hW => ?_)
    refine q_aload_n Cx dX0_remove_40 rfl (lv_at hl 0 rfl) ?_
    refine q_get (v := .ref (vA V j 14)) Cx hW (oC hj) ic0 3 (by decide) rfl wd_151 dX0_remove_41 ?_
    refine q_iload_n Cx dX0_remove_44 rfl (lv_at hl 1 rfl) ?_
    refine q_aload_n Cx dX0_remove_45 rfl (lv_at hl 0 rfl) ?_
    refine q_get (v := .ref (vA V j 14)) Cx hW (oC hj) ic0 3 (by decide) rfl wd_151 dX0_remove_46 ?_
    refine q_iload_n Cx dX0_remove_49 rfl (lv_at hl 1 rfl) ?_
    refine q_iconst (v := (1 : Int32)) Cx dX0_remove_50 (by decide) ?_
    refine q_iadd Cx dX0_remove_51 ?_
    obtain ⟨h17, v16, e18, hF⟩ := ld_some hF
    refine qb_iald Cx hW (ai_14 hj) h17 e18 dX0_remove_52 ?_
    obtain ⟨h20, B19, e21, hF⟩ := stb_some hF
    refine qb_iast Cx hW (ai_14 hj) h20 e21 dX0_remove_53 (fun H locs hW => ?_)
    refine q_aload_n Cx dX0_remove_54 rfl (lv_at hl 0 rfl) ?_
    refine q_get (v := .ref (vA V j 15)) Cx hW (oC hj) ic0 4 (by decide) rfl wd_153 dX0_remove_55 ?_
    refine q_iload_n Cx dX0_remove_58 rfl (lv_at hl 1 rfl) ?_
    refine q_aload_n Cx dX0_remove_59 rfl (lv_at hl 0 rfl) ?_
    refine q_get (v := .ref (vA V j 15)) Cx hW (oC hj) ic0 4 (by decide) rfl wd_153 dX0_remove_60 ?_
    refine q_iload_n Cx dX0_remove_63 rfl (lv_at hl 1 rfl) ?_
    refine q_iconst (v := (1 : Int32)) Cx dX0_remove_64 (by decide) ?_
    refine q_iadd Cx dX0_remove_65 ?_
    obtain ⟨h23, v22, e24, hF⟩ := ld_some hF
    refine qb_iald Cx hW (ai_15 hj) h23 e24 dX0_remove_66 ?_
    obtain ⟨h26, B25, e27, hF⟩ := stb_some hF
    refine qb_iast Cx hW (ai_15 hj) h26 e27 dX0_remove_67 (fun H locs hW => ?_)
    obtain ⟨x28, e29, hF⟩ := lt1_some hF
    refine q_iinc (k := 1) (v := x28) (lv' := [(2, .int x28), (0, .ref (vA V j 2))]) Cx dX0_remove_68 hl rfl e29.symm (by decide) rfl (fun ls hl => ?_)
    refine q_goto (tgt := 2) Cx dX0_remove_71 (by decide) ?_
    exact hk2 hW (lv_sub hl [1, 0] rfl) hF
def FX0_remove_2 : Nat → Int32 → Blk → Option Blk
  | 0 => fun _ _ => none
  | n + 1 => FX0_remove_2s (FX0_remove_2 n)
set_option maxRecDepth 100000 in
theorem wX0_remove_2 {E : WE} {V : VT} {A : Nat → Prop} {H0 : Heap} {M : Mem} {j : Nat} (hj : j < 11) (Cx : CX E RX0 cX0_remove 3 0 0) {B' : Blk} (hret : RetV E V A H0 cX0_remove (jb M j B')) : ∀ (n : Nat) {H : Heap} {locs : List Loc} {ls : Array Slot} {l2 : Int32} {B : Blk}, Wd V A H0 (jb M j B) (eS E) H locs → lv_has ls 3 [(0, .ref (vA V j 2)), (2, .int l2)] → FX0_remove_2 n l2 B = some B' → Wq E H locs 2 ls [] := by
  intro n
  induction n with
  | zero => intro _ _ _ _ _ hW hl hF; cases hF
  | succ n ih => intro _ _ _ _ _ hW hl hF; exact wX0_remove_2s hj Cx hret ih hW hl hF
def FX0_remove (B : Blk) (l1 : Int32) : Option Blk :=
  FX0_remove_2 fu l1 B
set_option maxRecDepth 100000 in
set_option maxHeartbeats 4000000 in
theorem wX0_remove {E : WE} {V : VT} {A : Nat → Prop} {H0 : Heap} {M : Mem} {j : Nat} (hj : j < 11) (Cx : CX E RX0 cX0_remove 3 0 0) {B' : Blk} (hret : RetV E V A H0 cX0_remove (jb M j B')) {H : Heap} {locs : List Loc} {ls : Array Slot} {l1 : Int32} {B : Blk} (hW : Wd V A H0 (jb M j B) (eS E) H locs) (hl : lv_has ls 3 [(0, .ref (vA V j 2)), (1, .int l1)]) (hF : FX0_remove B l1 = some B') : Wq E H locs 0 ls [] := by
  unfold FX0_remove at hF
  refine q_iload_n Cx dX0_remove_0 rfl (lv_at hl 1 rfl) ?_
  refine q_istore_n (lv' := [(2, .int l1), (0, .ref (vA V j 2)), (1, .int l1)]) Cx dX0_remove_1 rfl hl (by decide) rfl (fun ls hl => ?_)
  exact wX0_remove_2 hj Cx hret fu hW (lv_sub hl [1, 0] rfl) hF
set_option maxRecDepth 100000 in
theorem kX0_remove {l : Launch} {V : VT} {M : Mem} {j : Nat} (hj : j < 11) {B : Blk} {l1 : Int32} {B' : Blk} (hF : FX0_remove B l1 = some B') : MetV l V yX0_remove cX0_remove 3 ({ frames := 0, cells := 0, slots := 0, locals := 0 } : Room) [.ref (vA V j 2), .int l1] (jb M j B) (jb M j B') := metV_of (by decide) (Nat.le_of_ble_eq_true rfl) (fun E H0 _ Cx hret H locs ls hW hl => wX0_remove hj Cx hret hW hl hF)
theorem dX0_lessen_0 : decode cX0_lessen 0 = .ok (.aload_n 0, 1) := by decide +kernel
theorem dX0_lessen_1 : decode cX0_lessen 1 = .ok (.getfield 18, 3) := by decide +kernel
theorem dX0_lessen_4 : decode cX0_lessen 4 = .ok (.iload_n 1, 1) := by decide +kernel
theorem dX0_lessen_5 : decode cX0_lessen 5 = .ok (.dup2, 1) := by decide +kernel
theorem dX0_lessen_6 : decode cX0_lessen 6 = .ok (.iaload, 1) := by decide +kernel
theorem dX0_lessen_7 : decode cX0_lessen 7 = .ok (.iload_n 2, 1) := by decide +kernel
theorem dX0_lessen_8 : decode cX0_lessen 8 = .ok (.isub, 1) := by decide +kernel
theorem dX0_lessen_9 : decode cX0_lessen 9 = .ok (.iastore, 1) := by decide +kernel
theorem dX0_lessen_10 : decode cX0_lessen 10 = .ok (.aload_n 0, 1) := by decide +kernel
theorem dX0_lessen_11 : decode cX0_lessen 11 = .ok (.getfield 18, 3) := by decide +kernel
theorem dX0_lessen_14 : decode cX0_lessen 14 = .ok (.iload_n 1, 1) := by decide +kernel
theorem dX0_lessen_15 : decode cX0_lessen 15 = .ok (.iaload, 1) := by decide +kernel
theorem dX0_lessen_16 : decode cX0_lessen 16 = .ok (.istore_n 3, 1) := by decide +kernel
theorem dX0_lessen_17 : decode cX0_lessen 17 = .ok (.iload_n 3, 1) := by decide +kernel
theorem dX0_lessen_18 : decode cX0_lessen 18 = .ok (.ifCond .ne 8, 3) := by decide +kernel
theorem dX0_lessen_21 : decode cX0_lessen 21 = .ok (.aload_n 0, 1) := by decide +kernel
theorem dX0_lessen_22 : decode cX0_lessen 22 = .ok (.iload_n 1, 1) := by decide +kernel
theorem dX0_lessen_23 : decode cX0_lessen 23 = .ok (.invokevirtual 42, 3) := by decide +kernel
theorem dX0_lessen_26 : decode cX0_lessen 26 = .ok (.iload_n 3, 1) := by decide +kernel
theorem dX0_lessen_27 : decode cX0_lessen 27 = .ok (.ireturn, 1) := by decide +kernel
theorem okX0_lessen : CalOK yX0_lessen cX0_lessen 4 (some .int) 2 := ⟨wd_70, wd_450, by decide +kernel⟩
theorem ovX0_lessen : VirOK yX0_lessen := ⟨wd_448, wd_449⟩
def FX0_lessen (B : Blk) (l1 : Int32) (l2 : Int32) : Option (Int32 × Blk) :=
  ld (B 14) 40 l1 fun v1 =>
  stb B 14 40 l1 (v1 - l2) fun B4 =>
  ld (B4 14) 40 l1 fun v7 =>
  if v7 = 0 then
    c1 (FX0_remove B4 l1) fun B13 =>
    some (v7, B13)
  else
    some (v7, B4)
set_option maxRecDepth 100000 in
set_option maxHeartbeats 4000000 in
theorem wX0_lessen {E : WE} {V : VT} {A : Nat → Prop} {H0 : Heap} {M : Mem} {j : Nat} (hj : j < 11) (Cx : CX E RX0 cX0_lessen 4 1 22) {r : Int32} {B' : Blk} (hret : RetI E V A H0 cX0_lessen .int r (jb M j B')) {H : Heap} {locs : List Loc} {ls : Array Slot} {l1 : Int32} {l2 : Int32} {B : Blk} (hW : Wd V A H0 (jb M j B) (eS E) H locs) (hl : lv_has ls 4 [(0, .ref (vA V j 2)), (1, .int l1), (2, .int l2)]) (hF : FX0_lessen B l1 l2 = some (r, B')) : Wq E H locs 0 ls [] := by
  unfold FX0_lessen at hF
  refine q_aload_n Cx dX0_lessen_0 rfl (lv_at hl 0 rfl) ?_
  refine q_get (v := .ref (vA V j 14)) Cx hW (oC hj) ic0 3 (by decide) rfl wd_151 dX0_lessen_1 ?_
  refine q_iload_n Cx dX0_lessen_4 rfl (lv_at hl 1 rfl) ?_
  refine q_dup2 Cx dX0_lessen_5 rfl rfl ?_
  obtain ⟨h2, v1, e3, hF⟩ := ld_some hF
  refine qb_iald Cx hW (ai_14 hj) h2 e3 dX0_lessen_6 ?_
  refine q_iload_n Cx dX0_lessen_7 rfl (lv_at hl 2 rfl) ?_
  refine q_isub Cx dX0_lessen_8 ?_
  obtain ⟨h5, B4, e6, hF⟩ := stb_some hF
  refine qb_iast Cx hW (ai_14 hj) h5 e6 dX0_lessen_9 (fun H locs hW => ?_)
  refine q_aload_n Cx dX0_lessen_10 rfl (lv_at hl 0 rfl) ?_
  refine q_get (v := .ref (vA V j 14)) Cx hW (oC hj) ic0 3 (by decide) rfl wd_151 dX0_lessen_11 ?_
  refine q_iload_n Cx dX0_lessen_14 rfl (lv_at hl 1 rfl) ?_
  obtain ⟨h8, v7, e9, hF⟩ := ld_some hF
  refine qb_iald Cx hW (ai_14 hj) h8 e9 dX0_lessen_15 ?_
  refine q_istore_n (lv' := [(3, .int v7), (0, .ref (vA V j 2)), (1, .int l1), (2, .int l2)]) Cx dX0_lessen_16 rfl hl (by decide) rfl (fun ls hl => ?_)
  refine q_iload_n Cx dX0_lessen_17 rfl (lv_at hl 0 rfl) ?_
  refine q_if_ne (tgt := 26) Cx dX0_lessen_18 (by decide) (fun c10 => ?_) (fun c10 => ?_)
  · have hF := (if_neg c10).symm.trans hF
    refine q_iload_n Cx dX0_lessen_26 rfl (lv_at hl 0 rfl) ?_
    cases hF
    exact hret _ _ _ _ dX0_lessen_27 (nI32 _) hW
  · have hF := (if_pos c10).symm.trans hF
    refine q_aload_n Cx dX0_lessen_21 rfl (lv_at hl 1 rfl) ?_
    refine q_iload_n Cx dX0_lessen_22 rfl (lv_at hl 2 rfl) ?_
    obtain ⟨B13, e12, hF⟩ := c1_some hF
    refine q_callV (as := [.int l1]) (rest := []) Cx (kX0_remove hj e12) okX0_remove ovX0_remove wd_451 ⟨rfl, rfl, by decide, by decide⟩ hW (oC hj) ic0 rfl hl.1 (Nat.le_of_ble_eq_true rfl) rfl dX0_lessen_23 (fun H locs hW => ?_)
    refine q_iload_n Cx dX0_lessen_26 rfl (lv_at hl 0 rfl) ?_
    cases hF
    exact hret _ _ _ _ dX0_lessen_27 (nI32 _) hW
set_option maxRecDepth 100000 in
theorem kX0_lessen {l : Launch} {V : VT} {M : Mem} {j : Nat} (hj : j < 11) {B : Blk} {l1 : Int32} {l2 : Int32} {r : Int32} {B' : Blk} (hF : FX0_lessen B l1 l2 = some (r, B')) : MetI l V yX0_lessen cX0_lessen 4 .int ({ frames := 1, cells := 0, slots := 0, locals := 22 } : Room) [.ref (vA V j 2), .int l1, .int l2] r (jb M j B) (jb M j B') := metI_of (by decide) (Nat.le_of_ble_eq_true rfl) (fun E H0 _ Cx hret H locs ls hW hl => wX0_lessen hj Cx hret hW hl hF)
theorem dX0_soldBy_0 : decode cX0_soldBy 0 = .ok (.iconst 0, 1) := by decide +kernel
theorem dX0_soldBy_1 : decode cX0_soldBy 1 = .ok (.istore_n 2, 1) := by decide +kernel
theorem dX0_soldBy_2 : decode cX0_soldBy 2 = .ok (.iconst 0, 1) := by decide +kernel
theorem dX0_soldBy_3 : decode cX0_soldBy 3 = .ok (.istore_n 3, 1) := by decide +kernel
theorem dX0_soldBy_4 : decode cX0_soldBy 4 = .ok (.iload_n 3, 1) := by decide +kernel
theorem dX0_soldBy_5 : decode cX0_soldBy 5 = .ok (.aload_n 0, 1) := by decide +kernel
theorem dX0_soldBy_6 : decode cX0_soldBy 6 = .ok (.getfield 24, 3) := by decide +kernel
theorem dX0_soldBy_9 : decode cX0_soldBy 9 = .ok (.if_icmp .ge 32, 3) := by decide +kernel
theorem dX0_soldBy_12 : decode cX0_soldBy 12 = .ok (.iload_n 2, 1) := by decide +kernel
theorem dX0_soldBy_13 : decode cX0_soldBy 13 = .ok (.aload_n 0, 1) := by decide +kernel
theorem dX0_soldBy_14 : decode cX0_soldBy 14 = .ok (.getfield 9, 3) := by decide +kernel
theorem dX0_soldBy_17 : decode cX0_soldBy 17 = .ok (.iload_n 3, 1) := by decide +kernel
theorem dX0_soldBy_18 : decode cX0_soldBy 18 = .ok (.iaload, 1) := by decide +kernel
theorem dX0_soldBy_19 : decode cX0_soldBy 19 = .ok (.iload_n 1, 1) := by decide +kernel
theorem dX0_soldBy_20 : decode cX0_soldBy 20 = .ok (.if_icmp .ne 12, 3) := by decide +kernel
theorem dX0_soldBy_23 : decode cX0_soldBy 23 = .ok (.aload_n 0, 1) := by decide +kernel
theorem dX0_soldBy_24 : decode cX0_soldBy 24 = .ok (.getfield 18, 3) := by decide +kernel
theorem dX0_soldBy_27 : decode cX0_soldBy 27 = .ok (.iload_n 3, 1) := by decide +kernel
theorem dX0_soldBy_28 : decode cX0_soldBy 28 = .ok (.iaload, 1) := by decide +kernel
theorem dX0_soldBy_29 : decode cX0_soldBy 29 = .ok (.goto 4, 3) := by decide +kernel
theorem dX0_soldBy_32 : decode cX0_soldBy 32 = .ok (.iconst 0, 1) := by decide +kernel
theorem dX0_soldBy_33 : decode cX0_soldBy 33 = .ok (.iadd, 1) := by decide +kernel
theorem dX0_soldBy_34 : decode cX0_soldBy 34 = .ok (.istore_n 2, 1) := by decide +kernel
theorem dX0_soldBy_35 : decode cX0_soldBy 35 = .ok (.iinc 3 1, 3) := by decide +kernel
theorem dX0_soldBy_38 : decode cX0_soldBy 38 = .ok (.goto (-34), 3) := by decide +kernel
theorem dX0_soldBy_41 : decode cX0_soldBy 41 = .ok (.iload_n 2, 1) := by decide +kernel
theorem dX0_soldBy_42 : decode cX0_soldBy 42 = .ok (.ireturn, 1) := by decide +kernel
theorem okX0_soldBy : CalOK yX0_soldBy cX0_soldBy 4 (some .int) 1 := ⟨wd_70, wd_495, by decide +kernel⟩
theorem ovX0_soldBy : VirOK yX0_soldBy := ⟨wd_493, wd_494⟩
def FX0_soldBy_33 (B : Blk) (k4 : Int32 → Int32 → Int32 → Option Int32) (l1 : Int32) (l3 : Int32) (s0 : Int32) (s1 : Int32) : Option Int32 :=
  lt1 (s1 + s0) fun x6 =>
  lt1 (l3 + (1 : Int32)) fun x8 =>
  k4 l1 x6 x8
set_option maxRecDepth 100000 in
set_option maxHeartbeats 4000000 in
theorem wX0_soldBy_33 {E : WE} {V : VT} {A : Nat → Prop} {H0 : Heap} {M : Mem} {j : Nat} (hj : j < 11) (Cx : CX E RX0 cX0_soldBy 4 0 0) {r : Int32} {B : Blk} (hret : RetI E V A H0 cX0_soldBy .int r (jb M j B)) {k4 : Int32 → Int32 → Int32 → Option Int32} (hk4 : ∀ {H : Heap} {locs : List Loc} {ls : Array Slot} {l1 : Int32} {l2 : Int32} {l3 : Int32}, Wd V A H0 (jb M j B) (eS E) H locs → lv_has ls 4 [(0, .ref (vA V j 2)), (1, .int l1), (2, .int l2), (3, .int l3)] → k4 l1 l2 l3 = some r → Wq E H locs 4 ls []) {H : Heap} {locs : List Loc} {ls : Array Slot} {l1 : Int32} {l3 : Int32} {s0 : Int32} {s1 : Int32} (hW : Wd V A H0 (jb M j B) (eS E) H locs) (hl : lv_has ls 4 [(0, .ref (vA V j 2)), (1, .int l1), (3, .int l3)]) (hF : FX0_soldBy_33 B k4 l1 l3 s0 s1 = some r) : Wq E H locs 33 ls [.int s0, .int s1] := by
  unfold FX0_soldBy_33 at hF
  refine q_iadd Cx dX0_soldBy_33 ?_
  obtain ⟨x6, e7, hF⟩ := lt1_some hF
  refine q_topi e7 ?_
  refine q_istore_n (lv' := [(2, .int x6), (0, .ref (vA V j 2)), (1, .int l1), (3, .int l3)]) Cx dX0_soldBy_34 rfl hl (by decide) rfl (fun ls hl => ?_)
  obtain ⟨x8, e9, hF⟩ := lt1_some hF
  refine q_iinc (k := 3) (v := x8) (lv' := [(3, .int x8), (2, .int x6), (0, .ref (vA V j 2)), (1, .int l1)]) Cx dX0_soldBy_35 hl rfl e9.symm (by decide) rfl (fun ls hl => ?_)
  refine q_goto (tgt := 4) Cx dX0_soldBy_38 (by decide) ?_
  exact hk4 hW (lv_sub hl [2, 3, 1, 0] rfl) hF
def FX0_soldBy_4s (B : Blk) (k4 : Int32 → Int32 → Int32 → Option Int32) (l1 : Int32) (l2 : Int32) (l3 : Int32) : Option Int32 :=
  if ((B 2) 0) ≤ l3 then
    some l2
  else
    ld (B 12) 40 l3 fun v2 =>
    if v2 = l1 then
      ld (B 14) 40 l3 fun v10 =>
      FX0_soldBy_33 B k4 l1 l3 v10 l2
    else
      FX0_soldBy_33 B k4 l1 l3 (0 : Int32) l2
set_option maxRecDepth 100000 in
set_option maxHeartbeats 4000000 in
theorem wX0_soldBy_4s {E : WE} {V : VT} {A : Nat → Prop} {H0 : Heap} {M : Mem} {j : Nat} (hj : j < 11) (Cx : CX E RX0 cX0_soldBy 4 0 0) {r : Int32} {B : Blk} (hret : RetI E V A H0 cX0_soldBy .int r (jb M j B)) {k4 : Int32 → Int32 → Int32 → Option Int32} (hk4 : ∀ {H : Heap} {locs : List Loc} {ls : Array Slot} {l1 : Int32} {l2 : Int32} {l3 : Int32}, Wd V A H0 (jb M j B) (eS E) H locs → lv_has ls 4 [(0, .ref (vA V j 2)), (1, .int l1), (2, .int l2), (3, .int l3)] → k4 l1 l2 l3 = some r → Wq E H locs 4 ls []) {H : Heap} {locs : List Loc} {ls : Array Slot} {l1 : Int32} {l2 : Int32} {l3 : Int32} (hW : Wd V A H0 (jb M j B) (eS E) H locs) (hl : lv_has ls 4 [(0, .ref (vA V j 2)), (1, .int l1), (2, .int l2), (3, .int l3)]) (hF : FX0_soldBy_4s B k4 l1 l2 l3 = some r) : Wq E H locs 4 ls [] := by
  unfold FX0_soldBy_4s at hF
  refine q_iload_n Cx dX0_soldBy_4 rfl (lv_at hl 3 rfl) ?_
  refine q_aload_n Cx dX0_soldBy_5 rfl (lv_at hl 0 rfl) ?_
  refine qb_get (v := .int ((B 2) 0)) Cx hW (oC hj) ic0 0 (by decide) rfl wd_144 dX0_soldBy_6 ?_
  refine q_icmp_ge (tgt := 41) Cx dX0_soldBy_9 (by decide) (fun c1 => ?_) (fun c1 => ?_)
  · have hF := (if_pos c1).symm.trans hF
    refine q_iload_n Cx dX0_soldBy_41 rfl (lv_at hl 2 rfl) ?_
    cases hF
    exact hret _ _ _ _ dX0_soldBy_42 (nI32 _) hW
  · have hF := (if_neg c1).symm.trans hF
    refine q_iload_n Cx dX0_soldBy_12 rfl (lv_at hl 2 rfl) ?_
    refine q_aload_n Cx dX0_soldBy_13 rfl (lv_at hl 0 rfl) ?_
    refine q_get (v := .ref (vA V j 12)) Cx hW (oC hj) ic0 1 (by decide) rfl wd_147 dX0_soldBy_14 ?_
    refine q_iload_n Cx dX0_soldBy_17 rfl (lv_at hl 3 rfl) ?_
    obtain ⟨h3, v2, e4, hF⟩ := ld_some hF
    refine qb_iald Cx hW (ai_12 hj) h3 e4 dX0_soldBy_18 ?_
    refine q_iload_n Cx dX0_soldBy_19 rfl (lv_at hl 1 rfl) ?_
    refine q_icmp_ne (tgt := 32) Cx dX0_soldBy_20 (by decide) (fun c5 => ?_) (fun c5 => ?_)
    · have hF := (if_neg c5).symm.trans hF
      refine q_iconst (v := (0 : Int32)) Cx dX0_soldBy_32 (by decide) ?_
      exact wX0_soldBy_33 hj Cx hret hk4 hW (lv_sub hl [0, 1, 3] rfl) hF
    · have hF := (if_pos c5).symm.trans hF
      refine q_aload_n Cx dX0_soldBy_23 rfl (lv_at hl 0 rfl) ?_
      refine q_get (v := .ref (vA V j 14)) Cx hW (oC hj) ic0 3 (by decide) rfl wd_151 dX0_soldBy_24 ?_
      refine q_iload_n Cx dX0_soldBy_27 rfl (lv_at hl 3 rfl) ?_
      obtain ⟨h11, v10, e12, hF⟩ := ld_some hF
      refine qb_iald Cx hW (ai_14 hj) h11 e12 dX0_soldBy_28 ?_
      refine q_goto (tgt := 33) Cx dX0_soldBy_29 (by decide) ?_
      exact wX0_soldBy_33 hj Cx hret hk4 hW (lv_sub hl [0, 1, 3] rfl) hF
def FX0_soldBy_4 (B : Blk) : Nat → Int32 → Int32 → Int32 → Option Int32
  | 0 => fun _ _ _ => none
  | n + 1 => FX0_soldBy_4s B (FX0_soldBy_4 B n)
set_option maxRecDepth 100000 in
theorem wX0_soldBy_4 {E : WE} {V : VT} {A : Nat → Prop} {H0 : Heap} {M : Mem} {j : Nat} (hj : j < 11) (Cx : CX E RX0 cX0_soldBy 4 0 0) {r : Int32} {B : Blk} (hret : RetI E V A H0 cX0_soldBy .int r (jb M j B)) : ∀ (n : Nat) {H : Heap} {locs : List Loc} {ls : Array Slot} {l1 : Int32} {l2 : Int32} {l3 : Int32}, Wd V A H0 (jb M j B) (eS E) H locs → lv_has ls 4 [(0, .ref (vA V j 2)), (1, .int l1), (2, .int l2), (3, .int l3)] → FX0_soldBy_4 B n l1 l2 l3 = some r → Wq E H locs 4 ls [] := by
  intro n
  induction n with
  | zero => intro _ _ _ _ _ _ hW hl hF; cases hF
  | succ n ih => intro _ _ _ _ _ _ hW hl hF; exact wX0_soldBy_4s hj Cx hret ih hW hl hF
def FX0_soldBy (B : Blk) (l1 : Int32) : Option Int32 :=
  FX0_soldBy_4 B fu l1 (0 : Int32) (0 : Int32)
set_option maxRecDepth 100000 in
set_option maxHeartbeats 4000000 in
theorem wX0_soldBy {E : WE} {V : VT} {A : Nat → Prop} {H0 : Heap} {M : Mem} {j : Nat} (hj : j < 11) (Cx : CX E RX0 cX0_soldBy 4 0 0) {r : Int32} {B : Blk} (hret : RetI E V A H0 cX0_soldBy .int r (jb M j B)) {H : Heap} {locs : List Loc} {ls : Array Slot} {l1 : Int32} (hW : Wd V A H0 (jb M j B) (eS E) H locs) (hl : lv_has ls 4 [(0, .ref (vA V j 2)), (1, .int l1)]) (hF : FX0_soldBy B l1 = some r) : Wq E H locs 0 ls [] := by
  unfold FX0_soldBy at hF
  refine q_iconst (v := (0 : Int32)) Cx dX0_soldBy_0 (by decide) ?_
  refine q_istore_n (lv' := [(2, .int (0 : Int32)), (0, .ref (vA V j 2)), (1, .int l1)]) Cx dX0_soldBy_1 rfl hl (by decide) rfl (fun ls hl => ?_)
  refine q_iconst (v := (0 : Int32)) Cx dX0_soldBy_2 (by decide) ?_
  refine q_istore_n (lv' := [(3, .int (0 : Int32)), (2, .int (0 : Int32)), (0, .ref (vA V j 2)), (1, .int l1)]) Cx dX0_soldBy_3 rfl hl (by decide) rfl (fun ls hl => ?_)
  exact wX0_soldBy_4 hj Cx hret fu hW (lv_sub hl [2, 3, 1, 0] rfl) hF
set_option maxRecDepth 100000 in
theorem kX0_soldBy {l : Launch} {V : VT} {M : Mem} {j : Nat} (hj : j < 11) {B : Blk} {l1 : Int32} {r : Int32} (hF : FX0_soldBy B l1 = some r) : MetI l V yX0_soldBy cX0_soldBy 4 .int ({ frames := 0, cells := 0, slots := 0, locals := 0 } : Room) [.ref (vA V j 2), .int l1] r (jb M j B) (jb M j B) := metI_of (by decide) (Nat.le_of_ble_eq_true rfl) (fun E H0 _ Cx hret H locs ls hW hl => wX0_soldBy hj Cx hret hW hl hF)
theorem dX0_boughtBy_0 : decode cX0_boughtBy 0 = .ok (.iconst 0, 1) := by decide +kernel
theorem dX0_boughtBy_1 : decode cX0_boughtBy 1 = .ok (.istore_n 2, 1) := by decide +kernel
theorem dX0_boughtBy_2 : decode cX0_boughtBy 2 = .ok (.iconst 0, 1) := by decide +kernel
theorem dX0_boughtBy_3 : decode cX0_boughtBy 3 = .ok (.istore_n 3, 1) := by decide +kernel
theorem dX0_boughtBy_4 : decode cX0_boughtBy 4 = .ok (.iload_n 3, 1) := by decide +kernel
theorem dX0_boughtBy_5 : decode cX0_boughtBy 5 = .ok (.aload_n 0, 1) := by decide +kernel
theorem dX0_boughtBy_6 : decode cX0_boughtBy 6 = .ok (.getfield 24, 3) := by decide +kernel
theorem dX0_boughtBy_9 : decode cX0_boughtBy 9 = .ok (.if_icmp .ge 32, 3) := by decide +kernel
theorem dX0_boughtBy_12 : decode cX0_boughtBy 12 = .ok (.iload_n 2, 1) := by decide +kernel
theorem dX0_boughtBy_13 : decode cX0_boughtBy 13 = .ok (.aload_n 0, 1) := by decide +kernel
theorem dX0_boughtBy_14 : decode cX0_boughtBy 14 = .ok (.getfield 15, 3) := by decide +kernel
theorem dX0_boughtBy_17 : decode cX0_boughtBy 17 = .ok (.iload_n 3, 1) := by decide +kernel
theorem dX0_boughtBy_18 : decode cX0_boughtBy 18 = .ok (.iaload, 1) := by decide +kernel
theorem dX0_boughtBy_19 : decode cX0_boughtBy 19 = .ok (.iload_n 1, 1) := by decide +kernel
theorem dX0_boughtBy_20 : decode cX0_boughtBy 20 = .ok (.if_icmp .ne 12, 3) := by decide +kernel
theorem dX0_boughtBy_23 : decode cX0_boughtBy 23 = .ok (.aload_n 0, 1) := by decide +kernel
theorem dX0_boughtBy_24 : decode cX0_boughtBy 24 = .ok (.getfield 18, 3) := by decide +kernel
theorem dX0_boughtBy_27 : decode cX0_boughtBy 27 = .ok (.iload_n 3, 1) := by decide +kernel
theorem dX0_boughtBy_28 : decode cX0_boughtBy 28 = .ok (.iaload, 1) := by decide +kernel
theorem dX0_boughtBy_29 : decode cX0_boughtBy 29 = .ok (.goto 4, 3) := by decide +kernel
theorem dX0_boughtBy_32 : decode cX0_boughtBy 32 = .ok (.iconst 0, 1) := by decide +kernel
theorem dX0_boughtBy_33 : decode cX0_boughtBy 33 = .ok (.iadd, 1) := by decide +kernel
theorem dX0_boughtBy_34 : decode cX0_boughtBy 34 = .ok (.istore_n 2, 1) := by decide +kernel
theorem dX0_boughtBy_35 : decode cX0_boughtBy 35 = .ok (.iinc 3 1, 3) := by decide +kernel
theorem dX0_boughtBy_38 : decode cX0_boughtBy 38 = .ok (.goto (-34), 3) := by decide +kernel
theorem dX0_boughtBy_41 : decode cX0_boughtBy 41 = .ok (.iload_n 2, 1) := by decide +kernel
theorem dX0_boughtBy_42 : decode cX0_boughtBy 42 = .ok (.ireturn, 1) := by decide +kernel
theorem okX0_boughtBy : CalOK yX0_boughtBy cX0_boughtBy 4 (some .int) 1 := ⟨wd_70, wd_499, by decide +kernel⟩
theorem ovX0_boughtBy : VirOK yX0_boughtBy := ⟨wd_497, wd_498⟩
def FX0_boughtBy_33 (B : Blk) (k4 : Int32 → Int32 → Int32 → Option Int32) (l1 : Int32) (l3 : Int32) (s0 : Int32) (s1 : Int32) : Option Int32 :=
  lt1 (s1 + s0) fun x6 =>
  lt1 (l3 + (1 : Int32)) fun x8 =>
  k4 l1 x6 x8
set_option maxRecDepth 100000 in
set_option maxHeartbeats 4000000 in
theorem wX0_boughtBy_33 {E : WE} {V : VT} {A : Nat → Prop} {H0 : Heap} {M : Mem} {j : Nat} (hj : j < 11) (Cx : CX E RX0 cX0_boughtBy 4 0 0) {r : Int32} {B : Blk} (hret : RetI E V A H0 cX0_boughtBy .int r (jb M j B)) {k4 : Int32 → Int32 → Int32 → Option Int32} (hk4 : ∀ {H : Heap} {locs : List Loc} {ls : Array Slot} {l1 : Int32} {l2 : Int32} {l3 : Int32}, Wd V A H0 (jb M j B) (eS E) H locs → lv_has ls 4 [(0, .ref (vA V j 2)), (1, .int l1), (2, .int l2), (3, .int l3)] → k4 l1 l2 l3 = some r → Wq E H locs 4 ls []) {H : Heap} {locs : List Loc} {ls : Array Slot} {l1 : Int32} {l3 : Int32} {s0 : Int32} {s1 : Int32} (hW : Wd V A H0 (jb M j B) (eS E) H locs) (hl : lv_has ls 4 [(0, .ref (vA V j 2)), (1, .int l1), (3, .int l3)]) (hF : FX0_boughtBy_33 B k4 l1 l3 s0 s1 = some r) : Wq E H locs 33 ls [.int s0, .int s1] := by
  unfold FX0_boughtBy_33 at hF
  refine q_iadd Cx dX0_boughtBy_33 ?_
  obtain ⟨x6, e7, hF⟩ := lt1_some hF
  refine q_topi e7 ?_
  refine q_istore_n (lv' := [(2, .int x6), (0, .ref (vA V j 2)), (1, .int l1), (3, .int l3)]) Cx dX0_boughtBy_34 rfl hl (by decide) rfl (fun ls hl => ?_)
  obtain ⟨x8, e9, hF⟩ := lt1_some hF
  refine q_iinc (k := 3) (v := x8) (lv' := [(3, .int x8), (2, .int x6), (0, .ref (vA V j 2)), (1, .int l1)]) Cx dX0_boughtBy_35 hl rfl e9.symm (by decide) rfl (fun ls hl => ?_)
  refine q_goto (tgt := 4) Cx dX0_boughtBy_38 (by decide) ?_
  exact hk4 hW (lv_sub hl [2, 3, 1, 0] rfl) hF
def FX0_boughtBy_4s (B : Blk) (k4 : Int32 → Int32 → Int32 → Option Int32) (l1 : Int32) (l2 : Int32) (l3 : Int32) : Option Int32 :=
  if ((B 2) 0) ≤ l3 then
    some l2
  else
    ld (B 13) 40 l3 fun v2 =>
    if v2 = l1 then
      ld (B 14) 40 l3 fun v10 =>
      FX0_boughtBy_33 B k4 l1 l3 v10 l2
    else
      FX0_boughtBy_33 B k4 l1 l3 (0 : Int32) l2
set_option maxRecDepth 100000 in
set_option maxHeartbeats 4000000 in
theorem wX0_boughtBy_4s {E : WE} {V : VT} {A : Nat → Prop} {H0 : Heap} {M : Mem} {j : Nat} (hj : j < 11) (Cx : CX E RX0 cX0_boughtBy 4 0 0) {r : Int32} {B : Blk} (hret : RetI E V A H0 cX0_boughtBy .int r (jb M j B)) {k4 : Int32 → Int32 → Int32 → Option Int32} (hk4 : ∀ {H : Heap} {locs : List Loc} {ls : Array Slot} {l1 : Int32} {l2 : Int32} {l3 : Int32}, Wd V A H0 (jb M j B) (eS E) H locs → lv_has ls 4 [(0, .ref (vA V j 2)), (1, .int l1), (2, .int l2), (3, .int l3)] → k4 l1 l2 l3 = some r → Wq E H locs 4 ls []) {H : Heap} {locs : List Loc} {ls : Array Slot} {l1 : Int32} {l2 : Int32} {l3 : Int32} (hW : Wd V A H0 (jb M j B) (eS E) H locs) (hl : lv_has ls 4 [(0, .ref (vA V j 2)), (1, .int l1), (2, .int l2), (3, .int l3)]) (hF : FX0_boughtBy_4s B k4 l1 l2 l3 = some r) : Wq E H locs 4 ls [] := by
  unfold FX0_boughtBy_4s at hF
  refine q_iload_n Cx dX0_boughtBy_4 rfl (lv_at hl 3 rfl) ?_
  refine q_aload_n Cx dX0_boughtBy_5 rfl (lv_at hl 0 rfl) ?_
  refine qb_get (v := .int ((B 2) 0)) Cx hW (oC hj) ic0 0 (by decide) rfl wd_144 dX0_boughtBy_6 ?_
  refine q_icmp_ge (tgt := 41) Cx dX0_boughtBy_9 (by decide) (fun c1 => ?_) (fun c1 => ?_)
  · have hF := (if_pos c1).symm.trans hF
    refine q_iload_n Cx dX0_boughtBy_41 rfl (lv_at hl 2 rfl) ?_
    cases hF
    exact hret _ _ _ _ dX0_boughtBy_42 (nI32 _) hW
  · have hF := (if_neg c1).symm.trans hF
    refine q_iload_n Cx dX0_boughtBy_12 rfl (lv_at hl 2 rfl) ?_
    refine q_aload_n Cx dX0_boughtBy_13 rfl (lv_at hl 0 rfl) ?_
    refine q_get (v := .ref (vA V j 13)) Cx hW (oC hj) ic0 2 (by decide) rfl wd_149 dX0_boughtBy_14 ?_
    refine q_iload_n Cx dX0_boughtBy_17 rfl (lv_at hl 3 rfl) ?_
    obtain ⟨h3, v2, e4, hF⟩ := ld_some hF
    refine qb_iald Cx hW (ai_13 hj) h3 e4 dX0_boughtBy_18 ?_
    refine q_iload_n Cx dX0_boughtBy_19 rfl (lv_at hl 1 rfl) ?_
    refine q_icmp_ne (tgt := 32) Cx dX0_boughtBy_20 (by decide) (fun c5 => ?_) (fun c5 => ?_)
    · have hF := (if_neg c5).symm.trans hF
      refine q_iconst (v := (0 : Int32)) Cx dX0_boughtBy_32 (by decide) ?_
      exact wX0_boughtBy_33 hj Cx hret hk4 hW (lv_sub hl [0, 1, 3] rfl) hF
    · have hF := (if_pos c5).symm.trans hF
      refine q_aload_n Cx dX0_boughtBy_23 rfl (lv_at hl 0 rfl) ?_
      refine q_get (v := .ref (vA V j 14)) Cx hW (oC hj) ic0 3 (by decide) rfl wd_151 dX0_boughtBy_24 ?_
      refine q_iload_n Cx dX0_boughtBy_27 rfl (lv_at hl 3 rfl) ?_
      obtain ⟨h11, v10, e12, hF⟩ := ld_some hF
      refine qb_iald Cx hW (ai_14 hj) h11 e12 dX0_boughtBy_28 ?_
      refine q_goto (tgt := 33) Cx dX0_boughtBy_29 (by decide) ?_
      exact wX0_boughtBy_33 hj Cx hret hk4 hW (lv_sub hl [0, 1, 3] rfl) hF
def FX0_boughtBy_4 (B : Blk) : Nat → Int32 → Int32 → Int32 → Option Int32
  | 0 => fun _ _ _ => none
  | n + 1 => FX0_boughtBy_4s B (FX0_boughtBy_4 B n)
set_option maxRecDepth 100000 in
theorem wX0_boughtBy_4 {E : WE} {V : VT} {A : Nat → Prop} {H0 : Heap} {M : Mem} {j : Nat} (hj : j < 11) (Cx : CX E RX0 cX0_boughtBy 4 0 0) {r : Int32} {B : Blk} (hret : RetI E V A H0 cX0_boughtBy .int r (jb M j B)) : ∀ (n : Nat) {H : Heap} {locs : List Loc} {ls : Array Slot} {l1 : Int32} {l2 : Int32} {l3 : Int32}, Wd V A H0 (jb M j B) (eS E) H locs → lv_has ls 4 [(0, .ref (vA V j 2)), (1, .int l1), (2, .int l2), (3, .int l3)] → FX0_boughtBy_4 B n l1 l2 l3 = some r → Wq E H locs 4 ls [] := by
  intro n
  induction n with
  | zero => intro _ _ _ _ _ _ hW hl hF; cases hF
  | succ n ih => intro _ _ _ _ _ _ hW hl hF; exact wX0_boughtBy_4s hj Cx hret ih hW hl hF
def FX0_boughtBy (B : Blk) (l1 : Int32) : Option Int32 :=
  FX0_boughtBy_4 B fu l1 (0 : Int32) (0 : Int32)
set_option maxRecDepth 100000 in
set_option maxHeartbeats 4000000 in
theorem wX0_boughtBy {E : WE} {V : VT} {A : Nat → Prop} {H0 : Heap} {M : Mem} {j : Nat} (hj : j < 11) (Cx : CX E RX0 cX0_boughtBy 4 0 0) {r : Int32} {B : Blk} (hret : RetI E V A H0 cX0_boughtBy .int r (jb M j B)) {H : Heap} {locs : List Loc} {ls : Array Slot} {l1 : Int32} (hW : Wd V A H0 (jb M j B) (eS E) H locs) (hl : lv_has ls 4 [(0, .ref (vA V j 2)), (1, .int l1)]) (hF : FX0_boughtBy B l1 = some r) : Wq E H locs 0 ls [] := by
  unfold FX0_boughtBy at hF
  refine q_iconst (v := (0 : Int32)) Cx dX0_boughtBy_0 (by decide) ?_
  refine q_istore_n (lv' := [(2, .int (0 : Int32)), (0, .ref (vA V j 2)), (1, .int l1)]) Cx dX0_boughtBy_1 rfl hl (by decide) rfl (fun ls hl => ?_)
  refine q_iconst (v := (0 : Int32)) Cx dX0_boughtBy_2 (by decide) ?_
  refine q_istore_n (lv' := [(3, .int (0 : Int32)), (2, .int (0 : Int32)), (0, .ref (vA V j 2)), (1, .int l1)]) Cx dX0_boughtBy_3 rfl hl (by decide) rfl (fun ls hl => ?_)
  exact wX0_boughtBy_4 hj Cx hret fu hW (lv_sub hl [2, 3, 1, 0] rfl) hF
set_option maxRecDepth 100000 in
theorem kX0_boughtBy {l : Launch} {V : VT} {M : Mem} {j : Nat} (hj : j < 11) {B : Blk} {l1 : Int32} {r : Int32} (hF : FX0_boughtBy B l1 = some r) : MetI l V yX0_boughtBy cX0_boughtBy 4 .int ({ frames := 0, cells := 0, slots := 0, locals := 0 } : Room) [.ref (vA V j 2), .int l1] r (jb M j B) (jb M j B) := metI_of (by decide) (Nat.le_of_ble_eq_true rfl) (fun E H0 _ Cx hret H locs ls hW hl => wX0_boughtBy hj Cx hret hW hl hF)
theorem dX0_tell_0 : decode cX0_tell 0 = .ok (.aload_n 0, 1) := by decide +kernel
theorem dX0_tell_1 : decode cX0_tell 1 = .ok (.iload_n 1, 1) := by decide +kernel
theorem dX0_tell_2 : decode cX0_tell 2 = .ok (.invokevirtual 34, 3) := by decide +kernel
theorem dX0_tell_5 : decode cX0_tell 5 = .ok (.ifCond .ne 5, 3) := by decide +kernel
theorem dX0_tell_8 : decode cX0_tell 8 = .ok (.iconst (-1), 1) := by decide +kernel
theorem dX0_tell_9 : decode cX0_tell 9 = .ok (.ireturn, 1) := by decide +kernel
theorem dX0_tell_10 : decode cX0_tell 10 = .ok (.iload_n 2, 1) := by decide +kernel
theorem dX0_tell_11 : decode cX0_tell 11 = .ok (.tableswitch 57 0 3 #[29, 36, 43, 50], 29) := by decide +kernel
theorem dX0_tell_40 : decode cX0_tell 40 = .ok (.aload_n 0, 1) := by decide +kernel
theorem dX0_tell_41 : decode cX0_tell 41 = .ok (.getfield 9, 3) := by decide +kernel
theorem dX0_tell_44 : decode cX0_tell 44 = .ok (.iload_n 1, 1) := by decide +kernel
theorem dX0_tell_45 : decode cX0_tell 45 = .ok (.iaload, 1) := by decide +kernel
theorem dX0_tell_46 : decode cX0_tell 46 = .ok (.ireturn, 1) := by decide +kernel
theorem dX0_tell_47 : decode cX0_tell 47 = .ok (.aload_n 0, 1) := by decide +kernel
theorem dX0_tell_48 : decode cX0_tell 48 = .ok (.getfield 15, 3) := by decide +kernel
theorem dX0_tell_51 : decode cX0_tell 51 = .ok (.iload_n 1, 1) := by decide +kernel
theorem dX0_tell_52 : decode cX0_tell 52 = .ok (.iaload, 1) := by decide +kernel
theorem dX0_tell_53 : decode cX0_tell 53 = .ok (.ireturn, 1) := by decide +kernel
theorem dX0_tell_54 : decode cX0_tell 54 = .ok (.aload_n 0, 1) := by decide +kernel
theorem dX0_tell_55 : decode cX0_tell 55 = .ok (.getfield 18, 3) := by decide +kernel
theorem dX0_tell_58 : decode cX0_tell 58 = .ok (.iload_n 1, 1) := by decide +kernel
theorem dX0_tell_59 : decode cX0_tell 59 = .ok (.iaload, 1) := by decide +kernel
theorem dX0_tell_60 : decode cX0_tell 60 = .ok (.ireturn, 1) := by decide +kernel
theorem dX0_tell_61 : decode cX0_tell 61 = .ok (.aload_n 0, 1) := by decide +kernel
theorem dX0_tell_62 : decode cX0_tell 62 = .ok (.getfield 21, 3) := by decide +kernel
theorem dX0_tell_65 : decode cX0_tell 65 = .ok (.iload_n 1, 1) := by decide +kernel
theorem dX0_tell_66 : decode cX0_tell 66 = .ok (.iaload, 1) := by decide +kernel
theorem dX0_tell_67 : decode cX0_tell 67 = .ok (.ireturn, 1) := by decide +kernel
theorem dX0_tell_68 : decode cX0_tell 68 = .ok (.bipush (-2), 2) := by decide +kernel
theorem dX0_tell_70 : decode cX0_tell 70 = .ok (.ireturn, 1) := by decide +kernel
theorem okX0_tell : CalOK yX0_tell cX0_tell 3 (some .int) 2 := ⟨wd_70, wd_526, by decide +kernel⟩
theorem ovX0_tell : VirOK yX0_tell := ⟨wd_524, wd_525⟩
def FX0_tell (B : Blk) (l1 : Int32) (l2 : Int32) : Option Int32 :=
  c1 (FX0_has B l1) fun r1 =>
  if r1 = 0 then
    some (-1 : Int32)
  else
    if l2 = (0 : Int32) then
      ld (B 12) 40 l1 fun v5 =>
      some v5
    else
      if l2 = (1 : Int32) then
        ld (B 13) 40 l1 fun v9 =>
        some v9
      else
        if l2 = (2 : Int32) then
          ld (B 14) 40 l1 fun v13 =>
          some v13
        else
          if l2 = (3 : Int32) then
            ld (B 15) 40 l1 fun v17 =>
            some v17
          else
            some (-2 : Int32)
set_option maxRecDepth 100000 in
set_option maxHeartbeats 4000000 in
theorem wX0_tell {E : WE} {V : VT} {A : Nat → Prop} {H0 : Heap} {M : Mem} {j : Nat} (hj : j < 11) (Cx : CX E RX0 cX0_tell 3 1 21) {r : Int32} {B : Blk} (hret : RetI E V A H0 cX0_tell .int r (jb M j B)) {H : Heap} {locs : List Loc} {ls : Array Slot} {l1 : Int32} {l2 : Int32} (hW : Wd V A H0 (jb M j B) (eS E) H locs) (hl : lv_has ls 3 [(0, .ref (vA V j 2)), (1, .int l1), (2, .int l2)]) (hF : FX0_tell B l1 l2 = some r) : Wq E H locs 0 ls [] := by
  unfold FX0_tell at hF
  refine q_aload_n Cx dX0_tell_0 rfl (lv_at hl 0 rfl) ?_
  refine q_iload_n Cx dX0_tell_1 rfl (lv_at hl 1 rfl) ?_
  obtain ⟨r1, e2, hF⟩ := c1_some hF
  refine q_callI (as := [.int l1]) (rest := []) Cx (kX0_has hj e2) okX0_has ovX0_has wd_527 ⟨rfl, rfl, by decide, by decide⟩ hW (oC hj) ic0 rfl hl.1 (Nat.le_of_ble_eq_true rfl) rfl dX0_tell_2 (fun H locs hW => ?_)
  refine q_if_ne (tgt := 10) Cx dX0_tell_5 (by decide) (fun c3 => ?_) (fun c3 => ?_)
  · have hF := (if_neg c3).symm.trans hF
    refine q_iload_n Cx dX0_tell_10 rfl (lv_at hl 2 rfl) ?_
    by_cases c4 : l2 = (0 : Int32)
    · have hF := (if_pos c4).symm.trans hF
      refine q_tableIn (tgt := 40) Cx dX0_tell_11 (by rw [c4]; decide) (by rw [c4]; decide) (ho := by rw [c4]; rfl) (by decide) ?_
      refine q_aload_n Cx dX0_tell_40 rfl (lv_at hl 0 rfl) ?_
      refine q_get (v := .ref (vA V j 12)) Cx hW (oC hj) ic0 1 (by decide) rfl wd_147 dX0_tell_41 ?_
      refine q_iload_n Cx dX0_tell_44 rfl (lv_at hl 1 rfl) ?_
      obtain ⟨h6, v5, e7, hF⟩ := ld_some hF
      refine qb_iald Cx hW (ai_12 hj) h6 e7 dX0_tell_45 ?_
      cases hF
      exact hret _ _ _ _ dX0_tell_46 (nI32 _) hW
    · have hF := (if_neg c4).symm.trans hF
      by_cases c8 : l2 = (1 : Int32)
      · have hF := (if_pos c8).symm.trans hF
        refine q_tableIn (tgt := 47) Cx dX0_tell_11 (by rw [c8]; decide) (by rw [c8]; decide) (ho := by rw [c8]; rfl) (by decide) ?_
        refine q_aload_n Cx dX0_tell_47 rfl (lv_at hl 0 rfl) ?_
        refine q_get (v := .ref (vA V j 13)) Cx hW (oC hj) ic0 2 (by decide) rfl wd_149 dX0_tell_48 ?_
        refine q_iload_n Cx dX0_tell_51 rfl (lv_at hl 1 rfl) ?_
        obtain ⟨h10, v9, e11, hF⟩ := ld_some hF
        refine qb_iald Cx hW (ai_13 hj) h10 e11 dX0_tell_52 ?_
        cases hF
        exact hret _ _ _ _ dX0_tell_53 (nI32 _) hW
      · have hF := (if_neg c8).symm.trans hF
        by_cases c12 : l2 = (2 : Int32)
        · have hF := (if_pos c12).symm.trans hF
          refine q_tableIn (tgt := 54) Cx dX0_tell_11 (by rw [c12]; decide) (by rw [c12]; decide) (ho := by rw [c12]; rfl) (by decide) ?_
          refine q_aload_n Cx dX0_tell_54 rfl (lv_at hl 0 rfl) ?_
          refine q_get (v := .ref (vA V j 14)) Cx hW (oC hj) ic0 3 (by decide) rfl wd_151 dX0_tell_55 ?_
          refine q_iload_n Cx dX0_tell_58 rfl (lv_at hl 1 rfl) ?_
          obtain ⟨h14, v13, e15, hF⟩ := ld_some hF
          refine qb_iald Cx hW (ai_14 hj) h14 e15 dX0_tell_59 ?_
          cases hF
          exact hret _ _ _ _ dX0_tell_60 (nI32 _) hW
        · have hF := (if_neg c12).symm.trans hF
          by_cases c16 : l2 = (3 : Int32)
          · have hF := (if_pos c16).symm.trans hF
            refine q_tableIn (tgt := 61) Cx dX0_tell_11 (by rw [c16]; decide) (by rw [c16]; decide) (ho := by rw [c16]; rfl) (by decide) ?_
            refine q_aload_n Cx dX0_tell_61 rfl (lv_at hl 0 rfl) ?_
            refine q_get (v := .ref (vA V j 15)) Cx hW (oC hj) ic0 4 (by decide) rfl wd_153 dX0_tell_62 ?_
            refine q_iload_n Cx dX0_tell_65 rfl (lv_at hl 1 rfl) ?_
            obtain ⟨h18, v17, e19, hF⟩ := ld_some hF
            refine qb_iald Cx hW (ai_15 hj) h18 e19 dX0_tell_66 ?_
            cases hF
            exact hret _ _ _ _ dX0_tell_67 (nI32 _) hW
          · have hF := (if_neg c16).symm.trans hF
            refine q_tableOut (tgt := 68) Cx dX0_tell_11 (tbl_out (tbl_cons (k := (0 : Int32)) (l1 := 1) (by decide) (by decide) c4 (tbl_cons (k := (1 : Int32)) (l1 := 2) (by decide) (by decide) c8 (tbl_cons (k := (2 : Int32)) (l1 := 3) (by decide) (by decide) c12 (tbl_cons (k := (3 : Int32)) (l1 := 4) (by decide) (by decide) c16 (tbl_nil (by decide))))))) (by decide) ?_
            refine q_bipush (v := (-2 : Int32)) Cx dX0_tell_68 (by decide) ?_
            cases hF
            exact hret _ _ _ _ dX0_tell_70 (nI32 _) hW
  · have hF := (if_pos c3).symm.trans hF
    refine q_iconst (v := (-1 : Int32)) Cx dX0_tell_8 (by decide) ?_
    cases hF
    exact hret _ _ _ _ dX0_tell_9 (nI32 _) hW
set_option maxRecDepth 100000 in
theorem kX0_tell {l : Launch} {V : VT} {M : Mem} {j : Nat} (hj : j < 11) {B : Blk} {l1 : Int32} {l2 : Int32} {r : Int32} (hF : FX0_tell B l1 l2 = some r) : MetI l V yX0_tell cX0_tell 3 .int ({ frames := 1, cells := 0, slots := 0, locals := 21 } : Room) [.ref (vA V j 2), .int l1, .int l2] r (jb M j B) (jb M j B) := metI_of (by decide) (Nat.le_of_ble_eq_true rfl) (fun E H0 _ Cx hret H locs ls hW hl => wX0_tell hj Cx hret hW hl hF)
theorem dX0_allHours_0 : decode cX0_allHours 0 = .ok (.iconst 0, 1) := by decide +kernel
theorem dX0_allHours_1 : decode cX0_allHours 1 = .ok (.istore_n 1, 1) := by decide +kernel
theorem dX0_allHours_2 : decode cX0_allHours 2 = .ok (.iconst 0, 1) := by decide +kernel
theorem dX0_allHours_3 : decode cX0_allHours 3 = .ok (.istore_n 2, 1) := by decide +kernel
theorem dX0_allHours_4 : decode cX0_allHours 4 = .ok (.iload_n 2, 1) := by decide +kernel
theorem dX0_allHours_5 : decode cX0_allHours 5 = .ok (.aload_n 0, 1) := by decide +kernel
theorem dX0_allHours_6 : decode cX0_allHours 6 = .ok (.getfield 24, 3) := by decide +kernel
theorem dX0_allHours_9 : decode cX0_allHours 9 = .ok (.if_icmp .ge 18, 3) := by decide +kernel
theorem dX0_allHours_12 : decode cX0_allHours 12 = .ok (.iload_n 1, 1) := by decide +kernel
theorem dX0_allHours_13 : decode cX0_allHours 13 = .ok (.aload_n 0, 1) := by decide +kernel
theorem dX0_allHours_14 : decode cX0_allHours 14 = .ok (.getfield 18, 3) := by decide +kernel
theorem dX0_allHours_17 : decode cX0_allHours 17 = .ok (.iload_n 2, 1) := by decide +kernel
theorem dX0_allHours_18 : decode cX0_allHours 18 = .ok (.iaload, 1) := by decide +kernel
theorem dX0_allHours_19 : decode cX0_allHours 19 = .ok (.iadd, 1) := by decide +kernel
theorem dX0_allHours_20 : decode cX0_allHours 20 = .ok (.istore_n 1, 1) := by decide +kernel
theorem dX0_allHours_21 : decode cX0_allHours 21 = .ok (.iinc 2 1, 3) := by decide +kernel
theorem dX0_allHours_24 : decode cX0_allHours 24 = .ok (.goto (-20), 3) := by decide +kernel
theorem dX0_allHours_27 : decode cX0_allHours 27 = .ok (.iload_n 1, 1) := by decide +kernel
theorem dX0_allHours_28 : decode cX0_allHours 28 = .ok (.ireturn, 1) := by decide +kernel
theorem okX0_allHours : CalOK yX0_allHours cX0_allHours 3 (some .int) 0 := ⟨wd_70, wd_555, by decide +kernel⟩
theorem ovX0_allHours : VirOK yX0_allHours := ⟨wd_553, wd_554⟩
def FX0_allHours_4s (B : Blk) (k4 : Int32 → Int32 → Option Int32) (l1 : Int32) (l2 : Int32) : Option Int32 :=
  if ((B 2) 0) ≤ l2 then
    some l1
  else
    ld (B 14) 40 l2 fun v2 =>
    lt1 (l1 + v2) fun x5 =>
    lt1 (l2 + (1 : Int32)) fun x7 =>
    k4 x5 x7
set_option maxRecDepth 100000 in
set_option maxHeartbeats 4000000 in
theorem wX0_allHours_4s {E : WE} {V : VT} {A : Nat → Prop} {H0 : Heap} {M : Mem} {j : Nat} (hj : j < 11) (Cx : CX E RX0 cX0_allHours 3 0 0) {r : Int32} {B : Blk} (hret : RetI E V A H0 cX0_allHours .int r (jb M j B)) {k4 : Int32 → Int32 → Option Int32} (hk4 : ∀ {H : Heap} {locs : List Loc} {ls : Array Slot} {l1 : Int32} {l2 : Int32}, Wd V A H0 (jb M j B) (eS E) H locs → lv_has ls 3 [(0, .ref (vA V j 2)), (1, .int l1), (2, .int l2)] → k4 l1 l2 = some r → Wq E H locs 4 ls []) {H : Heap} {locs : List Loc} {ls : Array Slot} {l1 : Int32} {l2 : Int32} (hW : Wd V A H0 (jb M j B) (eS E) H locs) (hl : lv_has ls 3 [(0, .ref (vA V j 2)), (1, .int l1), (2, .int l2)]) (hF : FX0_allHours_4s B k4 l1 l2 = some r) : Wq E H locs 4 ls [] := by
  unfold FX0_allHours_4s at hF
  refine q_iload_n Cx dX0_allHours_4 rfl (lv_at hl 2 rfl) ?_
  refine q_aload_n Cx dX0_allHours_5 rfl (lv_at hl 0 rfl) ?_
  refine qb_get (v := .int ((B 2) 0)) Cx hW (oC hj) ic0 0 (by decide) rfl wd_144 dX0_allHours_6 ?_
  refine q_icmp_ge (tgt := 27) Cx dX0_allHours_9 (by decide) (fun c1 => ?_) (fun c1 => ?_)
  · have hF := (if_pos c1).symm.trans hF
    refine q_iload_n Cx dX0_allHours_27 rfl (lv_at hl 1 rfl) ?_
    cases hF
    exact hret _ _ _ _ dX0_allHours_28 (nI32 _) hW
  · have hF := (if_neg c1).symm.trans hF
    refine q_iload_n Cx dX0_allHours_12 rfl (lv_at hl 1 rfl) ?_
    refine q_aload_n Cx dX0_allHours_13 rfl (lv_at hl 0 rfl) ?_
    refine q_get (v := .ref (vA V j 14)) Cx hW (oC hj) ic0 3 (by decide) rfl wd_151 dX0_allHours_14 ?_
    refine q_iload_n Cx dX0_allHours_17 rfl (lv_at hl 2 rfl) ?_
    obtain ⟨h3, v2, e4, hF⟩ := ld_some hF
    refine qb_iald Cx hW (ai_14 hj) h3 e4 dX0_allHours_18 ?_
    refine q_iadd Cx dX0_allHours_19 ?_
    obtain ⟨x5, e6, hF⟩ := lt1_some hF
    refine q_topi e6 ?_
    refine q_istore_n (lv' := [(1, .int x5), (0, .ref (vA V j 2)), (2, .int l2)]) Cx dX0_allHours_20 rfl hl (by decide) rfl (fun ls hl => ?_)
    obtain ⟨x7, e8, hF⟩ := lt1_some hF
    refine q_iinc (k := 2) (v := x7) (lv' := [(2, .int x7), (1, .int x5), (0, .ref (vA V j 2))]) Cx dX0_allHours_21 hl rfl e8.symm (by decide) rfl (fun ls hl => ?_)
    refine q_goto (tgt := 4) Cx dX0_allHours_24 (by decide) ?_
    exact hk4 hW (lv_sub hl [2, 1, 0] rfl) hF
def FX0_allHours_4 (B : Blk) : Nat → Int32 → Int32 → Option Int32
  | 0 => fun _ _ => none
  | n + 1 => FX0_allHours_4s B (FX0_allHours_4 B n)
set_option maxRecDepth 100000 in
theorem wX0_allHours_4 {E : WE} {V : VT} {A : Nat → Prop} {H0 : Heap} {M : Mem} {j : Nat} (hj : j < 11) (Cx : CX E RX0 cX0_allHours 3 0 0) {r : Int32} {B : Blk} (hret : RetI E V A H0 cX0_allHours .int r (jb M j B)) : ∀ (n : Nat) {H : Heap} {locs : List Loc} {ls : Array Slot} {l1 : Int32} {l2 : Int32}, Wd V A H0 (jb M j B) (eS E) H locs → lv_has ls 3 [(0, .ref (vA V j 2)), (1, .int l1), (2, .int l2)] → FX0_allHours_4 B n l1 l2 = some r → Wq E H locs 4 ls [] := by
  intro n
  induction n with
  | zero => intro _ _ _ _ _ hW hl hF; cases hF
  | succ n ih => intro _ _ _ _ _ hW hl hF; exact wX0_allHours_4s hj Cx hret ih hW hl hF
def FX0_allHours (B : Blk) : Option Int32 :=
  FX0_allHours_4 B fu (0 : Int32) (0 : Int32)
set_option maxRecDepth 100000 in
set_option maxHeartbeats 4000000 in
theorem wX0_allHours {E : WE} {V : VT} {A : Nat → Prop} {H0 : Heap} {M : Mem} {j : Nat} (hj : j < 11) (Cx : CX E RX0 cX0_allHours 3 0 0) {r : Int32} {B : Blk} (hret : RetI E V A H0 cX0_allHours .int r (jb M j B)) {H : Heap} {locs : List Loc} {ls : Array Slot} (hW : Wd V A H0 (jb M j B) (eS E) H locs) (hl : lv_has ls 3 [(0, .ref (vA V j 2))]) (hF : FX0_allHours B = some r) : Wq E H locs 0 ls [] := by
  unfold FX0_allHours at hF
  refine q_iconst (v := (0 : Int32)) Cx dX0_allHours_0 (by decide) ?_
  refine q_istore_n (lv' := [(1, .int (0 : Int32)), (0, .ref (vA V j 2))]) Cx dX0_allHours_1 rfl hl (by decide) rfl (fun ls hl => ?_)
  refine q_iconst (v := (0 : Int32)) Cx dX0_allHours_2 (by decide) ?_
  refine q_istore_n (lv' := [(2, .int (0 : Int32)), (1, .int (0 : Int32)), (0, .ref (vA V j 2))]) Cx dX0_allHours_3 rfl hl (by decide) rfl (fun ls hl => ?_)
  exact wX0_allHours_4 hj Cx hret fu hW (lv_sub hl [2, 1, 0] rfl) hF
set_option maxRecDepth 100000 in
theorem kX0_allHours {l : Launch} {V : VT} {M : Mem} {j : Nat} (hj : j < 11) {B : Blk} {r : Int32} (hF : FX0_allHours B = some r) : MetI l V yX0_allHours cX0_allHours 3 .int ({ frames := 0, cells := 0, slots := 0, locals := 0 } : Room) [.ref (vA V j 2)] r (jb M j B) (jb M j B) := metI_of (by decide) (Nat.le_of_ble_eq_true rfl) (fun E H0 _ Cx hret H locs ls hW hl => wX0_allHours hj Cx hret hW hl hF)
theorem dX0_sellersSince_0 : decode cX0_sellersSince 0 = .ok (.iconst 0, 1) := by decide +kernel
theorem dX0_sellersSince_1 : decode cX0_sellersSince 1 = .ok (.istore_n 2, 1) := by decide +kernel
theorem dX0_sellersSince_2 : decode cX0_sellersSince 2 = .ok (.iload_n 1, 1) := by decide +kernel
theorem dX0_sellersSince_3 : decode cX0_sellersSince 3 = .ok (.iconst 0, 1) := by decide +kernel
theorem dX0_sellersSince_4 : decode cX0_sellersSince 4 = .ok (.invokestatic 46, 3) := by decide +kernel
theorem dX0_sellersSince_7 : decode cX0_sellersSince 7 = .ok (.istore_n 3, 1) := by decide +kernel
theorem dX0_sellersSince_8 : decode cX0_sellersSince 8 = .ok (.iload_n 3, 1) := by decide +kernel
theorem dX0_sellersSince_9 : decode cX0_sellersSince 9 = .ok (.aload_n 0, 1) := by decide +kernel
theorem dX0_sellersSince_10 : decode cX0_sellersSince 10 = .ok (.getfield 24, 3) := by decide +kernel
theorem dX0_sellersSince_13 : decode cX0_sellersSince 13 = .ok (.if_icmp .ge 20, 3) := by decide +kernel
theorem dX0_sellersSince_16 : decode cX0_sellersSince 16 = .ok (.iload_n 2, 1) := by decide +kernel
theorem dX0_sellersSince_17 : decode cX0_sellersSince 17 = .ok (.iconst 1, 1) := by decide +kernel
theorem dX0_sellersSince_18 : decode cX0_sellersSince 18 = .ok (.aload_n 0, 1) := by decide +kernel
theorem dX0_sellersSince_19 : decode cX0_sellersSince 19 = .ok (.getfield 9, 3) := by decide +kernel
theorem dX0_sellersSince_22 : decode cX0_sellersSince 22 = .ok (.iload_n 3, 1) := by decide +kernel
theorem dX0_sellersSince_23 : decode cX0_sellersSince 23 = .ok (.iaload, 1) := by decide +kernel
theorem dX0_sellersSince_24 : decode cX0_sellersSince 24 = .ok (.ishl, 1) := by decide +kernel
theorem dX0_sellersSince_25 : decode cX0_sellersSince 25 = .ok (.ior, 1) := by decide +kernel
theorem dX0_sellersSince_26 : decode cX0_sellersSince 26 = .ok (.istore_n 2, 1) := by decide +kernel
theorem dX0_sellersSince_27 : decode cX0_sellersSince 27 = .ok (.iinc 3 1, 3) := by decide +kernel
theorem dX0_sellersSince_30 : decode cX0_sellersSince 30 = .ok (.goto (-22), 3) := by decide +kernel
theorem dX0_sellersSince_33 : decode cX0_sellersSince 33 = .ok (.iload_n 2, 1) := by decide +kernel
theorem dX0_sellersSince_34 : decode cX0_sellersSince 34 = .ok (.ireturn, 1) := by decide +kernel
theorem okX0_sellersSince : CalOK yX0_sellersSince cX0_sellersSince 4 (some .int) 1 := ⟨wd_70, wd_571, by decide +kernel⟩
theorem ovX0_sellersSince : VirOK yX0_sellersSince := ⟨wd_569, wd_570⟩
def FX0_sellersSince_8s (B : Blk) (k8 : Int32 → Int32 → Option Int32) (l2 : Int32) (l3 : Int32) : Option Int32 :=
  if ((B 2) 0) ≤ l3 then
    some l2
  else
    ld (B 12) 40 l3 fun v4 =>
    lt1 (l2 ||| ((1 : Int32) <<< (v4 &&& 31))) fun x7 =>
    lt1 (l3 + (1 : Int32)) fun x9 =>
    k8 x7 x9
set_option maxRecDepth 100000 in
set_option maxHeartbeats 4000000 in
theorem wX0_sellersSince_8s {E : WE} {V : VT} {A : Nat → Prop} {H0 : Heap} {M : Mem} {j : Nat} (hj : j < 11) (Cx : CX E RX0 cX0_sellersSince 4 1 40) {r : Int32} {B : Blk} (hret : RetI E V A H0 cX0_sellersSince .int r (jb M j B)) {k8 : Int32 → Int32 → Option Int32} (hk8 : ∀ {H : Heap} {locs : List Loc} {ls : Array Slot} {l2 : Int32} {l3 : Int32}, Wd V A H0 (jb M j B) (eS E) H locs → lv_has ls 4 [(0, .ref (vA V j 2)), (2, .int l2), (3, .int l3)] → k8 l2 l3 = some r → Wq E H locs 8 ls []) {H : Heap} {locs : List Loc} {ls : Array Slot} {l2 : Int32} {l3 : Int32} (hW : Wd V A H0 (jb M j B) (eS E) H locs) (hl : lv_has ls 4 [(0, .ref (vA V j 2)), (2, .int l2), (3, .int l3)]) (hF : FX0_sellersSince_8s B k8 l2 l3 = some r) : Wq E H locs 8 ls [] := by
  unfold FX0_sellersSince_8s at hF
  refine q_iload_n Cx dX0_sellersSince_8 rfl (lv_at hl 2 rfl) ?_
  refine q_aload_n Cx dX0_sellersSince_9 rfl (lv_at hl 0 rfl) ?_
  refine qb_get (v := .int ((B 2) 0)) Cx hW (oC hj) ic0 0 (by decide) rfl wd_144 dX0_sellersSince_10 ?_
  refine q_icmp_ge (tgt := 33) Cx dX0_sellersSince_13 (by decide) (fun c3 => ?_) (fun c3 => ?_)
  · have hF := (if_pos c3).symm.trans hF
    refine q_iload_n Cx dX0_sellersSince_33 rfl (lv_at hl 1 rfl) ?_
    cases hF
    exact hret _ _ _ _ dX0_sellersSince_34 (nI32 _) hW
  · have hF := (if_neg c3).symm.trans hF
    refine q_iload_n Cx dX0_sellersSince_16 rfl (lv_at hl 1 rfl) ?_
    refine q_iconst (v := (1 : Int32)) Cx dX0_sellersSince_17 (by decide) ?_
    refine q_aload_n Cx dX0_sellersSince_18 rfl (lv_at hl 0 rfl) ?_
    refine q_get (v := .ref (vA V j 12)) Cx hW (oC hj) ic0 1 (by decide) rfl wd_147 dX0_sellersSince_19 ?_
    refine q_iload_n Cx dX0_sellersSince_22 rfl (lv_at hl 2 rfl) ?_
    obtain ⟨h5, v4, e6, hF⟩ := ld_some hF
    refine qb_iald Cx hW (ai_12 hj) h5 e6 dX0_sellersSince_23 ?_
    refine q_ishl Cx dX0_sellersSince_24 ?_
    refine q_ior Cx dX0_sellersSince_25 ?_
    obtain ⟨x7, e8, hF⟩ := lt1_some hF
    refine q_topi e8 ?_
    refine q_istore_n (lv' := [(2, .int x7), (0, .ref (vA V j 2)), (3, .int l3)]) Cx dX0_sellersSince_26 rfl hl (by decide) rfl (fun ls hl => ?_)
    obtain ⟨x9, e10, hF⟩ := lt1_some hF
    refine q_iinc (k := 2) (v := x9) (lv' := [(3, .int x9), (2, .int x7), (0, .ref (vA V j 2))]) Cx dX0_sellersSince_27 hl rfl e10.symm (by decide) rfl (fun ls hl => ?_)
    refine q_goto (tgt := 8) Cx dX0_sellersSince_30 (by decide) ?_
    exact hk8 hW (lv_sub hl [2, 1, 0] rfl) hF
def FX0_sellersSince_8 (B : Blk) : Nat → Int32 → Int32 → Option Int32
  | 0 => fun _ _ => none
  | n + 1 => FX0_sellersSince_8s B (FX0_sellersSince_8 B n)
set_option maxRecDepth 100000 in
theorem wX0_sellersSince_8 {E : WE} {V : VT} {A : Nat → Prop} {H0 : Heap} {M : Mem} {j : Nat} (hj : j < 11) (Cx : CX E RX0 cX0_sellersSince 4 1 40) {r : Int32} {B : Blk} (hret : RetI E V A H0 cX0_sellersSince .int r (jb M j B)) : ∀ (n : Nat) {H : Heap} {locs : List Loc} {ls : Array Slot} {l2 : Int32} {l3 : Int32}, Wd V A H0 (jb M j B) (eS E) H locs → lv_has ls 4 [(0, .ref (vA V j 2)), (2, .int l2), (3, .int l3)] → FX0_sellersSince_8 B n l2 l3 = some r → Wq E H locs 8 ls [] := by
  intro n
  induction n with
  | zero => intro _ _ _ _ _ hW hl hF; cases hF
  | succ n ih => intro _ _ _ _ _ hW hl hF; exact wX0_sellersSince_8s hj Cx hret ih hW hl hF
def FX0_sellersSince (B : Blk) (l1 : Int32) : Option Int32 :=
  lt1 (if l1 < (0 : Int32) then (0 : Int32) else l1) fun x1 =>
  FX0_sellersSince_8 B fu (0 : Int32) x1
set_option maxRecDepth 100000 in
set_option maxHeartbeats 4000000 in
theorem wX0_sellersSince {E : WE} {V : VT} {A : Nat → Prop} {H0 : Heap} {M : Mem} {j : Nat} (hj : j < 11) (Cx : CX E RX0 cX0_sellersSince 4 1 40) {r : Int32} {B : Blk} (hret : RetI E V A H0 cX0_sellersSince .int r (jb M j B)) {H : Heap} {locs : List Loc} {ls : Array Slot} {l1 : Int32} (hW : Wd V A H0 (jb M j B) (eS E) H locs) (hl : lv_has ls 4 [(0, .ref (vA V j 2)), (1, .int l1)]) (hF : FX0_sellersSince B l1 = some r) : Wq E H locs 0 ls [] := by
  unfold FX0_sellersSince at hF
  refine q_iconst (v := (0 : Int32)) Cx dX0_sellersSince_0 (by decide) ?_
  refine q_istore_n (lv' := [(2, .int (0 : Int32)), (0, .ref (vA V j 2)), (1, .int l1)]) Cx dX0_sellersSince_1 rfl hl (by decide) rfl (fun ls hl => ?_)
  refine q_iload_n Cx dX0_sellersSince_2 rfl (lv_at hl 2 rfl) ?_
  refine q_iconst (v := (0 : Int32)) Cx dX0_sellersSince_3 (by decide) ?_
  obtain ⟨x1, e2, hF⟩ := lt1_some hF
  refine q_max Cx wd_572 wd_335 wd_75 wd_336 hl.1 (by decide) (Nat.le_of_ble_eq_true rfl) e2.symm dX0_sellersSince_4 ?_
  refine q_istore_n (lv' := [(3, .int x1), (2, .int (0 : Int32)), (0, .ref (vA V j 2)), (1, .int l1)]) Cx dX0_sellersSince_7 rfl hl (by decide) rfl (fun ls hl => ?_)
  exact wX0_sellersSince_8 hj Cx hret fu hW (lv_sub hl [2, 1, 0] rfl) hF
set_option maxRecDepth 100000 in
theorem kX0_sellersSince {l : Launch} {V : VT} {M : Mem} {j : Nat} (hj : j < 11) {B : Blk} {l1 : Int32} {r : Int32} (hF : FX0_sellersSince B l1 = some r) : MetI l V yX0_sellersSince cX0_sellersSince 4 .int ({ frames := 1, cells := 0, slots := 0, locals := 40 } : Room) [.ref (vA V j 2), .int l1] r (jb M j B) (jb M j B) := metI_of (by decide) (Nat.le_of_ble_eq_true rfl) (fun E H0 _ Cx hret H locs ls hW hl => wX0_sellersSince hj Cx hret hW hl hF)
end
section
theorem dX2_copyFrom_0 : decode cX2_copyFrom 0 = .ok (.aload_n 1, 1) := by decide +kernel
theorem dX2_copyFrom_1 : decode cX2_copyFrom 1 = .ok (.ifnonnull 4, 3) := by decide +kernel
theorem dX2_copyFrom_4 : decode cX2_copyFrom 4 = .ok (.return_, 1) := by decide +kernel
theorem dX2_copyFrom_5 : decode cX2_copyFrom 5 = .ok (.aload_n 0, 1) := by decide +kernel
theorem dX2_copyFrom_6 : decode cX2_copyFrom 6 = .ok (.getfield 12, 3) := by decide +kernel
theorem dX2_copyFrom_9 : decode cX2_copyFrom 9 = .ok (.aload_n 1, 1) := by decide +kernel
theorem dX2_copyFrom_10 : decode cX2_copyFrom 10 = .ok (.getfield 12, 3) := by decide +kernel
theorem dX2_copyFrom_13 : decode cX2_copyFrom 13 = .ok (.invokevirtual 48, 3) := by decide +kernel
theorem dX2_copyFrom_16 : decode cX2_copyFrom 16 = .ok (.aload_n 0, 1) := by decide +kernel
theorem dX2_copyFrom_17 : decode cX2_copyFrom 17 = .ok (.getfield 21, 3) := by decide +kernel
theorem dX2_copyFrom_20 : decode cX2_copyFrom 20 = .ok (.aload_n 1, 1) := by decide +kernel
theorem dX2_copyFrom_21 : decode cX2_copyFrom 21 = .ok (.getfield 21, 3) := by decide +kernel
theorem dX2_copyFrom_24 : decode cX2_copyFrom 24 = .ok (.invokevirtual 52, 3) := by decide +kernel
theorem dX2_copyFrom_27 : decode cX2_copyFrom 27 = .ok (.aload_n 0, 1) := by decide +kernel
theorem dX2_copyFrom_28 : decode cX2_copyFrom 28 = .ok (.aload_n 1, 1) := by decide +kernel
theorem dX2_copyFrom_29 : decode cX2_copyFrom 29 = .ok (.getfield 25, 3) := by decide +kernel
theorem dX2_copyFrom_32 : decode cX2_copyFrom 32 = .ok (.putfield 25, 3) := by decide +kernel
theorem dX2_copyFrom_35 : decode cX2_copyFrom 35 = .ok (.aload_n 0, 1) := by decide +kernel
theorem dX2_copyFrom_36 : decode cX2_copyFrom 36 = .ok (.aload_n 1, 1) := by decide +kernel
theorem dX2_copyFrom_37 : decode cX2_copyFrom 37 = .ok (.getfield 29, 3) := by decide +kernel
theorem dX2_copyFrom_40 : decode cX2_copyFrom 40 = .ok (.putfield 29, 3) := by decide +kernel
theorem dX2_copyFrom_43 : decode cX2_copyFrom 43 = .ok (.aload_n 1, 1) := by decide +kernel
theorem dX2_copyFrom_44 : decode cX2_copyFrom 44 = .ok (.getfield 32, 3) := by decide +kernel
theorem dX2_copyFrom_47 : decode cX2_copyFrom 47 = .ok (.iconst 0, 1) := by decide +kernel
theorem dX2_copyFrom_48 : decode cX2_copyFrom 48 = .ok (.aload_n 0, 1) := by decide +kernel
theorem dX2_copyFrom_49 : decode cX2_copyFrom 49 = .ok (.getfield 32, 3) := by decide +kernel
theorem dX2_copyFrom_52 : decode cX2_copyFrom 52 = .ok (.iconst 0, 1) := by decide +kernel
theorem dX2_copyFrom_53 : decode cX2_copyFrom 53 = .ok (.bipush 24, 2) := by decide +kernel
theorem dX2_copyFrom_55 : decode cX2_copyFrom 55 = .ok (.invokestatic 55, 3) := by decide +kernel
theorem dX2_copyFrom_58 : decode cX2_copyFrom 58 = .ok (.aload_n 1, 1) := by decide +kernel
theorem dX2_copyFrom_59 : decode cX2_copyFrom 59 = .ok (.getfield 36, 3) := by decide +kernel
theorem dX2_copyFrom_62 : decode cX2_copyFrom 62 = .ok (.iconst 0, 1) := by decide +kernel
theorem dX2_copyFrom_63 : decode cX2_copyFrom 63 = .ok (.aload_n 0, 1) := by decide +kernel
theorem dX2_copyFrom_64 : decode cX2_copyFrom 64 = .ok (.getfield 36, 3) := by decide +kernel
theorem dX2_copyFrom_67 : decode cX2_copyFrom 67 = .ok (.iconst 0, 1) := by decide +kernel
theorem dX2_copyFrom_68 : decode cX2_copyFrom 68 = .ok (.bipush 24, 2) := by decide +kernel
theorem dX2_copyFrom_70 : decode cX2_copyFrom 70 = .ok (.invokestatic 55, 3) := by decide +kernel
theorem dX2_copyFrom_73 : decode cX2_copyFrom 73 = .ok (.aload_n 1, 1) := by decide +kernel
theorem dX2_copyFrom_74 : decode cX2_copyFrom 74 = .ok (.getfield 39, 3) := by decide +kernel
theorem dX2_copyFrom_77 : decode cX2_copyFrom 77 = .ok (.iconst 0, 1) := by decide +kernel
theorem dX2_copyFrom_78 : decode cX2_copyFrom 78 = .ok (.aload_n 0, 1) := by decide +kernel
theorem dX2_copyFrom_79 : decode cX2_copyFrom 79 = .ok (.getfield 39, 3) := by decide +kernel
theorem dX2_copyFrom_82 : decode cX2_copyFrom 82 = .ok (.iconst 0, 1) := by decide +kernel
theorem dX2_copyFrom_83 : decode cX2_copyFrom 83 = .ok (.bipush 24, 2) := by decide +kernel
theorem dX2_copyFrom_85 : decode cX2_copyFrom 85 = .ok (.invokestatic 55, 3) := by decide +kernel
theorem dX2_copyFrom_88 : decode cX2_copyFrom 88 = .ok (.aload_n 1, 1) := by decide +kernel
theorem dX2_copyFrom_89 : decode cX2_copyFrom 89 = .ok (.getfield 42, 3) := by decide +kernel
theorem dX2_copyFrom_92 : decode cX2_copyFrom 92 = .ok (.iconst 0, 1) := by decide +kernel
theorem dX2_copyFrom_93 : decode cX2_copyFrom 93 = .ok (.aload_n 0, 1) := by decide +kernel
theorem dX2_copyFrom_94 : decode cX2_copyFrom 94 = .ok (.getfield 42, 3) := by decide +kernel
theorem dX2_copyFrom_97 : decode cX2_copyFrom 97 = .ok (.iconst 0, 1) := by decide +kernel
theorem dX2_copyFrom_98 : decode cX2_copyFrom 98 = .ok (.bipush 24, 2) := by decide +kernel
theorem dX2_copyFrom_100 : decode cX2_copyFrom 100 = .ok (.invokestatic 55, 3) := by decide +kernel
theorem dX2_copyFrom_103 : decode cX2_copyFrom 103 = .ok (.return_, 1) := by decide +kernel
theorem okX2_copyFrom : CalOK yX2_copyFrom cX2_copyFrom 2 (none) 1 := ⟨wd_68, wd_278, by decide +kernel⟩
theorem ovX2_copyFrom : VirOK yX2_copyFrom := ⟨wd_276, wd_277⟩
def FX2_copyFrom (B : Blk) (Bo : Blk) : Option Blk :=
  c1 (FX4_copyFrom B Bo) fun B3 =>
  c1 (FX0_copyFrom B3 Bo) fun B6 =>
  lt1 (bs B6 0 2 ((Bo 0) 2)) fun B7 =>
  lt1 (bs B7 0 3 ((Bo 0) 3)) fun B9 =>
  lt1 (bc B9 16 (va_cpy (Bo 16) (B9 16) 0 0 24)) fun B11 =>
  lt1 (bc B11 17 (va_cpy (Bo 17) (B11 17) 0 0 24)) fun B13 =>
  lt1 (bc B13 18 (va_cpy (Bo 18) (B13 18) 0 0 24)) fun B15 =>
  lt1 (bc B15 19 (va_cpy (Bo 19) (B15 19) 0 0 24)) fun B17 =>
  some B17
set_option maxRecDepth 100000 in
set_option maxHeartbeats 4000000 in
theorem wX2_copyFrom {E : WE} {V : VT} {A : Nat → Prop} {H0 : Heap} {M : Mem} {j : Nat} (hj : j < 11) {o : Nat} (ho : o < 11) (hoj : o ≠ j) (Cx : CX E RX2 cX2_copyFrom 2 2 81) {B' : Blk} (hret : RetV E V A H0 cX2_copyFrom (jb M j B')) {Bo : Blk} (hBo : Bo = M o) {H : Heap} {locs : List Loc} {ls : Array Slot} {B : Blk} (hW : Wd V A H0 (jb M j B) (eS E) H locs) (hl : lv_has ls 2 [(0, .ref (vA V j 0)), (1, .ref (vA V o 0))]) (hF : FX2_copyFrom B Bo = some B') : Wq E H locs 0 ls [] := by
  unfold FX2_copyFrom at hF
  refine q_aload_n Cx dX2_copyFrom_0 rfl (lv_at hl 1 rfl) ?_
  refine q_ifnonnull (tgt := 5) Cx dX2_copyFrom_1 (by decide) ?_
  refine q_aload_n Cx dX2_copyFrom_5 rfl (lv_at hl 0 rfl) ?_
  refine q_get (v := .ref (vA V j 1)) Cx hW (oM hj) ic2 0 (by decide) rfl wd_166 dX2_copyFrom_6 ?_
  refine q_aload_n Cx dX2_copyFrom_9 rfl (lv_at hl 1 rfl) ?_
  refine q_get (v := .ref (vA V o 1)) Cx hW (oM ho) ic2 0 (by decide) rfl wd_166 dX2_copyFrom_10 ?_
  obtain ⟨B3, e2, hF⟩ := c1_some hF
  refine q_callV (as := [.ref (vA V o 1)]) (rest := []) Cx (kX4_copyFrom hj ho hoj hBo e2) okX4_copyFrom ovX4_copyFrom wd_279 ⟨rfl, rfl, by decide, by decide⟩ hW (oP hj) ic4 rfl hl.1 (Nat.le_of_ble_eq_true rfl) rfl dX2_copyFrom_13 (fun H locs hW => ?_)
  refine q_aload_n Cx dX2_copyFrom_16 rfl (lv_at hl 0 rfl) ?_
  refine q_get (v := .ref (vA V j 2)) Cx hW (oM hj) ic2 1 (by decide) rfl wd_168 dX2_copyFrom_17 ?_
  refine q_aload_n Cx dX2_copyFrom_20 rfl (lv_at hl 1 rfl) ?_
  refine q_get (v := .ref (vA V o 2)) Cx hW (oM ho) ic2 1 (by decide) rfl wd_168 dX2_copyFrom_21 ?_
  obtain ⟨B6, e5, hF⟩ := c1_some hF
  refine q_callV (as := [.ref (vA V o 2)]) (rest := []) Cx (kX0_copyFrom hj ho hoj hBo e5) okX0_copyFrom ovX0_copyFrom wd_286 ⟨rfl, rfl, by decide, by decide⟩ hW (oC hj) ic0 rfl hl.1 (Nat.le_of_ble_eq_true rfl) rfl dX2_copyFrom_24 (fun H locs hW => ?_)
  refine q_aload_n Cx dX2_copyFrom_27 rfl (lv_at hl 0 rfl) ?_
  refine q_aload_n Cx dX2_copyFrom_28 rfl (lv_at hl 1 rfl) ?_
  refine q_get (v := .int ((Bo 0) 2)) Cx hW (oM ho) ic2 2 (by decide) (by rw [jb_ne hoj, ← hBo]; rfl) wd_170 dX2_copyFrom_29 ?_
  obtain ⟨B7, e8, hF⟩ := lt1_some hF
  refine qb_put Cx hW (oM hj) ic2 2 (by decide) (Nat.le_of_ble_eq_true rfl) e8 rfl rfl ⟨nI32 _, rfl⟩ wd_170 dX2_copyFrom_32 (fun H locs hW => ?_)
  refine q_aload_n Cx dX2_copyFrom_35 rfl (lv_at hl 0 rfl) ?_
  refine q_aload_n Cx dX2_copyFrom_36 rfl (lv_at hl 1 rfl) ?_
  refine q_get (v := .int ((Bo 0) 3)) Cx hW (oM ho) ic2 3 (by decide) (by rw [jb_ne hoj, ← hBo]; rfl) wd_171 dX2_copyFrom_37 ?_
  obtain ⟨B9, e10, hF⟩ := lt1_some hF
  refine qb_put Cx hW (oM hj) ic2 3 (by decide) (Nat.le_of_ble_eq_true rfl) e10 rfl rfl ⟨nI32 _, rfl⟩ wd_171 dX2_copyFrom_40 (fun H locs hW => ?_)
  refine q_aload_n Cx dX2_copyFrom_43 rfl (lv_at hl 1 rfl) ?_
  refine q_get (v := .ref (vA V o 16)) Cx hW (oM ho) ic2 4 (by decide) rfl wd_172 dX2_copyFrom_44 ?_
  refine q_iconst (v := (0 : Int32)) Cx dX2_copyFrom_47 (by decide) ?_
  refine q_aload_n Cx dX2_copyFrom_48 rfl (lv_at hl 0 rfl) ?_
  refine q_get (v := .ref (vA V j 16)) Cx hW (oM hj) ic2 4 (by decide) rfl wd_172 dX2_copyFrom_49 ?_
  refine q_iconst (v := (0 : Int32)) Cx dX2_copyFrom_52 (by decide) ?_
  refine q_bipush (v := (24 : Int32)) Cx dX2_copyFrom_53 (by decide) ?_
  obtain ⟨B11, e12, hF⟩ := lt1_some hF
  refine qb_copy (cnt := (24 : Int32)) (B' := B11) Cx hW (ai_16 ho) (ai_16 hj) hoj (by decide) (by decide) (by decide) (by rw [e12, hBo]; rfl) wd_291 wd_285 wd_284 wd_74 hl.1 (by decide) (Nat.le_of_ble_eq_true rfl) dX2_copyFrom_55 (fun H locs hW => ?_)
  refine q_aload_n Cx dX2_copyFrom_58 rfl (lv_at hl 1 rfl) ?_
  refine q_get (v := .ref (vA V o 17)) Cx hW (oM ho) ic2 5 (by decide) rfl wd_174 dX2_copyFrom_59 ?_
  refine q_iconst (v := (0 : Int32)) Cx dX2_copyFrom_62 (by decide) ?_
  refine q_aload_n Cx dX2_copyFrom_63 rfl (lv_at hl 0 rfl) ?_
  refine q_get (v := .ref (vA V j 17)) Cx hW (oM hj) ic2 5 (by decide) rfl wd_174 dX2_copyFrom_64 ?_
  refine q_iconst (v := (0 : Int32)) Cx dX2_copyFrom_67 (by decide) ?_
  refine q_bipush (v := (24 : Int32)) Cx dX2_copyFrom_68 (by decide) ?_
  obtain ⟨B13, e14, hF⟩ := lt1_some hF
  refine qb_copy (cnt := (24 : Int32)) (B' := B13) Cx hW (ai_17 ho) (ai_17 hj) hoj (by decide) (by decide) (by decide) (by rw [e14, hBo]; rfl) wd_291 wd_285 wd_284 wd_74 hl.1 (by decide) (Nat.le_of_ble_eq_true rfl) dX2_copyFrom_70 (fun H locs hW => ?_)
  refine q_aload_n Cx dX2_copyFrom_73 rfl (lv_at hl 1 rfl) ?_
  refine q_get (v := .ref (vA V o 18)) Cx hW (oM ho) ic2 6 (by decide) rfl wd_176 dX2_copyFrom_74 ?_
  refine q_iconst (v := (0 : Int32)) Cx dX2_copyFrom_77 (by decide) ?_
  refine q_aload_n Cx dX2_copyFrom_78 rfl (lv_at hl 0 rfl) ?_
  refine q_get (v := .ref (vA V j 18)) Cx hW (oM hj) ic2 6 (by decide) rfl wd_176 dX2_copyFrom_79 ?_
  refine q_iconst (v := (0 : Int32)) Cx dX2_copyFrom_82 (by decide) ?_
  refine q_bipush (v := (24 : Int32)) Cx dX2_copyFrom_83 (by decide) ?_
  obtain ⟨B15, e16, hF⟩ := lt1_some hF
  refine qb_copy (cnt := (24 : Int32)) (B' := B15) Cx hW (ai_18 ho) (ai_18 hj) hoj (by decide) (by decide) (by decide) (by rw [e16, hBo]; rfl) wd_291 wd_285 wd_284 wd_74 hl.1 (by decide) (Nat.le_of_ble_eq_true rfl) dX2_copyFrom_85 (fun H locs hW => ?_)
  refine q_aload_n Cx dX2_copyFrom_88 rfl (lv_at hl 1 rfl) ?_
  refine q_get (v := .ref (vA V o 19)) Cx hW (oM ho) ic2 7 (by decide) rfl wd_177 dX2_copyFrom_89 ?_
  refine q_iconst (v := (0 : Int32)) Cx dX2_copyFrom_92 (by decide) ?_
  refine q_aload_n Cx dX2_copyFrom_93 rfl (lv_at hl 0 rfl) ?_
  refine q_get (v := .ref (vA V j 19)) Cx hW (oM hj) ic2 7 (by decide) rfl wd_177 dX2_copyFrom_94 ?_
  refine q_iconst (v := (0 : Int32)) Cx dX2_copyFrom_97 (by decide) ?_
  refine q_bipush (v := (24 : Int32)) Cx dX2_copyFrom_98 (by decide) ?_
  obtain ⟨B17, e18, hF⟩ := lt1_some hF
  refine qb_copy (cnt := (24 : Int32)) (B' := B17) Cx hW (ai_19 ho) (ai_19 hj) hoj (by decide) (by decide) (by decide) (by rw [e18, hBo]; rfl) wd_291 wd_285 wd_284 wd_74 hl.1 (by decide) (Nat.le_of_ble_eq_true rfl) dX2_copyFrom_100 (fun H locs hW => ?_)
  cases hF
  exact hret _ _ _ _ dX2_copyFrom_103 hW
set_option maxRecDepth 100000 in
theorem kX2_copyFrom {l : Launch} {V : VT} {M : Mem} {j : Nat} (hj : j < 11) {o : Nat} (ho : o < 11) (hoj : o ≠ j) {Bo : Blk} (hBo : Bo = M o) {B : Blk} {B' : Blk} (hF : FX2_copyFrom B Bo = some B') : MetV l V yX2_copyFrom cX2_copyFrom 2 ({ frames := 2, cells := 0, slots := 0, locals := 81 } : Room) [.ref (vA V j 0), .ref (vA V o 0)] (jb M j B) (jb M j B') := metV_of (by decide) (Nat.le_of_ble_eq_true rfl) (fun E H0 _ Cx hret H locs ls hW hl => wX2_copyFrom hj ho hoj Cx hret hBo hW hl hF)
theorem dX2_changeSetting_0 : decode cX2_changeSetting 0 = .ok (.iload_n 1, 1) := by decide +kernel
theorem dX2_changeSetting_1 : decode cX2_changeSetting 1 = .ok (.ifCond .ne 26, 3) := by decide +kernel
theorem dX2_changeSetting_4 : decode cX2_changeSetting 4 = .ok (.iload_n 2, 1) := by decide +kernel
theorem dX2_changeSetting_5 : decode cX2_changeSetting 5 = .ok (.ifCond .lt 22, 3) := by decide +kernel
theorem dX2_changeSetting_8 : decode cX2_changeSetting 8 = .ok (.iload_n 2, 1) := by decide +kernel
theorem dX2_changeSetting_9 : decode cX2_changeSetting 9 = .ok (.bipush 100, 2) := by decide +kernel
theorem dX2_changeSetting_11 : decode cX2_changeSetting 11 = .ok (.if_icmp .gt 16, 3) := by decide +kernel
theorem dX2_changeSetting_14 : decode cX2_changeSetting 14 = .ok (.aload_n 0, 1) := by decide +kernel
theorem dX2_changeSetting_15 : decode cX2_changeSetting 15 = .ok (.getfield 25, 3) := by decide +kernel
theorem dX2_changeSetting_18 : decode cX2_changeSetting 18 = .ok (.istore_n 3, 1) := by decide +kernel
theorem dX2_changeSetting_19 : decode cX2_changeSetting 19 = .ok (.aload_n 0, 1) := by decide +kernel
theorem dX2_changeSetting_20 : decode cX2_changeSetting 20 = .ok (.iload_n 2, 1) := by decide +kernel
theorem dX2_changeSetting_21 : decode cX2_changeSetting 21 = .ok (.putfield 25, 3) := by decide +kernel
theorem dX2_changeSetting_24 : decode cX2_changeSetting 24 = .ok (.goto 35, 3) := by decide +kernel
theorem dX2_changeSetting_27 : decode cX2_changeSetting 27 = .ok (.iload_n 1, 1) := by decide +kernel
theorem dX2_changeSetting_28 : decode cX2_changeSetting 28 = .ok (.iconst 1, 1) := by decide +kernel
theorem dX2_changeSetting_29 : decode cX2_changeSetting 29 = .ok (.if_icmp .ne 27, 3) := by decide +kernel
theorem dX2_changeSetting_32 : decode cX2_changeSetting 32 = .ok (.iload_n 2, 1) := by decide +kernel
theorem dX2_changeSetting_33 : decode cX2_changeSetting 33 = .ok (.iconst 1, 1) := by decide +kernel
theorem dX2_changeSetting_34 : decode cX2_changeSetting 34 = .ok (.if_icmp .lt 22, 3) := by decide +kernel
theorem dX2_changeSetting_37 : decode cX2_changeSetting 37 = .ok (.iload_n 2, 1) := by decide +kernel
theorem dX2_changeSetting_38 : decode cX2_changeSetting 38 = .ok (.bipush 9, 2) := by decide +kernel
theorem dX2_changeSetting_40 : decode cX2_changeSetting 40 = .ok (.if_icmp .gt 16, 3) := by decide +kernel
theorem dX2_changeSetting_43 : decode cX2_changeSetting 43 = .ok (.aload_n 0, 1) := by decide +kernel
theorem dX2_changeSetting_44 : decode cX2_changeSetting 44 = .ok (.getfield 29, 3) := by decide +kernel
theorem dX2_changeSetting_47 : decode cX2_changeSetting 47 = .ok (.istore_n 3, 1) := by decide +kernel
theorem dX2_changeSetting_48 : decode cX2_changeSetting 48 = .ok (.aload_n 0, 1) := by decide +kernel
theorem dX2_changeSetting_49 : decode cX2_changeSetting 49 = .ok (.iload_n 2, 1) := by decide +kernel
theorem dX2_changeSetting_50 : decode cX2_changeSetting 50 = .ok (.putfield 29, 3) := by decide +kernel
theorem dX2_changeSetting_53 : decode cX2_changeSetting 53 = .ok (.goto 6, 3) := by decide +kernel
theorem dX2_changeSetting_56 : decode cX2_changeSetting 56 = .ok (.bipush (-2), 2) := by decide +kernel
theorem dX2_changeSetting_58 : decode cX2_changeSetting 58 = .ok (.istore_n 3, 1) := by decide +kernel
theorem dX2_changeSetting_59 : decode cX2_changeSetting 59 = .ok (.iload_n 3, 1) := by decide +kernel
theorem dX2_changeSetting_60 : decode cX2_changeSetting 60 = .ok (.ireturn, 1) := by decide +kernel
theorem okX2_changeSetting : CalOK yX2_changeSetting cX2_changeSetting 4 (some .int) 2 := ⟨wd_68, wd_295, by decide +kernel⟩
theorem ovX2_changeSetting : VirOK yX2_changeSetting := ⟨wd_293, wd_294⟩
def FX2_changeSetting_27 (l1 : Int32) (l2 : Int32) (B : Blk) : Option (Int32 × Blk) :=
  if l1 = (1 : Int32) then
    if l2 < (1 : Int32) then
      some ((-2 : Int32), B)
    else
      if (9 : Int32) < l2 then
        some ((-2 : Int32), B)
      else
        lt1 ((B 0) 3) fun x5 =>
        lt1 (bs B 0 3 l2) fun B7 =>
        some (x5, B7)
  else
    some ((-2 : Int32), B)
set_option maxRecDepth 100000 in
set_option maxHeartbeats 4000000 in
theorem wX2_changeSetting_27 {E : WE} {V : VT} {A : Nat → Prop} {H0 : Heap} {M : Mem} {j : Nat} (hj : j < 11) (Cx : CX E RX2 cX2_changeSetting 4 0 0) {r : Int32} {B' : Blk} (hret : RetI E V A H0 cX2_changeSetting .int r (jb M j B')) {H : Heap} {locs : List Loc} {ls : Array Slot} {l1 : Int32} {l2 : Int32} {B : Blk} (hW : Wd V A H0 (jb M j B) (eS E) H locs) (hl : lv_has ls 4 [(0, .ref (vA V j 0)), (1, .int l1), (2, .int l2)]) (hF : FX2_changeSetting_27 l1 l2 B = some (r, B')) : Wq E H locs 27 ls [] := by
  unfold FX2_changeSetting_27 at hF
  refine q_iload_n Cx dX2_changeSetting_27 rfl (lv_at hl 1 rfl) ?_
  refine q_iconst (v := (1 : Int32)) Cx dX2_changeSetting_28 (by decide) ?_
  refine q_icmp_ne (tgt := 56) Cx dX2_changeSetting_29 (by decide) (fun c2 => ?_) (fun c2 => ?_)
  · have hF := (if_neg c2).symm.trans hF
    refine q_bipush (v := (-2 : Int32)) Cx dX2_changeSetting_56 (by decide) ?_
    refine q_istore_n (lv' := [(3, .int (-2 : Int32)), (0, .ref (vA V j 0)), (1, .int l1), (2, .int l2)]) Cx dX2_changeSetting_58 rfl hl (by decide) rfl (fun ls hl => ?_)
    refine q_iload_n Cx dX2_changeSetting_59 rfl (lv_at hl 0 rfl) ?_
    cases hF
    exact hret _ _ _ _ dX2_changeSetting_60 (nI32 _) hW
  · have hF := (if_pos c2).symm.trans hF
    refine q_iload_n Cx dX2_changeSetting_32 rfl (lv_at hl 2 rfl) ?_
    refine q_iconst (v := (1 : Int32)) Cx dX2_changeSetting_33 (by decide) ?_
    refine q_icmp_lt (tgt := 56) Cx dX2_changeSetting_34 (by decide) (fun c3 => ?_) (fun c3 => ?_)
    · have hF := (if_pos c3).symm.trans hF
      refine q_bipush (v := (-2 : Int32)) Cx dX2_changeSetting_56 (by decide) ?_
      refine q_istore_n (lv' := [(3, .int (-2 : Int32)), (0, .ref (vA V j 0)), (1, .int l1), (2, .int l2)]) Cx dX2_changeSetting_58 rfl hl (by decide) rfl (fun ls hl => ?_)
      refine q_iload_n Cx dX2_changeSetting_59 rfl (lv_at hl 0 rfl) ?_
      cases hF
      exact hret _ _ _ _ dX2_changeSetting_60 (nI32 _) hW
    · have hF := (if_neg c3).symm.trans hF
      refine q_iload_n Cx dX2_changeSetting_37 rfl (lv_at hl 2 rfl) ?_
      refine q_bipush (v := (9 : Int32)) Cx dX2_changeSetting_38 (by decide) ?_
      refine q_icmp_gt (tgt := 56) Cx dX2_changeSetting_40 (by decide) (fun c4 => ?_) (fun c4 => ?_)
      · have hF := (if_pos c4).symm.trans hF
        refine q_bipush (v := (-2 : Int32)) Cx dX2_changeSetting_56 (by decide) ?_
        refine q_istore_n (lv' := [(3, .int (-2 : Int32)), (0, .ref (vA V j 0)), (1, .int l1), (2, .int l2)]) Cx dX2_changeSetting_58 rfl hl (by decide) rfl (fun ls hl => ?_)
        refine q_iload_n Cx dX2_changeSetting_59 rfl (lv_at hl 0 rfl) ?_
        cases hF
        exact hret _ _ _ _ dX2_changeSetting_60 (nI32 _) hW
      · have hF := (if_neg c4).symm.trans hF
        refine q_aload_n Cx dX2_changeSetting_43 rfl (lv_at hl 0 rfl) ?_
        refine qb_get (v := .int ((B 0) 3)) Cx hW (oM hj) ic2 3 (by decide) rfl wd_171 dX2_changeSetting_44 ?_
        obtain ⟨x5, e6, hF⟩ := lt1_some hF
        refine q_topi e6 ?_
        refine q_istore_n (lv' := [(3, .int x5), (0, .ref (vA V j 0)), (1, .int l1), (2, .int l2)]) Cx dX2_changeSetting_47 rfl hl (by decide) rfl (fun ls hl => ?_)
        refine q_aload_n Cx dX2_changeSetting_48 rfl (lv_at hl 1 rfl) ?_
        refine q_iload_n Cx dX2_changeSetting_49 rfl (lv_at hl 3 rfl) ?_
        obtain ⟨B7, e8, hF⟩ := lt1_some hF
        refine qb_put Cx hW (oM hj) ic2 3 (by decide) (Nat.le_of_ble_eq_true rfl) e8 rfl rfl ⟨nI32 _, rfl⟩ wd_171 dX2_changeSetting_50 (fun H locs hW => ?_)
        refine q_goto (tgt := 59) Cx dX2_changeSetting_53 (by decide) ?_
        refine q_iload_n Cx dX2_changeSetting_59 rfl (lv_at hl 0 rfl) ?_
        cases hF
        exact hret _ _ _ _ dX2_changeSetting_60 (nI32 _) hW
def FX2_changeSetting (B : Blk) (l1 : Int32) (l2 : Int32) : Option (Int32 × Blk) :=
  if l1 = 0 then
    if l2 < 0 then
      FX2_changeSetting_27 l1 l2 B
    else
      if (100 : Int32) < l2 then
        FX2_changeSetting_27 l1 l2 B
      else
        lt1 ((B 0) 2) fun x11 =>
        lt1 (bs B 0 2 l2) fun B13 =>
        some (x11, B13)
  else
    FX2_changeSetting_27 l1 l2 B
set_option maxRecDepth 100000 in
set_option maxHeartbeats 4000000 in
theorem wX2_changeSetting {E : WE} {V : VT} {A : Nat → Prop} {H0 : Heap} {M : Mem} {j : Nat} (hj : j < 11) (Cx : CX E RX2 cX2_changeSetting 4 0 0) {r : Int32} {B' : Blk} (hret : RetI E V A H0 cX2_changeSetting .int r (jb M j B')) {H : Heap} {locs : List Loc} {ls : Array Slot} {l1 : Int32} {l2 : Int32} {B : Blk} (hW : Wd V A H0 (jb M j B) (eS E) H locs) (hl : lv_has ls 4 [(0, .ref (vA V j 0)), (1, .int l1), (2, .int l2)]) (hF : FX2_changeSetting B l1 l2 = some (r, B')) : Wq E H locs 0 ls [] := by
  unfold FX2_changeSetting at hF
  refine q_iload_n Cx dX2_changeSetting_0 rfl (lv_at hl 1 rfl) ?_
  refine q_if_ne (tgt := 27) Cx dX2_changeSetting_1 (by decide) (fun c1 => ?_) (fun c1 => ?_)
  · have hF := (if_neg c1).symm.trans hF
    exact wX2_changeSetting_27 hj Cx hret hW (lv_sub hl [0, 1, 2] rfl) hF
  · have hF := (if_pos c1).symm.trans hF
    refine q_iload_n Cx dX2_changeSetting_4 rfl (lv_at hl 2 rfl) ?_
    refine q_if_lt (tgt := 27) Cx dX2_changeSetting_5 (by decide) (fun c9 => ?_) (fun c9 => ?_)
    · have hF := (if_pos c9).symm.trans hF
      exact wX2_changeSetting_27 hj Cx hret hW (lv_sub hl [0, 1, 2] rfl) hF
    · have hF := (if_neg c9).symm.trans hF
      refine q_iload_n Cx dX2_changeSetting_8 rfl (lv_at hl 2 rfl) ?_
      refine q_bipush (v := (100 : Int32)) Cx dX2_changeSetting_9 (by decide) ?_
      refine q_icmp_gt (tgt := 27) Cx dX2_changeSetting_11 (by decide) (fun c10 => ?_) (fun c10 => ?_)
      · have hF := (if_pos c10).symm.trans hF
        exact wX2_changeSetting_27 hj Cx hret hW (lv_sub hl [0, 1, 2] rfl) hF
      · have hF := (if_neg c10).symm.trans hF
        refine q_aload_n Cx dX2_changeSetting_14 rfl (lv_at hl 0 rfl) ?_
        refine qb_get (v := .int ((B 0) 2)) Cx hW (oM hj) ic2 2 (by decide) rfl wd_170 dX2_changeSetting_15 ?_
        obtain ⟨x11, e12, hF⟩ := lt1_some hF
        refine q_topi e12 ?_
        refine q_istore_n (lv' := [(3, .int x11), (0, .ref (vA V j 0)), (1, .int l1), (2, .int l2)]) Cx dX2_changeSetting_18 rfl hl (by decide) rfl (fun ls hl => ?_)
        refine q_aload_n Cx dX2_changeSetting_19 rfl (lv_at hl 1 rfl) ?_
        refine q_iload_n Cx dX2_changeSetting_20 rfl (lv_at hl 3 rfl) ?_
        obtain ⟨B13, e14, hF⟩ := lt1_some hF
        refine qb_put Cx hW (oM hj) ic2 2 (by decide) (Nat.le_of_ble_eq_true rfl) e14 rfl rfl ⟨nI32 _, rfl⟩ wd_170 dX2_changeSetting_21 (fun H locs hW => ?_)
        refine q_goto (tgt := 59) Cx dX2_changeSetting_24 (by decide) ?_
        refine q_iload_n Cx dX2_changeSetting_59 rfl (lv_at hl 0 rfl) ?_
        cases hF
        exact hret _ _ _ _ dX2_changeSetting_60 (nI32 _) hW
set_option maxRecDepth 100000 in
theorem kX2_changeSetting {l : Launch} {V : VT} {M : Mem} {j : Nat} (hj : j < 11) {B : Blk} {l1 : Int32} {l2 : Int32} {r : Int32} {B' : Blk} (hF : FX2_changeSetting B l1 l2 = some (r, B')) : MetI l V yX2_changeSetting cX2_changeSetting 4 .int ({ frames := 0, cells := 0, slots := 0, locals := 0 } : Room) [.ref (vA V j 0), .int l1, .int l2] r (jb M j B) (jb M j B') := metI_of (by decide) (Nat.le_of_ble_eq_true rfl) (fun E H0 _ Cx hret H locs ls hW hl => wX2_changeSetting hj Cx hret hW hl hF)
theorem dX2_addTask_0 : decode cX2_addTask 0 = .ok (.iload_n 1, 1) := by decide +kernel
theorem dX2_addTask_1 : decode cX2_addTask 1 = .ok (.ifCond .lt 27, 3) := by decide +kernel
theorem dX2_addTask_4 : decode cX2_addTask 4 = .ok (.iload_n 1, 1) := by decide +kernel
theorem dX2_addTask_5 : decode cX2_addTask 5 = .ok (.iconst 4, 1) := by decide +kernel
theorem dX2_addTask_6 : decode cX2_addTask 6 = .ok (.if_icmp .ge 22, 3) := by decide +kernel
theorem dX2_addTask_9 : decode cX2_addTask 9 = .ok (.iload 5, 2) := by decide +kernel
theorem dX2_addTask_11 : decode cX2_addTask 11 = .ok (.bipush (-6), 2) := by decide +kernel
theorem dX2_addTask_13 : decode cX2_addTask 13 = .ok (.if_icmp .eq 17, 3) := by decide +kernel
theorem dX2_addTask_16 : decode cX2_addTask 16 = .ok (.aload_n 0, 1) := by decide +kernel
theorem dX2_addTask_17 : decode cX2_addTask 17 = .ok (.getfield 12, 3) := by decide +kernel
theorem dX2_addTask_20 : decode cX2_addTask 20 = .ok (.iload 5, 2) := by decide +kernel
theorem dX2_addTask_22 : decode cX2_addTask 22 = .ok (.invokevirtual 61, 3) := by decide +kernel
theorem dX2_addTask_25 : decode cX2_addTask 25 = .ok (.ifCond .ne 5, 3) := by decide +kernel
theorem dX2_addTask_28 : decode cX2_addTask 28 = .ok (.iconst (-1), 1) := by decide +kernel
theorem dX2_addTask_29 : decode cX2_addTask 29 = .ok (.ireturn, 1) := by decide +kernel
theorem dX2_addTask_30 : decode cX2_addTask 30 = .ok (.iload_n 2, 1) := by decide +kernel
theorem dX2_addTask_31 : decode cX2_addTask 31 = .ok (.iconst 1, 1) := by decide +kernel
theorem dX2_addTask_32 : decode cX2_addTask 32 = .ok (.if_icmp .lt 32, 3) := by decide +kernel
theorem dX2_addTask_35 : decode cX2_addTask 35 = .ok (.iload_n 2, 1) := by decide +kernel
theorem dX2_addTask_36 : decode cX2_addTask 36 = .ok (.bipush 100, 2) := by decide +kernel
theorem dX2_addTask_38 : decode cX2_addTask 38 = .ok (.if_icmp .gt 26, 3) := by decide +kernel
theorem dX2_addTask_41 : decode cX2_addTask 41 = .ok (.iload_n 3, 1) := by decide +kernel
theorem dX2_addTask_42 : decode cX2_addTask 42 = .ok (.ifCond .lt 22, 3) := by decide +kernel
theorem dX2_addTask_45 : decode cX2_addTask 45 = .ok (.iload_n 3, 1) := by decide +kernel
theorem dX2_addTask_46 : decode cX2_addTask 46 = .ok (.sipush 3000, 3) := by decide +kernel
theorem dX2_addTask_49 : decode cX2_addTask 49 = .ok (.if_icmp .gt 15, 3) := by decide +kernel
theorem dX2_addTask_52 : decode cX2_addTask 52 = .ok (.iload 4, 2) := by decide +kernel
theorem dX2_addTask_54 : decode cX2_addTask 54 = .ok (.ifCond .lt 10, 3) := by decide +kernel
theorem dX2_addTask_57 : decode cX2_addTask 57 = .ok (.iload 4, 2) := by decide +kernel
theorem dX2_addTask_59 : decode cX2_addTask 59 = .ok (.ldc 65, 2) := by decide +kernel
theorem dX2_addTask_61 : decode cX2_addTask 61 = .ok (.if_icmp .le 6, 3) := by decide +kernel
theorem dX2_addTask_64 : decode cX2_addTask 64 = .ok (.bipush (-2), 2) := by decide +kernel
theorem dX2_addTask_66 : decode cX2_addTask 66 = .ok (.ireturn, 1) := by decide +kernel
theorem dX2_addTask_67 : decode cX2_addTask 67 = .ok (.aload_n 0, 1) := by decide +kernel
theorem dX2_addTask_68 : decode cX2_addTask 68 = .ok (.getfield 12, 3) := by decide +kernel
theorem dX2_addTask_71 : decode cX2_addTask 71 = .ok (.getfield 66, 3) := by decide +kernel
theorem dX2_addTask_74 : decode cX2_addTask 74 = .ok (.istore 6, 2) := by decide +kernel
theorem dX2_addTask_76 : decode cX2_addTask 76 = .ok (.iload 6, 2) := by decide +kernel
theorem dX2_addTask_78 : decode cX2_addTask 78 = .ok (.bipush 24, 2) := by decide +kernel
theorem dX2_addTask_80 : decode cX2_addTask 80 = .ok (.if_icmp .lt 6, 3) := by decide +kernel
theorem dX2_addTask_83 : decode cX2_addTask 83 = .ok (.bipush (-4), 2) := by decide +kernel
theorem dX2_addTask_85 : decode cX2_addTask 85 = .ok (.ireturn, 1) := by decide +kernel
theorem dX2_addTask_86 : decode cX2_addTask 86 = .ok (.aload_n 0, 1) := by decide +kernel
theorem dX2_addTask_87 : decode cX2_addTask 87 = .ok (.getfield 32, 3) := by decide +kernel
theorem dX2_addTask_90 : decode cX2_addTask 90 = .ok (.iload 6, 2) := by decide +kernel
theorem dX2_addTask_92 : decode cX2_addTask 92 = .ok (.iload_n 3, 1) := by decide +kernel
theorem dX2_addTask_93 : decode cX2_addTask 93 = .ok (.iastore, 1) := by decide +kernel
theorem dX2_addTask_94 : decode cX2_addTask 94 = .ok (.aload_n 0, 1) := by decide +kernel
theorem dX2_addTask_95 : decode cX2_addTask 95 = .ok (.getfield 36, 3) := by decide +kernel
theorem dX2_addTask_98 : decode cX2_addTask 98 = .ok (.iload 6, 2) := by decide +kernel
theorem dX2_addTask_100 : decode cX2_addTask 100 = .ok (.iload 4, 2) := by decide +kernel
theorem dX2_addTask_102 : decode cX2_addTask 102 = .ok (.iastore, 1) := by decide +kernel
theorem dX2_addTask_103 : decode cX2_addTask 103 = .ok (.aload_n 0, 1) := by decide +kernel
theorem dX2_addTask_104 : decode cX2_addTask 104 = .ok (.getfield 39, 3) := by decide +kernel
theorem dX2_addTask_107 : decode cX2_addTask 107 = .ok (.iload 6, 2) := by decide +kernel
theorem dX2_addTask_109 : decode cX2_addTask 109 = .ok (.iconst 0, 1) := by decide +kernel
theorem dX2_addTask_110 : decode cX2_addTask 110 = .ok (.iastore, 1) := by decide +kernel
theorem dX2_addTask_111 : decode cX2_addTask 111 = .ok (.aload_n 0, 1) := by decide +kernel
theorem dX2_addTask_112 : decode cX2_addTask 112 = .ok (.getfield 42, 3) := by decide +kernel
theorem dX2_addTask_115 : decode cX2_addTask 115 = .ok (.iload 6, 2) := by decide +kernel
theorem dX2_addTask_117 : decode cX2_addTask 117 = .ok (.iconst 0, 1) := by decide +kernel
theorem dX2_addTask_118 : decode cX2_addTask 118 = .ok (.iastore, 1) := by decide +kernel
theorem dX2_addTask_119 : decode cX2_addTask 119 = .ok (.aload_n 0, 1) := by decide +kernel
theorem dX2_addTask_120 : decode cX2_addTask 120 = .ok (.getfield 12, 3) := by decide +kernel
theorem dX2_addTask_123 : decode cX2_addTask 123 = .ok (.iload_n 1, 1) := by decide +kernel
theorem dX2_addTask_124 : decode cX2_addTask 124 = .ok (.iload_n 2, 1) := by decide +kernel
theorem dX2_addTask_125 : decode cX2_addTask 125 = .ok (.iload 5, 2) := by decide +kernel
theorem dX2_addTask_127 : decode cX2_addTask 127 = .ok (.invokevirtual 69, 3) := by decide +kernel
theorem dX2_addTask_130 : decode cX2_addTask 130 = .ok (.aload_n 0, 1) := by decide +kernel
theorem dX2_addTask_131 : decode cX2_addTask 131 = .ok (.getfield 12, 3) := by decide +kernel
theorem dX2_addTask_134 : decode cX2_addTask 134 = .ok (.invokevirtual 73, 3) := by decide +kernel
theorem dX2_addTask_137 : decode cX2_addTask 137 = .ok (.pop, 1) := by decide +kernel
theorem dX2_addTask_138 : decode cX2_addTask 138 = .ok (.iload 6, 2) := by decide +kernel
theorem dX2_addTask_140 : decode cX2_addTask 140 = .ok (.ireturn, 1) := by decide +kernel
theorem okX2_addTask : CalOK yX2_addTask cX2_addTask 7 (some .int) 5 := ⟨wd_68, wd_307, by decide +kernel⟩
theorem ovX2_addTask : VirOK yX2_addTask := ⟨wd_305, wd_306⟩
def FX2_addTask_30 (l1 : Int32) (l2 : Int32) (l3 : Int32) (l4 : Int32) (l5 : Int32) (B : Blk) : Option (Int32 × Blk) :=
  if l2 < (1 : Int32) then
    some ((-2 : Int32), B)
  else
    if (100 : Int32) < l2 then
      some ((-2 : Int32), B)
    else
      if l3 < 0 then
        some ((-2 : Int32), B)
      else
        if (3000 : Int32) < l3 then
          some ((-2 : Int32), B)
        else
          if l4 < 0 then
            some ((-2 : Int32), B)
          else
            if l4 ≤ (100000 : Int32) then
              lt1 ((B 1) 0) fun x10 =>
              if x10 < (24 : Int32) then
                stb B 16 24 x10 l3 fun B13 =>
                stb B13 17 24 x10 l4 fun B16 =>
                stb B16 18 24 x10 (0 : Int32) fun B19 =>
                stb B19 19 24 x10 (0 : Int32) fun B22 =>
                c1 (FX4_append B22 l1 l2 l5) fun B27 =>
                c2 (FX4_schedule B27) fun r28 B30 =>
                some (x10, B30)
              else
                some ((-4 : Int32), B)
            else
              some ((-2 : Int32), B)
set_option maxRecDepth 100000 in
set_option maxHeartbeats 4000000 in
theorem wX2_addTask_30 {E : WE} {V : VT} {A : Nat → Prop} {H0 : Heap} {M : Mem} {j : Nat} (hj : j < 11) (Cx : CX E RX2 cX2_addTask 7 3 88) {r : Int32} {B' : Blk} (hret : RetI E V A H0 cX2_addTask .int r (jb M j B')) {H : Heap} {locs : List Loc} {ls : Array Slot} {l1 : Int32} {l2 : Int32} {l3 : Int32} {l4 : Int32} {l5 : Int32} {B : Blk} (hW : Wd V A H0 (jb M j B) (eS E) H locs) (hl : lv_has ls 7 [(0, .ref (vA V j 0)), (1, .int l1), (2, .int l2), (3, .int l3), (4, .int l4), (5, .int l5)]) (hF : FX2_addTask_30 l1 l2 l3 l4 l5 B = some (r, B')) : Wq E H locs 30 ls [] := by
  unfold FX2_addTask_30 at hF
  refine q_iload_n Cx dX2_addTask_30 rfl (lv_at hl 2 rfl) ?_
  refine q_iconst (v := (1 : Int32)) Cx dX2_addTask_31 (by decide) ?_
  refine q_icmp_lt (tgt := 64) Cx dX2_addTask_32 (by decide) (fun c4 => ?_) (fun c4 => ?_)
  · have hF := (if_pos c4).symm.trans hF
    refine q_bipush (v := (-2 : Int32)) Cx dX2_addTask_64 (by decide) ?_
    cases hF
    exact hret _ _ _ _ dX2_addTask_66 (nI32 _) hW
  · have hF := (if_neg c4).symm.trans hF
    refine q_iload_n Cx dX2_addTask_35 rfl (lv_at hl 2 rfl) ?_
    refine q_bipush (v := (100 : Int32)) Cx dX2_addTask_36 (by decide) ?_
    refine q_icmp_gt (tgt := 64) Cx dX2_addTask_38 (by decide) (fun c5 => ?_) (fun c5 => ?_)
    · have hF := (if_pos c5).symm.trans hF
      refine q_bipush (v := (-2 : Int32)) Cx dX2_addTask_64 (by decide) ?_
      cases hF
      exact hret _ _ _ _ dX2_addTask_66 (nI32 _) hW
    · have hF := (if_neg c5).symm.trans hF
      refine q_iload_n Cx dX2_addTask_41 rfl (lv_at hl 3 rfl) ?_
      refine q_if_lt (tgt := 64) Cx dX2_addTask_42 (by decide) (fun c6 => ?_) (fun c6 => ?_)
      · have hF := (if_pos c6).symm.trans hF
        refine q_bipush (v := (-2 : Int32)) Cx dX2_addTask_64 (by decide) ?_
        cases hF
        exact hret _ _ _ _ dX2_addTask_66 (nI32 _) hW
      · have hF := (if_neg c6).symm.trans hF
        refine q_iload_n Cx dX2_addTask_45 rfl (lv_at hl 3 rfl) ?_
        refine q_sipush (v := (3000 : Int32)) Cx dX2_addTask_46 (by decide) ?_
        refine q_icmp_gt (tgt := 64) Cx dX2_addTask_49 (by decide) (fun c7 => ?_) (fun c7 => ?_)
        · have hF := (if_pos c7).symm.trans hF
          refine q_bipush (v := (-2 : Int32)) Cx dX2_addTask_64 (by decide) ?_
          cases hF
          exact hret _ _ _ _ dX2_addTask_66 (nI32 _) hW
        · have hF := (if_neg c7).symm.trans hF
          refine q_iload Cx dX2_addTask_52 (lv_at hl 4 rfl) ?_
          refine q_if_lt (tgt := 64) Cx dX2_addTask_54 (by decide) (fun c8 => ?_) (fun c8 => ?_)
          · have hF := (if_pos c8).symm.trans hF
            refine q_bipush (v := (-2 : Int32)) Cx dX2_addTask_64 (by decide) ?_
            cases hF
            exact hret _ _ _ _ dX2_addTask_66 (nI32 _) hW
          · have hF := (if_neg c8).symm.trans hF
            refine q_iload Cx dX2_addTask_57 (lv_at hl 4 rfl) ?_
            refine q_ldc (v := (100000 : Int32)) Cx dX2_addTask_59 wd_312 ?_
            refine q_icmp_le (tgt := 67) Cx dX2_addTask_61 (by decide) (fun c9 => ?_) (fun c9 => ?_)
            · have hF := (if_pos c9).symm.trans hF
              refine q_aload_n Cx dX2_addTask_67 rfl (lv_at hl 0 rfl) ?_
              refine q_get (v := .ref (vA V j 1)) Cx hW (oM hj) ic2 0 (by decide) rfl wd_166 dX2_addTask_68 ?_
              refine qb_get (v := .int ((B 1) 0)) Cx hW (oP hj) ic4 0 (by decide) rfl wd_97 dX2_addTask_71 ?_
              obtain ⟨x10, e11, hF⟩ := lt1_some hF
              refine q_topi e11 ?_
              refine q_istore (lv' := [(6, .int x10), (0, .ref (vA V j 0)), (1, .int l1), (2, .int l2), (3, .int l3), (4, .int l4), (5, .int l5)]) Cx dX2_addTask_74 hl (by decide) rfl (fun ls hl => ?_)
              refine q_iload Cx dX2_addTask_76 (lv_at hl 0 rfl) ?_
              refine q_bipush (v := (24 : Int32)) Cx dX2_addTask_78 (by decide) ?_
              refine q_icmp_lt (tgt := 86) Cx dX2_addTask_80 (by decide) (fun c12 => ?_) (fun c12 => ?_)
              · have hF := (if_pos c12).symm.trans hF
                refine q_aload_n Cx dX2_addTask_86 rfl (lv_at hl 1 rfl) ?_
                refine q_get (v := .ref (vA V j 16)) Cx hW (oM hj) ic2 4 (by decide) rfl wd_172 dX2_addTask_87 ?_
                refine q_iload Cx dX2_addTask_90 (lv_at hl 0 rfl) ?_
                refine q_iload_n Cx dX2_addTask_92 rfl (lv_at hl 4 rfl) ?_
                obtain ⟨h14, B13, e15, hF⟩ := stb_some hF
                refine qb_iast Cx hW (ai_16 hj) h14 e15 dX2_addTask_93 (fun H locs hW => ?_)
                refine q_aload_n Cx dX2_addTask_94 rfl (lv_at hl 1 rfl) ?_
                refine q_get (v := .ref (vA V j 17)) Cx hW (oM hj) ic2 5 (by decide) rfl wd_174 dX2_addTask_95 ?_
                refine q_iload Cx dX2_addTask_98 (lv_at hl 0 rfl) ?_
                refine q_iload Cx dX2_addTask_100 (lv_at hl 5 rfl) ?_
                obtain ⟨h17, B16, e18, hF⟩ := stb_some hF
                refine qb_iast Cx hW (ai_17 hj) h17 e18 dX2_addTask_102 (fun H locs hW => ?_)
                refine q_aload_n Cx dX2_addTask_103 rfl (lv_at hl 1 rfl) ?_
                refine q_get (v := .ref (vA V j 18)) Cx hW (oM hj) ic2 6 (by decide) rfl wd_176 dX2_addTask_104 ?_
                refine q_iload Cx dX2_addTask_107 (lv_at hl 0 rfl) ?_
                refine q_iconst (v := (0 : Int32)) Cx dX2_addTask_109 (by decide) ?_
                obtain ⟨h20, B19, e21, hF⟩ := stb_some hF
                refine qb_iast Cx hW (ai_18 hj) h20 e21 dX2_addTask_110 (fun H locs hW => ?_)
                refine q_aload_n Cx dX2_addTask_111 rfl (lv_at hl 1 rfl) ?_
                refine q_get (v := .ref (vA V j 19)) Cx hW (oM hj) ic2 7 (by decide) rfl wd_177 dX2_addTask_112 ?_
                refine q_iload Cx dX2_addTask_115 (lv_at hl 0 rfl) ?_
                refine q_iconst (v := (0 : Int32)) Cx dX2_addTask_117 (by decide) ?_
                obtain ⟨h23, B22, e24, hF⟩ := stb_some hF
                refine qb_iast Cx hW (ai_19 hj) h23 e24 dX2_addTask_118 (fun H locs hW => ?_)
                refine q_aload_n Cx dX2_addTask_119 rfl (lv_at hl 1 rfl) ?_
                refine q_get (v := .ref (vA V j 1)) Cx hW (oM hj) ic2 0 (by decide) rfl wd_166 dX2_addTask_120 ?_
                refine q_iload_n Cx dX2_addTask_123 rfl (lv_at hl 2 rfl) ?_
                refine q_iload_n Cx dX2_addTask_124 rfl (lv_at hl 3 rfl) ?_
                refine q_iload Cx dX2_addTask_125 (lv_at hl 6 rfl) ?_
                obtain ⟨B27, e26, hF⟩ := c1_some hF
                refine q_callV (as := [.int l1, .int l2, .int l5]) (rest := []) Cx (kX4_append hj e26) okX4_append ovX4_append wd_313 ⟨rfl, rfl, by decide, by decide⟩ hW (oP hj) ic4 rfl hl.1 (Nat.le_of_ble_eq_true rfl) rfl dX2_addTask_127 (fun H locs hW => ?_)
                refine q_aload_n Cx dX2_addTask_130 rfl (lv_at hl 1 rfl) ?_
                refine q_get (v := .ref (vA V j 1)) Cx hW (oM hj) ic2 0 (by decide) rfl wd_166 dX2_addTask_131 ?_
                obtain ⟨r28, B30, e29, hF⟩ := c2_some hF
                refine q_callI (as := []) (rest := []) Cx (kX4_schedule hj e29) okX4_schedule ovX4_schedule wd_317 ⟨rfl, rfl, by decide, by decide⟩ hW (oP hj) ic4 rfl hl.1 (Nat.le_of_ble_eq_true rfl) rfl dX2_addTask_134 (fun H locs hW => ?_)
                refine q_pop Cx dX2_addTask_137 rfl ?_
                refine q_iload Cx dX2_addTask_138 (lv_at hl 0 rfl) ?_
                cases hF
                exact hret _ _ _ _ dX2_addTask_140 (nI32 _) hW
              · have hF := (if_neg c12).symm.trans hF
                refine q_bipush (v := (-4 : Int32)) Cx dX2_addTask_83 (by decide) ?_
                cases hF
                exact hret _ _ _ _ dX2_addTask_85 (nI32 _) hW
            · have hF := (if_neg c9).symm.trans hF
              refine q_bipush (v := (-2 : Int32)) Cx dX2_addTask_64 (by decide) ?_
              cases hF
              exact hret _ _ _ _ dX2_addTask_66 (nI32 _) hW
def FX2_addTask (B : Blk) (l1 : Int32) (l2 : Int32) (l3 : Int32) (l4 : Int32) (l5 : Int32) : Option (Int32 × Blk) :=
  if l1 < 0 then
    some ((-1 : Int32), B)
  else
    if (4 : Int32) ≤ l1 then
      some ((-1 : Int32), B)
    else
      if l5 = (-6 : Int32) then
        FX2_addTask_30 l1 l2 l3 l4 l5 B
      else
        c1 (FX4_has B l5) fun r31 =>
        if r31 = 0 then
          some ((-1 : Int32), B)
        else
          FX2_addTask_30 l1 l2 l3 l4 l5 B
set_option maxRecDepth 100000 in
set_option maxHeartbeats 4000000 in
theorem wX2_addTask {E : WE} {V : VT} {A : Nat → Prop} {H0 : Heap} {M : Mem} {j : Nat} (hj : j < 11) (Cx : CX E RX2 cX2_addTask 7 3 88) {r : Int32} {B' : Blk} (hret : RetI E V A H0 cX2_addTask .int r (jb M j B')) {H : Heap} {locs : List Loc} {ls : Array Slot} {l1 : Int32} {l2 : Int32} {l3 : Int32} {l4 : Int32} {l5 : Int32} {B : Blk} (hW : Wd V A H0 (jb M j B) (eS E) H locs) (hl : lv_has ls 7 [(0, .ref (vA V j 0)), (1, .int l1), (2, .int l2), (3, .int l3), (4, .int l4), (5, .int l5)]) (hF : FX2_addTask B l1 l2 l3 l4 l5 = some (r, B')) : Wq E H locs 0 ls [] := by
  unfold FX2_addTask at hF
  refine q_iload_n Cx dX2_addTask_0 rfl (lv_at hl 1 rfl) ?_
  refine q_if_lt (tgt := 28) Cx dX2_addTask_1 (by decide) (fun c1 => ?_) (fun c1 => ?_)
  · have hF := (if_pos c1).symm.trans hF
    refine q_iconst (v := (-1 : Int32)) Cx dX2_addTask_28 (by decide) ?_
    cases hF
    exact hret _ _ _ _ dX2_addTask_29 (nI32 _) hW
  · have hF := (if_neg c1).symm.trans hF
    refine q_iload_n Cx dX2_addTask_4 rfl (lv_at hl 1 rfl) ?_
    refine q_iconst (v := (4 : Int32)) Cx dX2_addTask_5 (by decide) ?_
    refine q_icmp_ge (tgt := 28) Cx dX2_addTask_6 (by decide) (fun c2 => ?_) (fun c2 => ?_)
    · have hF := (if_pos c2).symm.trans hF
      refine q_iconst (v := (-1 : Int32)) Cx dX2_addTask_28 (by decide) ?_
      cases hF
      exact hret _ _ _ _ dX2_addTask_29 (nI32 _) hW
    · have hF := (if_neg c2).symm.trans hF
      refine q_iload Cx dX2_addTask_9 (lv_at hl 5 rfl) ?_
      refine q_bipush (v := (-6 : Int32)) Cx dX2_addTask_11 (by decide) ?_
      refine q_icmp_eq (tgt := 30) Cx dX2_addTask_13 (by decide) (fun c3 => ?_) (fun c3 => ?_)
      · have hF := (if_pos c3).symm.trans hF
        exact wX2_addTask_30 hj Cx hret hW (lv_sub hl [0, 1, 2, 3, 4, 5] rfl) hF
      · have hF := (if_neg c3).symm.trans hF
        refine q_aload_n Cx dX2_addTask_16 rfl (lv_at hl 0 rfl) ?_
        refine q_get (v := .ref (vA V j 1)) Cx hW (oM hj) ic2 0 (by decide) rfl wd_166 dX2_addTask_17 ?_
        refine q_iload Cx dX2_addTask_20 (lv_at hl 5 rfl) ?_
        obtain ⟨r31, e32, hF⟩ := c1_some hF
        refine q_callI (as := [.int l5]) (rest := []) Cx (kX4_has hj e32) okX4_has ovX4_has wd_308 ⟨rfl, rfl, by decide, by decide⟩ hW (oP hj) ic4 rfl hl.1 (Nat.le_of_ble_eq_true rfl) rfl dX2_addTask_22 (fun H locs hW => ?_)
        refine q_if_ne (tgt := 30) Cx dX2_addTask_25 (by decide) (fun c33 => ?_) (fun c33 => ?_)
        · have hF := (if_neg c33).symm.trans hF
          exact wX2_addTask_30 hj Cx hret hW (lv_sub hl [0, 1, 2, 3, 4, 5] rfl) hF
        · have hF := (if_pos c33).symm.trans hF
          refine q_iconst (v := (-1 : Int32)) Cx dX2_addTask_28 (by decide) ?_
          cases hF
          exact hret _ _ _ _ dX2_addTask_29 (nI32 _) hW
set_option maxRecDepth 100000 in
theorem kX2_addTask {l : Launch} {V : VT} {M : Mem} {j : Nat} (hj : j < 11) {B : Blk} {l1 : Int32} {l2 : Int32} {l3 : Int32} {l4 : Int32} {l5 : Int32} {r : Int32} {B' : Blk} (hF : FX2_addTask B l1 l2 l3 l4 l5 = some (r, B')) : MetI l V yX2_addTask cX2_addTask 7 .int ({ frames := 3, cells := 0, slots := 0, locals := 88 } : Room) [.ref (vA V j 0), .int l1, .int l2, .int l3, .int l4, .int l5] r (jb M j B) (jb M j B') := metI_of (by decide) (Nat.le_of_ble_eq_true rfl) (fun E H0 _ Cx hret H locs ls hW hl => wX2_addTask hj Cx hret hW hl hF)
theorem dX2_changeDuration_0 : decode cX2_changeDuration 0 = .ok (.aload_n 0, 1) := by decide +kernel
theorem dX2_changeDuration_1 : decode cX2_changeDuration 1 = .ok (.getfield 12, 3) := by decide +kernel
theorem dX2_changeDuration_4 : decode cX2_changeDuration 4 = .ok (.iload_n 1, 1) := by decide +kernel
theorem dX2_changeDuration_5 : decode cX2_changeDuration 5 = .ok (.invokevirtual 61, 3) := by decide +kernel
theorem dX2_changeDuration_8 : decode cX2_changeDuration 8 = .ok (.ifCond .ne 5, 3) := by decide +kernel
theorem dX2_changeDuration_11 : decode cX2_changeDuration 11 = .ok (.iconst (-1), 1) := by decide +kernel
theorem dX2_changeDuration_12 : decode cX2_changeDuration 12 = .ok (.ireturn, 1) := by decide +kernel
theorem dX2_changeDuration_13 : decode cX2_changeDuration 13 = .ok (.iload_n 2, 1) := by decide +kernel
theorem dX2_changeDuration_14 : decode cX2_changeDuration 14 = .ok (.iconst 1, 1) := by decide +kernel
theorem dX2_changeDuration_15 : decode cX2_changeDuration 15 = .ok (.if_icmp .lt 9, 3) := by decide +kernel
theorem dX2_changeDuration_18 : decode cX2_changeDuration 18 = .ok (.iload_n 2, 1) := by decide +kernel
theorem dX2_changeDuration_19 : decode cX2_changeDuration 19 = .ok (.bipush 100, 2) := by decide +kernel
theorem dX2_changeDuration_21 : decode cX2_changeDuration 21 = .ok (.if_icmp .le 6, 3) := by decide +kernel
theorem dX2_changeDuration_24 : decode cX2_changeDuration 24 = .ok (.bipush (-2), 2) := by decide +kernel
theorem dX2_changeDuration_26 : decode cX2_changeDuration 26 = .ok (.ireturn, 1) := by decide +kernel
theorem dX2_changeDuration_27 : decode cX2_changeDuration 27 = .ok (.aload_n 0, 1) := by decide +kernel
theorem dX2_changeDuration_28 : decode cX2_changeDuration 28 = .ok (.getfield 12, 3) := by decide +kernel
theorem dX2_changeDuration_31 : decode cX2_changeDuration 31 = .ok (.getfield 77, 3) := by decide +kernel
theorem dX2_changeDuration_34 : decode cX2_changeDuration 34 = .ok (.iload_n 1, 1) := by decide +kernel
theorem dX2_changeDuration_35 : decode cX2_changeDuration 35 = .ok (.iaload, 1) := by decide +kernel
theorem dX2_changeDuration_36 : decode cX2_changeDuration 36 = .ok (.istore_n 3, 1) := by decide +kernel
theorem dX2_changeDuration_37 : decode cX2_changeDuration 37 = .ok (.aload_n 0, 1) := by decide +kernel
theorem dX2_changeDuration_38 : decode cX2_changeDuration 38 = .ok (.getfield 12, 3) := by decide +kernel
theorem dX2_changeDuration_41 : decode cX2_changeDuration 41 = .ok (.getfield 77, 3) := by decide +kernel
theorem dX2_changeDuration_44 : decode cX2_changeDuration 44 = .ok (.iload_n 1, 1) := by decide +kernel
theorem dX2_changeDuration_45 : decode cX2_changeDuration 45 = .ok (.iload_n 2, 1) := by decide +kernel
theorem dX2_changeDuration_46 : decode cX2_changeDuration 46 = .ok (.iastore, 1) := by decide +kernel
theorem dX2_changeDuration_47 : decode cX2_changeDuration 47 = .ok (.aload_n 0, 1) := by decide +kernel
theorem dX2_changeDuration_48 : decode cX2_changeDuration 48 = .ok (.getfield 12, 3) := by decide +kernel
theorem dX2_changeDuration_51 : decode cX2_changeDuration 51 = .ok (.invokevirtual 73, 3) := by decide +kernel
theorem dX2_changeDuration_54 : decode cX2_changeDuration 54 = .ok (.pop, 1) := by decide +kernel
theorem dX2_changeDuration_55 : decode cX2_changeDuration 55 = .ok (.iload_n 3, 1) := by decide +kernel
theorem dX2_changeDuration_56 : decode cX2_changeDuration 56 = .ok (.ireturn, 1) := by decide +kernel
theorem okX2_changeDuration : CalOK yX2_changeDuration cX2_changeDuration 4 (some .int) 2 := ⟨wd_68, wd_344, by decide +kernel⟩
theorem ovX2_changeDuration : VirOK yX2_changeDuration := ⟨wd_342, wd_343⟩
def FX2_changeDuration (B : Blk) (l1 : Int32) (l2 : Int32) : Option (Int32 × Blk) :=
  c1 (FX4_has B l1) fun r1 =>
  if r1 = 0 then
    some ((-1 : Int32), B)
  else
    if l2 < (1 : Int32) then
      some ((-2 : Int32), B)
    else
      if l2 ≤ (100 : Int32) then
        ld (B 4) 24 l1 fun v6 =>
        stb B 4 24 l1 l2 fun B9 =>
        c2 (FX4_schedule B9) fun r12 B14 =>
        some (v6, B14)
      else
        some ((-2 : Int32), B)
set_option maxRecDepth 100000 in
set_option maxHeartbeats 4000000 in
theorem wX2_changeDuration {E : WE} {V : VT} {A : Nat → Prop} {H0 : Heap} {M : Mem} {j : Nat} (hj : j < 11) (Cx : CX E RX2 cX2_changeDuration 4 3 88) {r : Int32} {B' : Blk} (hret : RetI E V A H0 cX2_changeDuration .int r (jb M j B')) {H : Heap} {locs : List Loc} {ls : Array Slot} {l1 : Int32} {l2 : Int32} {B : Blk} (hW : Wd V A H0 (jb M j B) (eS E) H locs) (hl : lv_has ls 4 [(0, .ref (vA V j 0)), (1, .int l1), (2, .int l2)]) (hF : FX2_changeDuration B l1 l2 = some (r, B')) : Wq E H locs 0 ls [] := by
  unfold FX2_changeDuration at hF
  refine q_aload_n Cx dX2_changeDuration_0 rfl (lv_at hl 0 rfl) ?_
  refine q_get (v := .ref (vA V j 1)) Cx hW (oM hj) ic2 0 (by decide) rfl wd_166 dX2_changeDuration_1 ?_
  refine q_iload_n Cx dX2_changeDuration_4 rfl (lv_at hl 1 rfl) ?_
  obtain ⟨r1, e2, hF⟩ := c1_some hF
  refine q_callI (as := [.int l1]) (rest := []) Cx (kX4_has hj e2) okX4_has ovX4_has wd_308 ⟨rfl, rfl, by decide, by decide⟩ hW (oP hj) ic4 rfl hl.1 (Nat.le_of_ble_eq_true rfl) rfl dX2_changeDuration_5 (fun H locs hW => ?_)
  refine q_if_ne (tgt := 13) Cx dX2_changeDuration_8 (by decide) (fun c3 => ?_) (fun c3 => ?_)
  · have hF := (if_neg c3).symm.trans hF
    refine q_iload_n Cx dX2_changeDuration_13 rfl (lv_at hl 2 rfl) ?_
    refine q_iconst (v := (1 : Int32)) Cx dX2_changeDuration_14 (by decide) ?_
    refine q_icmp_lt (tgt := 24) Cx dX2_changeDuration_15 (by decide) (fun c4 => ?_) (fun c4 => ?_)
    · have hF := (if_pos c4).symm.trans hF
      refine q_bipush (v := (-2 : Int32)) Cx dX2_changeDuration_24 (by decide) ?_
      cases hF
      exact hret _ _ _ _ dX2_changeDuration_26 (nI32 _) hW
    · have hF := (if_neg c4).symm.trans hF
      refine q_iload_n Cx dX2_changeDuration_18 rfl (lv_at hl 2 rfl) ?_
      refine q_bipush (v := (100 : Int32)) Cx dX2_changeDuration_19 (by decide) ?_
      refine q_icmp_le (tgt := 27) Cx dX2_changeDuration_21 (by decide) (fun c5 => ?_) (fun c5 => ?_)
      · have hF := (if_pos c5).symm.trans hF
        refine q_aload_n Cx dX2_changeDuration_27 rfl (lv_at hl 0 rfl) ?_
        refine q_get (v := .ref (vA V j 1)) Cx hW (oM hj) ic2 0 (by decide) rfl wd_166 dX2_changeDuration_28 ?_
        refine q_get (v := .ref (vA V j 4)) Cx hW (oP hj) ic4 2 (by decide) rfl wd_102 dX2_changeDuration_31 ?_
        refine q_iload_n Cx dX2_changeDuration_34 rfl (lv_at hl 1 rfl) ?_
        obtain ⟨h7, v6, e8, hF⟩ := ld_some hF
        refine qb_iald Cx hW (ai_4 hj) h7 e8 dX2_changeDuration_35 ?_
        refine q_istore_n (lv' := [(3, .int v6), (0, .ref (vA V j 0)), (1, .int l1), (2, .int l2)]) Cx dX2_changeDuration_36 rfl hl (by decide) rfl (fun ls hl => ?_)
        refine q_aload_n Cx dX2_changeDuration_37 rfl (lv_at hl 1 rfl) ?_
        refine q_get (v := .ref (vA V j 1)) Cx hW (oM hj) ic2 0 (by decide) rfl wd_166 dX2_changeDuration_38 ?_
        refine q_get (v := .ref (vA V j 4)) Cx hW (oP hj) ic4 2 (by decide) rfl wd_102 dX2_changeDuration_41 ?_
        refine q_iload_n Cx dX2_changeDuration_44 rfl (lv_at hl 2 rfl) ?_
        refine q_iload_n Cx dX2_changeDuration_45 rfl (lv_at hl 3 rfl) ?_
        obtain ⟨h10, B9, e11, hF⟩ := stb_some hF
        refine qb_iast Cx hW (ai_4 hj) h10 e11 dX2_changeDuration_46 (fun H locs hW => ?_)
        refine q_aload_n Cx dX2_changeDuration_47 rfl (lv_at hl 1 rfl) ?_
        refine q_get (v := .ref (vA V j 1)) Cx hW (oM hj) ic2 0 (by decide) rfl wd_166 dX2_changeDuration_48 ?_
        obtain ⟨r12, B14, e13, hF⟩ := c2_some hF
        refine q_callI (as := []) (rest := []) Cx (kX4_schedule hj e13) okX4_schedule ovX4_schedule wd_317 ⟨rfl, rfl, by decide, by decide⟩ hW (oP hj) ic4 rfl hl.1 (Nat.le_of_ble_eq_true rfl) rfl dX2_changeDuration_51 (fun H locs hW => ?_)
        refine q_pop Cx dX2_changeDuration_54 rfl ?_
        refine q_iload_n Cx dX2_changeDuration_55 rfl (lv_at hl 0 rfl) ?_
        cases hF
        exact hret _ _ _ _ dX2_changeDuration_56 (nI32 _) hW
      · have hF := (if_neg c5).symm.trans hF
        refine q_bipush (v := (-2 : Int32)) Cx dX2_changeDuration_24 (by decide) ?_
        cases hF
        exact hret _ _ _ _ dX2_changeDuration_26 (nI32 _) hW
  · have hF := (if_pos c3).symm.trans hF
    refine q_iconst (v := (-1 : Int32)) Cx dX2_changeDuration_11 (by decide) ?_
    cases hF
    exact hret _ _ _ _ dX2_changeDuration_12 (nI32 _) hW
set_option maxRecDepth 100000 in
theorem kX2_changeDuration {l : Launch} {V : VT} {M : Mem} {j : Nat} (hj : j < 11) {B : Blk} {l1 : Int32} {l2 : Int32} {r : Int32} {B' : Blk} (hF : FX2_changeDuration B l1 l2 = some (r, B')) : MetI l V yX2_changeDuration cX2_changeDuration 4 .int ({ frames := 3, cells := 0, slots := 0, locals := 88 } : Room) [.ref (vA V j 0), .int l1, .int l2] r (jb M j B) (jb M j B') := metI_of (by decide) (Nat.le_of_ble_eq_true rfl) (fun E H0 _ Cx hret H locs ls hW hl => wX2_changeDuration hj Cx hret hW hl hF)
theorem dX2_moveTask_0 : decode cX2_moveTask 0 = .ok (.aload_n 0, 1) := by decide +kernel
theorem dX2_moveTask_1 : decode cX2_moveTask 1 = .ok (.getfield 12, 3) := by decide +kernel
theorem dX2_moveTask_4 : decode cX2_moveTask 4 = .ok (.iload_n 1, 1) := by decide +kernel
theorem dX2_moveTask_5 : decode cX2_moveTask 5 = .ok (.invokevirtual 61, 3) := by decide +kernel
theorem dX2_moveTask_8 : decode cX2_moveTask 8 = .ok (.ifCond .eq 28, 3) := by decide +kernel
theorem dX2_moveTask_11 : decode cX2_moveTask 11 = .ok (.iload_n 2, 1) := by decide +kernel
theorem dX2_moveTask_12 : decode cX2_moveTask 12 = .ok (.ifCond .lt 24, 3) := by decide +kernel
theorem dX2_moveTask_15 : decode cX2_moveTask 15 = .ok (.iload_n 2, 1) := by decide +kernel
theorem dX2_moveTask_16 : decode cX2_moveTask 16 = .ok (.aload_n 0, 1) := by decide +kernel
theorem dX2_moveTask_17 : decode cX2_moveTask 17 = .ok (.getfield 12, 3) := by decide +kernel
theorem dX2_moveTask_20 : decode cX2_moveTask 20 = .ok (.getfield 80, 3) := by decide +kernel
theorem dX2_moveTask_23 : decode cX2_moveTask 23 = .ok (.aload_n 0, 1) := by decide +kernel
theorem dX2_moveTask_24 : decode cX2_moveTask 24 = .ok (.getfield 12, 3) := by decide +kernel
theorem dX2_moveTask_27 : decode cX2_moveTask 27 = .ok (.getfield 83, 3) := by decide +kernel
theorem dX2_moveTask_30 : decode cX2_moveTask 30 = .ok (.iload_n 1, 1) := by decide +kernel
theorem dX2_moveTask_31 : decode cX2_moveTask 31 = .ok (.iaload, 1) := by decide +kernel
theorem dX2_moveTask_32 : decode cX2_moveTask 32 = .ok (.iaload, 1) := by decide +kernel
theorem dX2_moveTask_33 : decode cX2_moveTask 33 = .ok (.if_icmp .lt 5, 3) := by decide +kernel
theorem dX2_moveTask_36 : decode cX2_moveTask 36 = .ok (.iconst (-1), 1) := by decide +kernel
theorem dX2_moveTask_37 : decode cX2_moveTask 37 = .ok (.ireturn, 1) := by decide +kernel
theorem dX2_moveTask_38 : decode cX2_moveTask 38 = .ok (.aload_n 0, 1) := by decide +kernel
theorem dX2_moveTask_39 : decode cX2_moveTask 39 = .ok (.getfield 12, 3) := by decide +kernel
theorem dX2_moveTask_42 : decode cX2_moveTask 42 = .ok (.iload_n 1, 1) := by decide +kernel
theorem dX2_moveTask_43 : decode cX2_moveTask 43 = .ok (.invokevirtual 86, 3) := by decide +kernel
theorem dX2_moveTask_46 : decode cX2_moveTask 46 = .ok (.istore_n 3, 1) := by decide +kernel
theorem dX2_moveTask_47 : decode cX2_moveTask 47 = .ok (.aload_n 0, 1) := by decide +kernel
theorem dX2_moveTask_48 : decode cX2_moveTask 48 = .ok (.getfield 12, 3) := by decide +kernel
theorem dX2_moveTask_51 : decode cX2_moveTask 51 = .ok (.iload_n 1, 1) := by decide +kernel
theorem dX2_moveTask_52 : decode cX2_moveTask 52 = .ok (.iload_n 2, 1) := by decide +kernel
theorem dX2_moveTask_53 : decode cX2_moveTask 53 = .ok (.invokevirtual 90, 3) := by decide +kernel
theorem dX2_moveTask_56 : decode cX2_moveTask 56 = .ok (.aload_n 0, 1) := by decide +kernel
theorem dX2_moveTask_57 : decode cX2_moveTask 57 = .ok (.getfield 12, 3) := by decide +kernel
theorem dX2_moveTask_60 : decode cX2_moveTask 60 = .ok (.invokevirtual 73, 3) := by decide +kernel
theorem dX2_moveTask_63 : decode cX2_moveTask 63 = .ok (.ifCond .ne 23, 3) := by decide +kernel
theorem dX2_moveTask_66 : decode cX2_moveTask 66 = .ok (.aload_n 0, 1) := by decide +kernel
theorem dX2_moveTask_67 : decode cX2_moveTask 67 = .ok (.getfield 12, 3) := by decide +kernel
theorem dX2_moveTask_70 : decode cX2_moveTask 70 = .ok (.iload_n 1, 1) := by decide +kernel
theorem dX2_moveTask_71 : decode cX2_moveTask 71 = .ok (.iload_n 3, 1) := by decide +kernel
theorem dX2_moveTask_72 : decode cX2_moveTask 72 = .ok (.invokevirtual 90, 3) := by decide +kernel
theorem dX2_moveTask_75 : decode cX2_moveTask 75 = .ok (.aload_n 0, 1) := by decide +kernel
theorem dX2_moveTask_76 : decode cX2_moveTask 76 = .ok (.getfield 12, 3) := by decide +kernel
theorem dX2_moveTask_79 : decode cX2_moveTask 79 = .ok (.invokevirtual 73, 3) := by decide +kernel
theorem dX2_moveTask_82 : decode cX2_moveTask 82 = .ok (.pop, 1) := by decide +kernel
theorem dX2_moveTask_83 : decode cX2_moveTask 83 = .ok (.bipush (-5), 2) := by decide +kernel
theorem dX2_moveTask_85 : decode cX2_moveTask 85 = .ok (.ireturn, 1) := by decide +kernel
theorem dX2_moveTask_86 : decode cX2_moveTask 86 = .ok (.iload_n 3, 1) := by decide +kernel
theorem dX2_moveTask_87 : decode cX2_moveTask 87 = .ok (.ireturn, 1) := by decide +kernel
theorem okX2_moveTask : CalOK yX2_moveTask cX2_moveTask 4 (some .int) 2 := ⟨wd_68, wd_352, by decide +kernel⟩
theorem ovX2_moveTask : VirOK yX2_moveTask := ⟨wd_350, wd_351⟩
def FX2_moveTask (B : Blk) (l1 : Int32) (l2 : Int32) : Option (Int32 × Blk) :=
  c1 (FX4_has B l1) fun r1 =>
  if r1 = 0 then
    some ((-1 : Int32), B)
  else
    if l2 < 0 then
      some ((-1 : Int32), B)
    else
      ld (B 3) 24 l1 fun v5 =>
      ld (B 9) 4 v5 fun v8 =>
      if l2 < v8 then
        c1 (FX4_placeOf B l1) fun r12 =>
        c1 (FX4_shift B l1 l2) fun B16 =>
        c2 (FX4_schedule B16) fun r17 B19 =>
        if r17 = 0 then
          c1 (FX4_shift B19 l1 r12) fun B23 =>
          c2 (FX4_schedule B23) fun r24 B26 =>
          some ((-5 : Int32), B26)
        else
          some (r12, B19)
      else
        some ((-1 : Int32), B)
set_option maxRecDepth 100000 in
set_option maxHeartbeats 4000000 in
theorem wX2_moveTask {E : WE} {V : VT} {A : Nat → Prop} {H0 : Heap} {M : Mem} {j : Nat} (hj : j < 11) (Cx : CX E RX2 cX2_moveTask 4 3 88) {r : Int32} {B' : Blk} (hret : RetI E V A H0 cX2_moveTask .int r (jb M j B')) {H : Heap} {locs : List Loc} {ls : Array Slot} {l1 : Int32} {l2 : Int32} {B : Blk} (hW : Wd V A H0 (jb M j B) (eS E) H locs) (hl : lv_has ls 4 [(0, .ref (vA V j 0)), (1, .int l1), (2, .int l2)]) (hF : FX2_moveTask B l1 l2 = some (r, B')) : Wq E H locs 0 ls [] := by
  unfold FX2_moveTask at hF
  refine q_aload_n Cx dX2_moveTask_0 rfl (lv_at hl 0 rfl) ?_
  refine q_get (v := .ref (vA V j 1)) Cx hW (oM hj) ic2 0 (by decide) rfl wd_166 dX2_moveTask_1 ?_
  refine q_iload_n Cx dX2_moveTask_4 rfl (lv_at hl 1 rfl) ?_
  obtain ⟨r1, e2, hF⟩ := c1_some hF
  refine q_callI (as := [.int l1]) (rest := []) Cx (kX4_has hj e2) okX4_has ovX4_has wd_308 ⟨rfl, rfl, by decide, by decide⟩ hW (oP hj) ic4 rfl hl.1 (Nat.le_of_ble_eq_true rfl) rfl dX2_moveTask_5 (fun H locs hW => ?_)
  refine q_if_eq (tgt := 36) Cx dX2_moveTask_8 (by decide) (fun c3 => ?_) (fun c3 => ?_)
  · have hF := (if_pos c3).symm.trans hF
    refine q_iconst (v := (-1 : Int32)) Cx dX2_moveTask_36 (by decide) ?_
    cases hF
    exact hret _ _ _ _ dX2_moveTask_37 (nI32 _) hW
  · have hF := (if_neg c3).symm.trans hF
    refine q_iload_n Cx dX2_moveTask_11 rfl (lv_at hl 2 rfl) ?_
    refine q_if_lt (tgt := 36) Cx dX2_moveTask_12 (by decide) (fun c4 => ?_) (fun c4 => ?_)
    · have hF := (if_pos c4).symm.trans hF
      refine q_iconst (v := (-1 : Int32)) Cx dX2_moveTask_36 (by decide) ?_
      cases hF
      exact hret _ _ _ _ dX2_moveTask_37 (nI32 _) hW
    · have hF := (if_neg c4).symm.trans hF
      refine q_iload_n Cx dX2_moveTask_15 rfl (lv_at hl 2 rfl) ?_
      refine q_aload_n Cx dX2_moveTask_16 rfl (lv_at hl 0 rfl) ?_
      refine q_get (v := .ref (vA V j 1)) Cx hW (oM hj) ic2 0 (by decide) rfl wd_166 dX2_moveTask_17 ?_
      refine q_get (v := .ref (vA V j 9)) Cx hW (oP hj) ic4 7 (by decide) rfl wd_111 dX2_moveTask_20 ?_
      refine q_aload_n Cx dX2_moveTask_23 rfl (lv_at hl 0 rfl) ?_
      refine q_get (v := .ref (vA V j 1)) Cx hW (oM hj) ic2 0 (by decide) rfl wd_166 dX2_moveTask_24 ?_
      refine q_get (v := .ref (vA V j 3)) Cx hW (oP hj) ic4 1 (by decide) rfl wd_100 dX2_moveTask_27 ?_
      refine q_iload_n Cx dX2_moveTask_30 rfl (lv_at hl 1 rfl) ?_
      obtain ⟨h6, v5, e7, hF⟩ := ld_some hF
      refine qb_iald Cx hW (ai_3 hj) h6 e7 dX2_moveTask_31 ?_
      obtain ⟨h9, v8, e10, hF⟩ := ld_some hF
      refine qb_iald Cx hW (ai_9 hj) h9 e10 dX2_moveTask_32 ?_
      refine q_icmp_lt (tgt := 38) Cx dX2_moveTask_33 (by decide) (fun c11 => ?_) (fun c11 => ?_)
      · have hF := (if_pos c11).symm.trans hF
        refine q_aload_n Cx dX2_moveTask_38 rfl (lv_at hl 0 rfl) ?_
        refine q_get (v := .ref (vA V j 1)) Cx hW (oM hj) ic2 0 (by decide) rfl wd_166 dX2_moveTask_39 ?_
        refine q_iload_n Cx dX2_moveTask_42 rfl (lv_at hl 1 rfl) ?_
        obtain ⟨r12, e13, hF⟩ := c1_some hF
        refine q_callI (as := [.int l1]) (rest := []) Cx (kX4_placeOf hj e13) okX4_placeOf ovX4_placeOf wd_353 ⟨rfl, rfl, by decide, by decide⟩ hW (oP hj) ic4 rfl hl.1 (Nat.le_of_ble_eq_true rfl) rfl dX2_moveTask_43 (fun H locs hW => ?_)
        refine q_istore_n (lv' := [(3, .int r12), (0, .ref (vA V j 0)), (1, .int l1), (2, .int l2)]) Cx dX2_moveTask_46 rfl hl (by decide) rfl (fun ls hl => ?_)
        refine q_aload_n Cx dX2_moveTask_47 rfl (lv_at hl 1 rfl) ?_
        refine q_get (v := .ref (vA V j 1)) Cx hW (oM hj) ic2 0 (by decide) rfl wd_166 dX2_moveTask_48 ?_
        refine q_iload_n Cx dX2_moveTask_51 rfl (lv_at hl 2 rfl) ?_
        refine q_iload_n Cx dX2_moveTask_52 rfl (lv_at hl 3 rfl) ?_
        obtain ⟨B16, e15, hF⟩ := c1_some hF
        refine q_callV (as := [.int l1, .int l2]) (rest := []) Cx (kX4_shift hj e15) okX4_shift ovX4_shift wd_357 ⟨rfl, rfl, by decide, by decide⟩ hW (oP hj) ic4 rfl hl.1 (Nat.le_of_ble_eq_true rfl) rfl dX2_moveTask_53 (fun H locs hW => ?_)
        refine q_aload_n Cx dX2_moveTask_56 rfl (lv_at hl 1 rfl) ?_
        refine q_get (v := .ref (vA V j 1)) Cx hW (oM hj) ic2 0 (by decide) rfl wd_166 dX2_moveTask_57 ?_
        obtain ⟨r17, B19, e18, hF⟩ := c2_some hF
        refine q_callI (as := []) (rest := []) Cx (kX4_schedule hj e18) okX4_schedule ovX4_schedule wd_317 ⟨rfl, rfl, by decide, by decide⟩ hW (oP hj) ic4 rfl hl.1 (Nat.le_of_ble_eq_true rfl) rfl dX2_moveTask_60 (fun H locs hW => ?_)
        refine q_if_ne (tgt := 86) Cx dX2_moveTask_63 (by decide) (fun c20 => ?_) (fun c20 => ?_)
        · have hF := (if_neg c20).symm.trans hF
          refine q_iload_n Cx dX2_moveTask_86 rfl (lv_at hl 0 rfl) ?_
          cases hF
          exact hret _ _ _ _ dX2_moveTask_87 (nI32 _) hW
        · have hF := (if_pos c20).symm.trans hF
          refine q_aload_n Cx dX2_moveTask_66 rfl (lv_at hl 1 rfl) ?_
          refine q_get (v := .ref (vA V j 1)) Cx hW (oM hj) ic2 0 (by decide) rfl wd_166 dX2_moveTask_67 ?_
          refine q_iload_n Cx dX2_moveTask_70 rfl (lv_at hl 2 rfl) ?_
          refine q_iload_n Cx dX2_moveTask_71 rfl (lv_at hl 0 rfl) ?_
          obtain ⟨B23, e22, hF⟩ := c1_some hF
          refine q_callV (as := [.int l1, .int r12]) (rest := []) Cx (kX4_shift hj e22) okX4_shift ovX4_shift wd_357 ⟨rfl, rfl, by decide, by decide⟩ hW (oP hj) ic4 rfl hl.1 (Nat.le_of_ble_eq_true rfl) rfl dX2_moveTask_72 (fun H locs hW => ?_)
          refine q_aload_n Cx dX2_moveTask_75 rfl (lv_at hl 1 rfl) ?_
          refine q_get (v := .ref (vA V j 1)) Cx hW (oM hj) ic2 0 (by decide) rfl wd_166 dX2_moveTask_76 ?_
          obtain ⟨r24, B26, e25, hF⟩ := c2_some hF
          refine q_callI (as := []) (rest := []) Cx (kX4_schedule hj e25) okX4_schedule ovX4_schedule wd_317 ⟨rfl, rfl, by decide, by decide⟩ hW (oP hj) ic4 rfl hl.1 (Nat.le_of_ble_eq_true rfl) rfl dX2_moveTask_79 (fun H locs hW => ?_)
          refine q_pop Cx dX2_moveTask_82 rfl ?_
          refine q_bipush (v := (-5 : Int32)) Cx dX2_moveTask_83 (by decide) ?_
          cases hF
          exact hret _ _ _ _ dX2_moveTask_85 (nI32 _) hW
      · have hF := (if_neg c11).symm.trans hF
        refine q_iconst (v := (-1 : Int32)) Cx dX2_moveTask_36 (by decide) ?_
        cases hF
        exact hret _ _ _ _ dX2_moveTask_37 (nI32 _) hW
set_option maxRecDepth 100000 in
theorem kX2_moveTask {l : Launch} {V : VT} {M : Mem} {j : Nat} (hj : j < 11) {B : Blk} {l1 : Int32} {l2 : Int32} {r : Int32} {B' : Blk} (hF : FX2_moveTask B l1 l2 = some (r, B')) : MetI l V yX2_moveTask cX2_moveTask 4 .int ({ frames := 3, cells := 0, slots := 0, locals := 88 } : Room) [.ref (vA V j 0), .int l1, .int l2] r (jb M j B) (jb M j B') := metI_of (by decide) (Nat.le_of_ble_eq_true rfl) (fun E H0 _ Cx hret H locs ls hW hl => wX2_moveTask hj Cx hret hW hl hF)
theorem dX2_setOffer_0 : decode cX2_setOffer 0 = .ok (.aload_n 0, 1) := by decide +kernel
theorem dX2_setOffer_1 : decode cX2_setOffer 1 = .ok (.getfield 39, 3) := by decide +kernel
theorem dX2_setOffer_4 : decode cX2_setOffer 4 = .ok (.iload_n 1, 1) := by decide +kernel
theorem dX2_setOffer_5 : decode cX2_setOffer 5 = .ok (.iload_n 2, 1) := by decide +kernel
theorem dX2_setOffer_6 : decode cX2_setOffer 6 = .ok (.iastore, 1) := by decide +kernel
theorem dX2_setOffer_7 : decode cX2_setOffer 7 = .ok (.aload_n 0, 1) := by decide +kernel
theorem dX2_setOffer_8 : decode cX2_setOffer 8 = .ok (.getfield 42, 3) := by decide +kernel
theorem dX2_setOffer_11 : decode cX2_setOffer 11 = .ok (.iload_n 1, 1) := by decide +kernel
theorem dX2_setOffer_12 : decode cX2_setOffer 12 = .ok (.iload_n 2, 1) := by decide +kernel
theorem dX2_setOffer_13 : decode cX2_setOffer 13 = .ok (.ifCond .le 7, 3) := by decide +kernel
theorem dX2_setOffer_16 : decode cX2_setOffer 16 = .ok (.iload_n 3, 1) := by decide +kernel
theorem dX2_setOffer_17 : decode cX2_setOffer 17 = .ok (.goto 4, 3) := by decide +kernel
theorem dX2_setOffer_20 : decode cX2_setOffer 20 = .ok (.iconst 0, 1) := by decide +kernel
theorem dX2_setOffer_21 : decode cX2_setOffer 21 = .ok (.iastore, 1) := by decide +kernel
theorem dX2_setOffer_22 : decode cX2_setOffer 22 = .ok (.return_, 1) := by decide +kernel
theorem okX2_setOffer : CalOK yX2_setOffer cX2_setOffer 4 (none) 3 := ⟨wd_68, wd_373, by decide +kernel⟩
theorem ovX2_setOffer : VirOK yX2_setOffer := ⟨wd_372, wd_1⟩
def FX2_setOffer_21 (s0 : Int32) (s1 : Int32) (B : Blk) : Option Blk :=
  stb B 19 24 s1 s0 fun B5 =>
  some B5
set_option maxRecDepth 100000 in
set_option maxHeartbeats 4000000 in
theorem wX2_setOffer_21 {E : WE} {V : VT} {A : Nat → Prop} {H0 : Heap} {M : Mem} {j : Nat} (hj : j < 11) (Cx : CX E RX2 cX2_setOffer 4 0 0) {B' : Blk} (hret : RetV E V A H0 cX2_setOffer (jb M j B')) {H : Heap} {locs : List Loc} {ls : Array Slot} {s0 : Int32} {s1 : Int32} {B : Blk} (hW : Wd V A H0 (jb M j B) (eS E) H locs) (hl : lv_has ls 4 []) (hF : FX2_setOffer_21 s0 s1 B = some B') : Wq E H locs 21 ls [.int s0, .int s1, .ref (vA V j 19)] := by
  unfold FX2_setOffer_21 at hF
  obtain ⟨h6, B5, e7, hF⟩ := stb_some hF
  refine qb_iast Cx hW (ai_19 hj) h6 e7 dX2_setOffer_21 (fun H locs hW => ?_)
  cases hF
  exact hret _ _ _ _ dX2_setOffer_22 hW
def FX2_setOffer (B : Blk) (l1 : Int32) (l2 : Int32) (l3 : Int32) : Option Blk :=
  stb B 18 24 l1 l2 fun B1 =>
  if l2 ≤ 0 then
    FX2_setOffer_21 (0 : Int32) l1 B1
  else
    FX2_setOffer_21 l3 l1 B1
set_option maxRecDepth 100000 in
set_option maxHeartbeats 4000000 in
theorem wX2_setOffer {E : WE} {V : VT} {A : Nat → Prop} {H0 : Heap} {M : Mem} {j : Nat} (hj : j < 11) (Cx : CX E RX2 cX2_setOffer 4 0 0) {B' : Blk} (hret : RetV E V A H0 cX2_setOffer (jb M j B')) {H : Heap} {locs : List Loc} {ls : Array Slot} {l1 : Int32} {l2 : Int32} {l3 : Int32} {B : Blk} (hW : Wd V A H0 (jb M j B) (eS E) H locs) (hl : lv_has ls 4 [(0, .ref (vA V j 0)), (1, .int l1), (2, .int l2), (3, .int l3)]) (hF : FX2_setOffer B l1 l2 l3 = some B') : Wq E H locs 0 ls [] := by
  unfold FX2_setOffer at hF
  refine q_aload_n Cx dX2_setOffer_0 rfl (lv_at hl 0 rfl) ?_
  refine q_get (v := .ref (vA V j 18)) Cx hW (oM hj) ic2 6 (by decide) rfl wd_176 dX2_setOffer_1 ?_
  refine q_iload_n Cx dX2_setOffer_4 rfl (lv_at hl 1 rfl) ?_
  refine q_iload_n Cx dX2_setOffer_5 rfl (lv_at hl 2 rfl) ?_
  obtain ⟨h2, B1, e3, hF⟩ := stb_some hF
  refine qb_iast Cx hW (ai_18 hj) h2 e3 dX2_setOffer_6 (fun H locs hW => ?_)
  refine q_aload_n Cx dX2_setOffer_7 rfl (lv_at hl 0 rfl) ?_
  refine q_get (v := .ref (vA V j 19)) Cx hW (oM hj) ic2 7 (by decide) rfl wd_177 dX2_setOffer_8 ?_
  refine q_iload_n Cx dX2_setOffer_11 rfl (lv_at hl 1 rfl) ?_
  refine q_iload_n Cx dX2_setOffer_12 rfl (lv_at hl 2 rfl) ?_
  refine q_if_le (tgt := 20) Cx dX2_setOffer_13 (by decide) (fun c4 => ?_) (fun c4 => ?_)
  · have hF := (if_pos c4).symm.trans hF
    refine q_iconst (v := (0 : Int32)) Cx dX2_setOffer_20 (by decide) ?_
    exact wX2_setOffer_21 hj Cx hret hW (lv_sub hl [] rfl) hF
  · have hF := (if_neg c4).symm.trans hF
    refine q_iload_n Cx dX2_setOffer_16 rfl (lv_at hl 3 rfl) ?_
    refine q_goto (tgt := 21) Cx dX2_setOffer_17 (by decide) ?_
    exact wX2_setOffer_21 hj Cx hret hW (lv_sub hl [] rfl) hF
set_option maxRecDepth 100000 in
theorem kX2_setOffer {l : Launch} {V : VT} {M : Mem} {j : Nat} (hj : j < 11) {B : Blk} {l1 : Int32} {l2 : Int32} {l3 : Int32} {B' : Blk} (hF : FX2_setOffer B l1 l2 l3 = some B') : MetV l V yX2_setOffer cX2_setOffer 4 ({ frames := 0, cells := 0, slots := 0, locals := 0 } : Room) [.ref (vA V j 0), .int l1, .int l2, .int l3] (jb M j B) (jb M j B') := metV_of (by decide) (Nat.le_of_ble_eq_true rfl) (fun E H0 _ Cx hret H locs ls hW hl => wX2_setOffer hj Cx hret hW hl hF)
theorem dX2_makeOffer_0 : decode cX2_makeOffer 0 = .ok (.aload_n 0, 1) := by decide +kernel
theorem dX2_makeOffer_1 : decode cX2_makeOffer 1 = .ok (.getfield 12, 3) := by decide +kernel
theorem dX2_makeOffer_4 : decode cX2_makeOffer 4 = .ok (.iload_n 1, 1) := by decide +kernel
theorem dX2_makeOffer_5 : decode cX2_makeOffer 5 = .ok (.invokevirtual 61, 3) := by decide +kernel
theorem dX2_makeOffer_8 : decode cX2_makeOffer 8 = .ok (.ifCond .ne 5, 3) := by decide +kernel
theorem dX2_makeOffer_11 : decode cX2_makeOffer 11 = .ok (.iconst (-1), 1) := by decide +kernel
theorem dX2_makeOffer_12 : decode cX2_makeOffer 12 = .ok (.ireturn, 1) := by decide +kernel
theorem dX2_makeOffer_13 : decode cX2_makeOffer 13 = .ok (.iload_n 2, 1) := by decide +kernel
theorem dX2_makeOffer_14 : decode cX2_makeOffer 14 = .ok (.ifCond .lt 21, 3) := by decide +kernel
theorem dX2_makeOffer_17 : decode cX2_makeOffer 17 = .ok (.iload_n 2, 1) := by decide +kernel
theorem dX2_makeOffer_18 : decode cX2_makeOffer 18 = .ok (.sipush 500, 3) := by decide +kernel
theorem dX2_makeOffer_21 : decode cX2_makeOffer 21 = .ok (.if_icmp .gt 14, 3) := by decide +kernel
theorem dX2_makeOffer_24 : decode cX2_makeOffer 24 = .ok (.iload_n 3, 1) := by decide +kernel
theorem dX2_makeOffer_25 : decode cX2_makeOffer 25 = .ok (.ifCond .lt 10, 3) := by decide +kernel
theorem dX2_makeOffer_28 : decode cX2_makeOffer 28 = .ok (.iload_n 3, 1) := by decide +kernel
theorem dX2_makeOffer_29 : decode cX2_makeOffer 29 = .ok (.sipush 1000, 3) := by decide +kernel
theorem dX2_makeOffer_32 : decode cX2_makeOffer 32 = .ok (.if_icmp .le 6, 3) := by decide +kernel
theorem dX2_makeOffer_35 : decode cX2_makeOffer 35 = .ok (.bipush (-2), 2) := by decide +kernel
theorem dX2_makeOffer_37 : decode cX2_makeOffer 37 = .ok (.ireturn, 1) := by decide +kernel
theorem dX2_makeOffer_38 : decode cX2_makeOffer 38 = .ok (.aload_n 0, 1) := by decide +kernel
theorem dX2_makeOffer_39 : decode cX2_makeOffer 39 = .ok (.getfield 39, 3) := by decide +kernel
theorem dX2_makeOffer_42 : decode cX2_makeOffer 42 = .ok (.iload_n 1, 1) := by decide +kernel
theorem dX2_makeOffer_43 : decode cX2_makeOffer 43 = .ok (.iaload, 1) := by decide +kernel
theorem dX2_makeOffer_44 : decode cX2_makeOffer 44 = .ok (.istore 4, 2) := by decide +kernel
theorem dX2_makeOffer_46 : decode cX2_makeOffer 46 = .ok (.aload_n 0, 1) := by decide +kernel
theorem dX2_makeOffer_47 : decode cX2_makeOffer 47 = .ok (.iload_n 1, 1) := by decide +kernel
theorem dX2_makeOffer_48 : decode cX2_makeOffer 48 = .ok (.iload_n 2, 1) := by decide +kernel
theorem dX2_makeOffer_49 : decode cX2_makeOffer 49 = .ok (.iload_n 3, 1) := by decide +kernel
theorem dX2_makeOffer_50 : decode cX2_makeOffer 50 = .ok (.invokevirtual 94, 3) := by decide +kernel
theorem dX2_makeOffer_53 : decode cX2_makeOffer 53 = .ok (.iload 4, 2) := by decide +kernel
theorem dX2_makeOffer_55 : decode cX2_makeOffer 55 = .ok (.ireturn, 1) := by decide +kernel
theorem okX2_makeOffer : CalOK yX2_makeOffer cX2_makeOffer 5 (some .int) 3 := ⟨wd_68, wd_369, by decide +kernel⟩
theorem ovX2_makeOffer : VirOK yX2_makeOffer := ⟨wd_367, wd_368⟩
def FX2_makeOffer (B : Blk) (l1 : Int32) (l2 : Int32) (l3 : Int32) : Option (Int32 × Blk) :=
  c1 (FX4_has B l1) fun r1 =>
  if r1 = 0 then
    some ((-1 : Int32), B)
  else
    if l2 < 0 then
      some ((-2 : Int32), B)
    else
      if (500 : Int32) < l2 then
        some ((-2 : Int32), B)
      else
        if l3 < 0 then
          some ((-2 : Int32), B)
        else
          if l3 ≤ (1000 : Int32) then
            ld (B 18) 24 l1 fun v8 =>
            c1 (FX2_setOffer B l1 l2 l3) fun B13 =>
            some (v8, B13)
          else
            some ((-2 : Int32), B)
set_option maxRecDepth 100000 in
set_option maxHeartbeats 4000000 in
theorem wX2_makeOffer {E : WE} {V : VT} {A : Nat → Prop} {H0 : Heap} {M : Mem} {j : Nat} (hj : j < 11) (Cx : CX E RX2 cX2_makeOffer 5 1 23) {r : Int32} {B' : Blk} (hret : RetI E V A H0 cX2_makeOffer .int r (jb M j B')) {H : Heap} {locs : List Loc} {ls : Array Slot} {l1 : Int32} {l2 : Int32} {l3 : Int32} {B : Blk} (hW : Wd V A H0 (jb M j B) (eS E) H locs) (hl : lv_has ls 5 [(0, .ref (vA V j 0)), (1, .int l1), (2, .int l2), (3, .int l3)]) (hF : FX2_makeOffer B l1 l2 l3 = some (r, B')) : Wq E H locs 0 ls [] := by
  unfold FX2_makeOffer at hF
  refine q_aload_n Cx dX2_makeOffer_0 rfl (lv_at hl 0 rfl) ?_
  refine q_get (v := .ref (vA V j 1)) Cx hW (oM hj) ic2 0 (by decide) rfl wd_166 dX2_makeOffer_1 ?_
  refine q_iload_n Cx dX2_makeOffer_4 rfl (lv_at hl 1 rfl) ?_
  obtain ⟨r1, e2, hF⟩ := c1_some hF
  refine q_callI (as := [.int l1]) (rest := []) Cx (kX4_has hj e2) okX4_has ovX4_has wd_308 ⟨rfl, rfl, by decide, by decide⟩ hW (oP hj) ic4 rfl hl.1 (Nat.le_of_ble_eq_true rfl) rfl dX2_makeOffer_5 (fun H locs hW => ?_)
  refine q_if_ne (tgt := 13) Cx dX2_makeOffer_8 (by decide) (fun c3 => ?_) (fun c3 => ?_)
  · have hF := (if_neg c3).symm.trans hF
    refine q_iload_n Cx dX2_makeOffer_13 rfl (lv_at hl 2 rfl) ?_
    refine q_if_lt (tgt := 35) Cx dX2_makeOffer_14 (by decide) (fun c4 => ?_) (fun c4 => ?_)
    · have hF := (if_pos c4).symm.trans hF
      refine q_bipush (v := (-2 : Int32)) Cx dX2_makeOffer_35 (by decide) ?_
      cases hF
      exact hret _ _ _ _ dX2_makeOffer_37 (nI32 _) hW
    · have hF := (if_neg c4).symm.trans hF
      refine q_iload_n Cx dX2_makeOffer_17 rfl (lv_at hl 2 rfl) ?_
      refine q_sipush (v := (500 : Int32)) Cx dX2_makeOffer_18 (by decide) ?_
      refine q_icmp_gt (tgt := 35) Cx dX2_makeOffer_21 (by decide) (fun c5 => ?_) (fun c5 => ?_)
      · have hF := (if_pos c5).symm.trans hF
        refine q_bipush (v := (-2 : Int32)) Cx dX2_makeOffer_35 (by decide) ?_
        cases hF
        exact hret _ _ _ _ dX2_makeOffer_37 (nI32 _) hW
      · have hF := (if_neg c5).symm.trans hF
        refine q_iload_n Cx dX2_makeOffer_24 rfl (lv_at hl 3 rfl) ?_
        refine q_if_lt (tgt := 35) Cx dX2_makeOffer_25 (by decide) (fun c6 => ?_) (fun c6 => ?_)
        · have hF := (if_pos c6).symm.trans hF
          refine q_bipush (v := (-2 : Int32)) Cx dX2_makeOffer_35 (by decide) ?_
          cases hF
          exact hret _ _ _ _ dX2_makeOffer_37 (nI32 _) hW
        · have hF := (if_neg c6).symm.trans hF
          refine q_iload_n Cx dX2_makeOffer_28 rfl (lv_at hl 3 rfl) ?_
          refine q_sipush (v := (1000 : Int32)) Cx dX2_makeOffer_29 (by decide) ?_
          refine q_icmp_le (tgt := 38) Cx dX2_makeOffer_32 (by decide) (fun c7 => ?_) (fun c7 => ?_)
          · have hF := (if_pos c7).symm.trans hF
            refine q_aload_n Cx dX2_makeOffer_38 rfl (lv_at hl 0 rfl) ?_
            refine q_get (v := .ref (vA V j 18)) Cx hW (oM hj) ic2 6 (by decide) rfl wd_176 dX2_makeOffer_39 ?_
            refine q_iload_n Cx dX2_makeOffer_42 rfl (lv_at hl 1 rfl) ?_
            obtain ⟨h9, v8, e10, hF⟩ := ld_some hF
            refine qb_iald Cx hW (ai_18 hj) h9 e10 dX2_makeOffer_43 ?_
            refine q_istore (lv' := [(4, .int v8), (0, .ref (vA V j 0)), (1, .int l1), (2, .int l2), (3, .int l3)]) Cx dX2_makeOffer_44 hl (by decide) rfl (fun ls hl => ?_)
            refine q_aload_n Cx dX2_makeOffer_46 rfl (lv_at hl 1 rfl) ?_
            refine q_iload_n Cx dX2_makeOffer_47 rfl (lv_at hl 2 rfl) ?_
            refine q_iload_n Cx dX2_makeOffer_48 rfl (lv_at hl 3 rfl) ?_
            refine q_iload_n Cx dX2_makeOffer_49 rfl (lv_at hl 4 rfl) ?_
            obtain ⟨B13, e12, hF⟩ := c1_some hF
            refine q_callV (as := [.int l1, .int l2, .int l3]) (rest := []) Cx (kX2_setOffer hj e12) okX2_setOffer ovX2_setOffer wd_370 ⟨rfl, rfl, by decide, by decide⟩ hW (oM hj) ic2 rfl hl.1 (Nat.le_of_ble_eq_true rfl) rfl dX2_makeOffer_50 (fun H locs hW => ?_)
            refine q_iload Cx dX2_makeOffer_53 (lv_at hl 0 rfl) ?_
            cases hF
            exact hret _ _ _ _ dX2_makeOffer_55 (nI32 _) hW
          · have hF := (if_neg c7).symm.trans hF
            refine q_bipush (v := (-2 : Int32)) Cx dX2_makeOffer_35 (by decide) ?_
            cases hF
            exact hret _ _ _ _ dX2_makeOffer_37 (nI32 _) hW
  · have hF := (if_pos c3).symm.trans hF
    refine q_iconst (v := (-1 : Int32)) Cx dX2_makeOffer_11 (by decide) ?_
    cases hF
    exact hret _ _ _ _ dX2_makeOffer_12 (nI32 _) hW
set_option maxRecDepth 100000 in
theorem kX2_makeOffer {l : Launch} {V : VT} {M : Mem} {j : Nat} (hj : j < 11) {B : Blk} {l1 : Int32} {l2 : Int32} {l3 : Int32} {r : Int32} {B' : Blk} (hF : FX2_makeOffer B l1 l2 l3 = some (r, B')) : MetI l V yX2_makeOffer cX2_makeOffer 5 .int ({ frames := 1, cells := 0, slots := 0, locals := 23 } : Room) [.ref (vA V j 0), .int l1, .int l2, .int l3] r (jb M j B) (jb M j B') := metI_of (by decide) (Nat.le_of_ble_eq_true rfl) (fun E H0 _ Cx hret H locs ls hW hl => wX2_makeOffer hj Cx hret hW hl hF)
theorem dX2_lateOf_0 : decode cX2_lateOf 0 = .ok (.iconst 0, 1) := by decide +kernel
theorem dX2_lateOf_1 : decode cX2_lateOf 1 = .ok (.aload_n 0, 1) := by decide +kernel
theorem dX2_lateOf_2 : decode cX2_lateOf 2 = .ok (.getfield 12, 3) := by decide +kernel
theorem dX2_lateOf_5 : decode cX2_lateOf 5 = .ok (.getfield 108, 3) := by decide +kernel
theorem dX2_lateOf_8 : decode cX2_lateOf 8 = .ok (.iload_n 1, 1) := by decide +kernel
theorem dX2_lateOf_9 : decode cX2_lateOf 9 = .ok (.iaload, 1) := by decide +kernel
theorem dX2_lateOf_10 : decode cX2_lateOf 10 = .ok (.aload_n 0, 1) := by decide +kernel
theorem dX2_lateOf_11 : decode cX2_lateOf 11 = .ok (.getfield 32, 3) := by decide +kernel
theorem dX2_lateOf_14 : decode cX2_lateOf 14 = .ok (.iload_n 1, 1) := by decide +kernel
theorem dX2_lateOf_15 : decode cX2_lateOf 15 = .ok (.iaload, 1) := by decide +kernel
theorem dX2_lateOf_16 : decode cX2_lateOf 16 = .ok (.isub, 1) := by decide +kernel
theorem dX2_lateOf_17 : decode cX2_lateOf 17 = .ok (.invokestatic 161, 3) := by decide +kernel
theorem dX2_lateOf_20 : decode cX2_lateOf 20 = .ok (.ireturn, 1) := by decide +kernel
theorem okX2_lateOf : CalOK yX2_lateOf cX2_lateOf 2 (some .int) 1 := ⟨wd_68, wd_389, by decide +kernel⟩
theorem ovX2_lateOf : VirOK yX2_lateOf := ⟨wd_387, wd_388⟩
def FX2_lateOf (B : Blk) (l1 : Int32) : Option Int32 :=
  ld (B 6) 24 l1 fun v1 =>
  ld (B 16) 24 l1 fun v4 =>
  lt1 (if (0 : Int32) < (v1 - v4) then (v1 - v4) else (0 : Int32)) fun x7 =>
  some x7
set_option maxRecDepth 100000 in
set_option maxHeartbeats 4000000 in
theorem wX2_lateOf {E : WE} {V : VT} {A : Nat → Prop} {H0 : Heap} {M : Mem} {j : Nat} (hj : j < 11) (Cx : CX E RX2 cX2_lateOf 2 1 40) {r : Int32} {B : Blk} (hret : RetI E V A H0 cX2_lateOf .int r (jb M j B)) {H : Heap} {locs : List Loc} {ls : Array Slot} {l1 : Int32} (hW : Wd V A H0 (jb M j B) (eS E) H locs) (hl : lv_has ls 2 [(0, .ref (vA V j 0)), (1, .int l1)]) (hF : FX2_lateOf B l1 = some r) : Wq E H locs 0 ls [] := by
  unfold FX2_lateOf at hF
  refine q_iconst (v := (0 : Int32)) Cx dX2_lateOf_0 (by decide) ?_
  refine q_aload_n Cx dX2_lateOf_1 rfl (lv_at hl 0 rfl) ?_
  refine q_get (v := .ref (vA V j 1)) Cx hW (oM hj) ic2 0 (by decide) rfl wd_166 dX2_lateOf_2 ?_
  refine q_get (v := .ref (vA V j 6)) Cx hW (oP hj) ic4 4 (by decide) rfl wd_106 dX2_lateOf_5 ?_
  refine q_iload_n Cx dX2_lateOf_8 rfl (lv_at hl 1 rfl) ?_
  obtain ⟨h2, v1, e3, hF⟩ := ld_some hF
  refine qb_iald Cx hW (ai_6 hj) h2 e3 dX2_lateOf_9 ?_
  refine q_aload_n Cx dX2_lateOf_10 rfl (lv_at hl 0 rfl) ?_
  refine q_get (v := .ref (vA V j 16)) Cx hW (oM hj) ic2 4 (by decide) rfl wd_172 dX2_lateOf_11 ?_
  refine q_iload_n Cx dX2_lateOf_14 rfl (lv_at hl 1 rfl) ?_
  obtain ⟨h5, v4, e6, hF⟩ := ld_some hF
  refine qb_iald Cx hW (ai_16 hj) h5 e6 dX2_lateOf_15 ?_
  refine q_isub Cx dX2_lateOf_16 ?_
  obtain ⟨x7, e8, hF⟩ := lt1_some hF
  refine q_max Cx wd_390 wd_335 wd_75 wd_336 hl.1 (by decide) (Nat.le_of_ble_eq_true rfl) e8.symm dX2_lateOf_17 ?_
  cases hF
  exact hret _ _ _ _ dX2_lateOf_20 (nI32 _) hW
set_option maxRecDepth 100000 in
theorem kX2_lateOf {l : Launch} {V : VT} {M : Mem} {j : Nat} (hj : j < 11) {B : Blk} {l1 : Int32} {r : Int32} (hF : FX2_lateOf B l1 = some r) : MetI l V yX2_lateOf cX2_lateOf 2 .int ({ frames := 1, cells := 0, slots := 0, locals := 40 } : Room) [.ref (vA V j 0), .int l1] r (jb M j B) (jb M j B) := metI_of (by decide) (Nat.le_of_ble_eq_true rfl) (fun E H0 _ Cx hret H locs ls hW hl => wX2_lateOf hj Cx hret hW hl hF)
theorem dX2_latestExcept_0 : decode cX2_latestExcept 0 = .ok (.bipush (-6), 2) := by decide +kernel
theorem dX2_latestExcept_2 : decode cX2_latestExcept 2 = .ok (.istore_n 2, 1) := by decide +kernel
theorem dX2_latestExcept_3 : decode cX2_latestExcept 3 = .ok (.iconst 0, 1) := by decide +kernel
theorem dX2_latestExcept_4 : decode cX2_latestExcept 4 = .ok (.istore_n 3, 1) := by decide +kernel
theorem dX2_latestExcept_5 : decode cX2_latestExcept 5 = .ok (.iload_n 3, 1) := by decide +kernel
theorem dX2_latestExcept_6 : decode cX2_latestExcept 6 = .ok (.aload_n 0, 1) := by decide +kernel
theorem dX2_latestExcept_7 : decode cX2_latestExcept 7 = .ok (.getfield 12, 3) := by decide +kernel
theorem dX2_latestExcept_10 : decode cX2_latestExcept 10 = .ok (.getfield 66, 3) := by decide +kernel
theorem dX2_latestExcept_13 : decode cX2_latestExcept 13 = .ok (.if_icmp .ge 42, 3) := by decide +kernel
theorem dX2_latestExcept_16 : decode cX2_latestExcept 16 = .ok (.iload_n 1, 1) := by decide +kernel
theorem dX2_latestExcept_17 : decode cX2_latestExcept 17 = .ok (.iload_n 3, 1) := by decide +kernel
theorem dX2_latestExcept_18 : decode cX2_latestExcept 18 = .ok (.ishr, 1) := by decide +kernel
theorem dX2_latestExcept_19 : decode cX2_latestExcept 19 = .ok (.iconst 1, 1) := by decide +kernel
theorem dX2_latestExcept_20 : decode cX2_latestExcept 20 = .ok (.iand, 1) := by decide +kernel
theorem dX2_latestExcept_21 : decode cX2_latestExcept 21 = .ok (.ifCond .ne 28, 3) := by decide +kernel
theorem dX2_latestExcept_24 : decode cX2_latestExcept 24 = .ok (.aload_n 0, 1) := by decide +kernel
theorem dX2_latestExcept_25 : decode cX2_latestExcept 25 = .ok (.iload_n 3, 1) := by decide +kernel
theorem dX2_latestExcept_26 : decode cX2_latestExcept 26 = .ok (.invokevirtual 125, 3) := by decide +kernel
theorem dX2_latestExcept_29 : decode cX2_latestExcept 29 = .ok (.iload_n 2, 1) := by decide +kernel
theorem dX2_latestExcept_30 : decode cX2_latestExcept 30 = .ok (.bipush (-6), 2) := by decide +kernel
theorem dX2_latestExcept_32 : decode cX2_latestExcept 32 = .ok (.if_icmp .ne 7, 3) := by decide +kernel
theorem dX2_latestExcept_35 : decode cX2_latestExcept 35 = .ok (.iconst 0, 1) := by decide +kernel
theorem dX2_latestExcept_36 : decode cX2_latestExcept 36 = .ok (.goto 8, 3) := by decide +kernel
theorem dX2_latestExcept_39 : decode cX2_latestExcept 39 = .ok (.aload_n 0, 1) := by decide +kernel
theorem dX2_latestExcept_40 : decode cX2_latestExcept 40 = .ok (.iload_n 2, 1) := by decide +kernel
theorem dX2_latestExcept_41 : decode cX2_latestExcept 41 = .ok (.invokevirtual 125, 3) := by decide +kernel
theorem dX2_latestExcept_44 : decode cX2_latestExcept 44 = .ok (.if_icmp .le 5, 3) := by decide +kernel
theorem dX2_latestExcept_47 : decode cX2_latestExcept 47 = .ok (.iload_n 3, 1) := by decide +kernel
theorem dX2_latestExcept_48 : decode cX2_latestExcept 48 = .ok (.istore_n 2, 1) := by decide +kernel
theorem dX2_latestExcept_49 : decode cX2_latestExcept 49 = .ok (.iinc 3 1, 3) := by decide +kernel
theorem dX2_latestExcept_52 : decode cX2_latestExcept 52 = .ok (.goto (-47), 3) := by decide +kernel
theorem dX2_latestExcept_55 : decode cX2_latestExcept 55 = .ok (.iload_n 2, 1) := by decide +kernel
theorem dX2_latestExcept_56 : decode cX2_latestExcept 56 = .ok (.ireturn, 1) := by decide +kernel
theorem okX2_latestExcept : CalOK yX2_latestExcept cX2_latestExcept 4 (some .int) 1 := ⟨wd_68, wd_385, by decide +kernel⟩
theorem ovX2_latestExcept : VirOK yX2_latestExcept := ⟨wd_384, wd_2⟩
def FX2_latestExcept_44 (B : Blk) (k5 : Int32 → Int32 → Int32 → Option Int32) (l1 : Int32) (l2 : Int32) (l3 : Int32) (s0 : Int32) (s1 : Int32) : Option Int32 :=
  if s1 ≤ s0 then
    lt1 (l3 + (1 : Int32)) fun x11 =>
    k5 l1 l2 x11
  else
    lt1 (l3 + (1 : Int32)) fun x13 =>
    k5 l1 l3 x13
set_option maxRecDepth 100000 in
set_option maxHeartbeats 4000000 in
theorem wX2_latestExcept_44 {E : WE} {V : VT} {A : Nat → Prop} {H0 : Heap} {M : Mem} {j : Nat} (hj : j < 11) (Cx : CX E RX2 cX2_latestExcept 4 2 61) {r : Int32} {B : Blk} (hret : RetI E V A H0 cX2_latestExcept .int r (jb M j B)) {k5 : Int32 → Int32 → Int32 → Option Int32} (hk5 : ∀ {H : Heap} {locs : List Loc} {ls : Array Slot} {l1 : Int32} {l2 : Int32} {l3 : Int32}, Wd V A H0 (jb M j B) (eS E) H locs → lv_has ls 4 [(0, .ref (vA V j 0)), (1, .int l1), (2, .int l2), (3, .int l3)] → k5 l1 l2 l3 = some r → Wq E H locs 5 ls []) {H : Heap} {locs : List Loc} {ls : Array Slot} {l1 : Int32} {l2 : Int32} {l3 : Int32} {s0 : Int32} {s1 : Int32} (hW : Wd V A H0 (jb M j B) (eS E) H locs) (hl : lv_has ls 4 [(0, .ref (vA V j 0)), (1, .int l1), (2, .int l2), (3, .int l3)]) (hF : FX2_latestExcept_44 B k5 l1 l2 l3 s0 s1 = some r) : Wq E H locs 44 ls [.int s0, .int s1] := by
  unfold FX2_latestExcept_44 at hF
  refine q_icmp_le (tgt := 49) Cx dX2_latestExcept_44 (by decide) (fun c10 => ?_) (fun c10 => ?_)
  · have hF := (if_pos c10).symm.trans hF
    obtain ⟨x11, e12, hF⟩ := lt1_some hF
    refine q_iinc (k := 3) (v := x11) (lv' := [(3, .int x11), (0, .ref (vA V j 0)), (1, .int l1), (2, .int l2)]) Cx dX2_latestExcept_49 hl rfl e12.symm (by decide) rfl (fun ls hl => ?_)
    refine q_goto (tgt := 5) Cx dX2_latestExcept_52 (by decide) ?_
    exact hk5 hW (lv_sub hl [1, 2, 3, 0] rfl) hF
  · have hF := (if_neg c10).symm.trans hF
    refine q_iload_n Cx dX2_latestExcept_47 rfl (lv_at hl 3 rfl) ?_
    refine q_istore_n (lv' := [(2, .int l3), (0, .ref (vA V j 0)), (1, .int l1), (3, .int l3)]) Cx dX2_latestExcept_48 rfl hl (by decide) rfl (fun ls hl => ?_)
    obtain ⟨x13, e14, hF⟩ := lt1_some hF
    refine q_iinc (k := 3) (v := x13) (lv' := [(3, .int x13), (2, .int l3), (0, .ref (vA V j 0)), (1, .int l1)]) Cx dX2_latestExcept_49 hl rfl e14.symm (by decide) rfl (fun ls hl => ?_)
    refine q_goto (tgt := 5) Cx dX2_latestExcept_52 (by decide) ?_
    exact hk5 hW (lv_sub hl [2, 3, 1, 0] rfl) hF
def FX2_latestExcept_5s (B : Blk) (k5 : Int32 → Int32 → Int32 → Option Int32) (l1 : Int32) (l2 : Int32) (l3 : Int32) : Option Int32 :=
  if ((B 1) 0) ≤ l3 then
    some l2
  else
    if ((l1 >>> (l3 &&& 31)) &&& (1 : Int32)) = 0 then
      c1 (FX2_lateOf B l3) fun r5 =>
      if l2 = (-6 : Int32) then
        FX2_latestExcept_44 B k5 l1 l2 l3 (0 : Int32) r5
      else
        c1 (FX2_lateOf B l2) fun r8 =>
        FX2_latestExcept_44 B k5 l1 l2 l3 r8 r5
    else
      lt1 (l3 + (1 : Int32)) fun x3 =>
      k5 l1 l2 x3
set_option maxRecDepth 100000 in
set_option maxHeartbeats 4000000 in
theorem wX2_latestExcept_5s {E : WE} {V : VT} {A : Nat → Prop} {H0 : Heap} {M : Mem} {j : Nat} (hj : j < 11) (Cx : CX E RX2 cX2_latestExcept 4 2 61) {r : Int32} {B : Blk} (hret : RetI E V A H0 cX2_latestExcept .int r (jb M j B)) {k5 : Int32 → Int32 → Int32 → Option Int32} (hk5 : ∀ {H : Heap} {locs : List Loc} {ls : Array Slot} {l1 : Int32} {l2 : Int32} {l3 : Int32}, Wd V A H0 (jb M j B) (eS E) H locs → lv_has ls 4 [(0, .ref (vA V j 0)), (1, .int l1), (2, .int l2), (3, .int l3)] → k5 l1 l2 l3 = some r → Wq E H locs 5 ls []) {H : Heap} {locs : List Loc} {ls : Array Slot} {l1 : Int32} {l2 : Int32} {l3 : Int32} (hW : Wd V A H0 (jb M j B) (eS E) H locs) (hl : lv_has ls 4 [(0, .ref (vA V j 0)), (1, .int l1), (2, .int l2), (3, .int l3)]) (hF : FX2_latestExcept_5s B k5 l1 l2 l3 = some r) : Wq E H locs 5 ls [] := by
  unfold FX2_latestExcept_5s at hF
  refine q_iload_n Cx dX2_latestExcept_5 rfl (lv_at hl 3 rfl) ?_
  refine q_aload_n Cx dX2_latestExcept_6 rfl (lv_at hl 0 rfl) ?_
  refine q_get (v := .ref (vA V j 1)) Cx hW (oM hj) ic2 0 (by decide) rfl wd_166 dX2_latestExcept_7 ?_
  refine qb_get (v := .int ((B 1) 0)) Cx hW (oP hj) ic4 0 (by decide) rfl wd_97 dX2_latestExcept_10 ?_
  refine q_icmp_ge (tgt := 55) Cx dX2_latestExcept_13 (by decide) (fun c1 => ?_) (fun c1 => ?_)
  · have hF := (if_pos c1).symm.trans hF
    refine q_iload_n Cx dX2_latestExcept_55 rfl (lv_at hl 2 rfl) ?_
    cases hF
    exact hret _ _ _ _ dX2_latestExcept_56 (nI32 _) hW
  · have hF := (if_neg c1).symm.trans hF
    refine q_iload_n Cx dX2_latestExcept_16 rfl (lv_at hl 1 rfl) ?_
    refine q_iload_n Cx dX2_latestExcept_17 rfl (lv_at hl 3 rfl) ?_
    refine q_ishr Cx dX2_latestExcept_18 ?_
    refine q_iconst (v := (1 : Int32)) Cx dX2_latestExcept_19 (by decide) ?_
    refine q_iand Cx dX2_latestExcept_20 ?_
    refine q_if_ne (tgt := 49) Cx dX2_latestExcept_21 (by decide) (fun c2 => ?_) (fun c2 => ?_)
    · have hF := (if_neg c2).symm.trans hF
      obtain ⟨x3, e4, hF⟩ := lt1_some hF
      refine q_iinc (k := 3) (v := x3) (lv' := [(3, .int x3), (0, .ref (vA V j 0)), (1, .int l1), (2, .int l2)]) Cx dX2_latestExcept_49 hl rfl e4.symm (by decide) rfl (fun ls hl => ?_)
      refine q_goto (tgt := 5) Cx dX2_latestExcept_52 (by decide) ?_
      exact hk5 hW (lv_sub hl [1, 2, 3, 0] rfl) hF
    · have hF := (if_pos c2).symm.trans hF
      refine q_aload_n Cx dX2_latestExcept_24 rfl (lv_at hl 0 rfl) ?_
      refine q_iload_n Cx dX2_latestExcept_25 rfl (lv_at hl 3 rfl) ?_
      obtain ⟨r5, e6, hF⟩ := c1_some hF
      refine q_callI (as := [.int l3]) (rest := []) Cx (kX2_lateOf hj e6) okX2_lateOf ovX2_lateOf wd_386 ⟨rfl, rfl, by decide, by decide⟩ hW (oM hj) ic2 rfl hl.1 (Nat.le_of_ble_eq_true rfl) rfl dX2_latestExcept_26 (fun H locs hW => ?_)
      refine q_iload_n Cx dX2_latestExcept_29 rfl (lv_at hl 2 rfl) ?_
      refine q_bipush (v := (-6 : Int32)) Cx dX2_latestExcept_30 (by decide) ?_
      refine q_icmp_ne (tgt := 39) Cx dX2_latestExcept_32 (by decide) (fun c7 => ?_) (fun c7 => ?_)
      · have hF := (if_neg c7).symm.trans hF
        refine q_aload_n Cx dX2_latestExcept_39 rfl (lv_at hl 0 rfl) ?_
        refine q_iload_n Cx dX2_latestExcept_40 rfl (lv_at hl 2 rfl) ?_
        obtain ⟨r8, e9, hF⟩ := c1_some hF
        refine q_callI (as := [.int l2]) (rest := [.int r5]) Cx (kX2_lateOf hj e9) okX2_lateOf ovX2_lateOf wd_386 ⟨rfl, rfl, by decide, by decide⟩ hW (oM hj) ic2 rfl hl.1 (Nat.le_of_ble_eq_true rfl) rfl dX2_latestExcept_41 (fun H locs hW => ?_)
        exact wX2_latestExcept_44 hj Cx hret hk5 hW (lv_sub hl [0, 1, 2, 3] rfl) hF
      · have hF := (if_pos c7).symm.trans hF
        refine q_iconst (v := (0 : Int32)) Cx dX2_latestExcept_35 (by decide) ?_
        refine q_goto (tgt := 44) Cx dX2_latestExcept_36 (by decide) ?_
        exact wX2_latestExcept_44 hj Cx hret hk5 hW (lv_sub hl [0, 1, 2, 3] rfl) hF
def FX2_latestExcept_5 (B : Blk) : Nat → Int32 → Int32 → Int32 → Option Int32
  | 0 => fun _ _ _ => none
  | n + 1 => FX2_latestExcept_5s B (FX2_latestExcept_5 B n)
set_option maxRecDepth 100000 in
theorem wX2_latestExcept_5 {E : WE} {V : VT} {A : Nat → Prop} {H0 : Heap} {M : Mem} {j : Nat} (hj : j < 11) (Cx : CX E RX2 cX2_latestExcept 4 2 61) {r : Int32} {B : Blk} (hret : RetI E V A H0 cX2_latestExcept .int r (jb M j B)) : ∀ (n : Nat) {H : Heap} {locs : List Loc} {ls : Array Slot} {l1 : Int32} {l2 : Int32} {l3 : Int32}, Wd V A H0 (jb M j B) (eS E) H locs → lv_has ls 4 [(0, .ref (vA V j 0)), (1, .int l1), (2, .int l2), (3, .int l3)] → FX2_latestExcept_5 B n l1 l2 l3 = some r → Wq E H locs 5 ls [] := by
  intro n
  induction n with
  | zero => intro _ _ _ _ _ _ hW hl hF; cases hF
  | succ n ih => intro _ _ _ _ _ _ hW hl hF; exact wX2_latestExcept_5s hj Cx hret ih hW hl hF
def FX2_latestExcept (B : Blk) (l1 : Int32) : Option Int32 :=
  FX2_latestExcept_5 B fu l1 (-6 : Int32) (0 : Int32)
set_option maxRecDepth 100000 in
set_option maxHeartbeats 4000000 in
theorem wX2_latestExcept {E : WE} {V : VT} {A : Nat → Prop} {H0 : Heap} {M : Mem} {j : Nat} (hj : j < 11) (Cx : CX E RX2 cX2_latestExcept 4 2 61) {r : Int32} {B : Blk} (hret : RetI E V A H0 cX2_latestExcept .int r (jb M j B)) {H : Heap} {locs : List Loc} {ls : Array Slot} {l1 : Int32} (hW : Wd V A H0 (jb M j B) (eS E) H locs) (hl : lv_has ls 4 [(0, .ref (vA V j 0)), (1, .int l1)]) (hF : FX2_latestExcept B l1 = some r) : Wq E H locs 0 ls [] := by
  unfold FX2_latestExcept at hF
  refine q_bipush (v := (-6 : Int32)) Cx dX2_latestExcept_0 (by decide) ?_
  refine q_istore_n (lv' := [(2, .int (-6 : Int32)), (0, .ref (vA V j 0)), (1, .int l1)]) Cx dX2_latestExcept_2 rfl hl (by decide) rfl (fun ls hl => ?_)
  refine q_iconst (v := (0 : Int32)) Cx dX2_latestExcept_3 (by decide) ?_
  refine q_istore_n (lv' := [(3, .int (0 : Int32)), (2, .int (-6 : Int32)), (0, .ref (vA V j 0)), (1, .int l1)]) Cx dX2_latestExcept_4 rfl hl (by decide) rfl (fun ls hl => ?_)
  exact wX2_latestExcept_5 hj Cx hret fu hW (lv_sub hl [2, 3, 1, 0] rfl) hF
set_option maxRecDepth 100000 in
theorem kX2_latestExcept {l : Launch} {V : VT} {M : Mem} {j : Nat} (hj : j < 11) {B : Blk} {l1 : Int32} {r : Int32} (hF : FX2_latestExcept B l1 = some r) : MetI l V yX2_latestExcept cX2_latestExcept 4 .int ({ frames := 2, cells := 0, slots := 0, locals := 61 } : Room) [.ref (vA V j 0), .int l1] r (jb M j B) (jb M j B) := metI_of (by decide) (Nat.le_of_ble_eq_true rfl) (fun E H0 _ Cx hret H locs ls hW hl => wX2_latestExcept hj Cx hret hW hl hF)
theorem dX2_isInReach_0 : decode cX2_isInReach 0 = .ok (.aload_n 0, 1) := by decide +kernel
theorem dX2_isInReach_1 : decode cX2_isInReach 1 = .ok (.getfield 12, 3) := by decide +kernel
theorem dX2_isInReach_4 : decode cX2_isInReach 4 = .ok (.getfield 144, 3) := by decide +kernel
theorem dX2_isInReach_7 : decode cX2_isInReach 7 = .ok (.iload_n 1, 1) := by decide +kernel
theorem dX2_isInReach_8 : decode cX2_isInReach 8 = .ok (.iaload, 1) := by decide +kernel
theorem dX2_isInReach_9 : decode cX2_isInReach 9 = .ok (.istore_n 2, 1) := by decide +kernel
theorem dX2_isInReach_10 : decode cX2_isInReach 10 = .ok (.aload_n 0, 1) := by decide +kernel
theorem dX2_isInReach_11 : decode cX2_isInReach 11 = .ok (.getfield 39, 3) := by decide +kernel
theorem dX2_isInReach_14 : decode cX2_isInReach 14 = .ok (.iload_n 1, 1) := by decide +kernel
theorem dX2_isInReach_15 : decode cX2_isInReach 15 = .ok (.iaload, 1) := by decide +kernel
theorem dX2_isInReach_16 : decode cX2_isInReach 16 = .ok (.ifCond .le 21, 3) := by decide +kernel
theorem dX2_isInReach_19 : decode cX2_isInReach 19 = .ok (.iload_n 2, 1) := by decide +kernel
theorem dX2_isInReach_20 : decode cX2_isInReach 20 = .ok (.bipush (-6), 2) := by decide +kernel
theorem dX2_isInReach_22 : decode cX2_isInReach 22 = .ok (.if_icmp .eq 15, 3) := by decide +kernel
theorem dX2_isInReach_25 : decode cX2_isInReach 25 = .ok (.iload_n 2, 1) := by decide +kernel
theorem dX2_isInReach_26 : decode cX2_isInReach 26 = .ok (.aload_n 0, 1) := by decide +kernel
theorem dX2_isInReach_27 : decode cX2_isInReach 27 = .ok (.getfield 29, 3) := by decide +kernel
theorem dX2_isInReach_30 : decode cX2_isInReach 30 = .ok (.if_icmp .gt 7, 3) := by decide +kernel
theorem dX2_isInReach_33 : decode cX2_isInReach 33 = .ok (.iconst 1, 1) := by decide +kernel
theorem dX2_isInReach_34 : decode cX2_isInReach 34 = .ok (.goto 4, 3) := by decide +kernel
theorem dX2_isInReach_37 : decode cX2_isInReach 37 = .ok (.iconst 0, 1) := by decide +kernel
theorem dX2_isInReach_38 : decode cX2_isInReach 38 = .ok (.ireturn, 1) := by decide +kernel
theorem okX2_isInReach : CalOK yX2_isInReach cX2_isInReach 3 (some .boolean) 1 := ⟨wd_68, wd_410, by decide +kernel⟩
theorem ovX2_isInReach : VirOK yX2_isInReach := ⟨wd_409, wd_5⟩
def FX2_isInReach (B : Blk) (l1 : Int32) : Option Int32 :=
  ld (B 11) 24 l1 fun v1 =>
  ld (B 18) 24 l1 fun v4 =>
  if v4 ≤ 0 then
    some (0 : Int32)
  else
    if v1 = (-6 : Int32) then
      some (0 : Int32)
    else
      if ((B 0) 3) < v1 then
        some (0 : Int32)
      else
        some (1 : Int32)
set_option maxRecDepth 100000 in
set_option maxHeartbeats 4000000 in
theorem wX2_isInReach {E : WE} {V : VT} {A : Nat → Prop} {H0 : Heap} {M : Mem} {j : Nat} (hj : j < 11) (Cx : CX E RX2 cX2_isInReach 3 0 0) {r : Int32} {B : Blk} (hret : RetI E V A H0 cX2_isInReach .boolean r (jb M j B)) {H : Heap} {locs : List Loc} {ls : Array Slot} {l1 : Int32} (hW : Wd V A H0 (jb M j B) (eS E) H locs) (hl : lv_has ls 3 [(0, .ref (vA V j 0)), (1, .int l1)]) (hF : FX2_isInReach B l1 = some r) : Wq E H locs 0 ls [] := by
  unfold FX2_isInReach at hF
  refine q_aload_n Cx dX2_isInReach_0 rfl (lv_at hl 0 rfl) ?_
  refine q_get (v := .ref (vA V j 1)) Cx hW (oM hj) ic2 0 (by decide) rfl wd_166 dX2_isInReach_1 ?_
  refine q_get (v := .ref (vA V j 11)) Cx hW (oP hj) ic4 9 (by decide) rfl wd_114 dX2_isInReach_4 ?_
  refine q_iload_n Cx dX2_isInReach_7 rfl (lv_at hl 1 rfl) ?_
  obtain ⟨h2, v1, e3, hF⟩ := ld_some hF
  refine qb_iald Cx hW (ai_11 hj) h2 e3 dX2_isInReach_8 ?_
  refine q_istore_n (lv' := [(2, .int v1), (0, .ref (vA V j 0)), (1, .int l1)]) Cx dX2_isInReach_9 rfl hl (by decide) rfl (fun ls hl => ?_)
  refine q_aload_n Cx dX2_isInReach_10 rfl (lv_at hl 1 rfl) ?_
  refine q_get (v := .ref (vA V j 18)) Cx hW (oM hj) ic2 6 (by decide) rfl wd_176 dX2_isInReach_11 ?_
  refine q_iload_n Cx dX2_isInReach_14 rfl (lv_at hl 2 rfl) ?_
  obtain ⟨h5, v4, e6, hF⟩ := ld_some hF
  refine qb_iald Cx hW (ai_18 hj) h5 e6 dX2_isInReach_15 ?_
  refine q_if_le (tgt := 37) Cx dX2_isInReach_16 (by decide) (fun c7 => ?_) (fun c7 => ?_)
  · have hF := (if_pos c7).symm.trans hF
    refine q_iconst (v := (0 : Int32)) Cx dX2_isInReach_37 (by decide) ?_
    cases hF
    exact hret _ _ _ _ dX2_isInReach_38 (by rfl) hW
  · have hF := (if_neg c7).symm.trans hF
    refine q_iload_n Cx dX2_isInReach_19 rfl (lv_at hl 0 rfl) ?_
    refine q_bipush (v := (-6 : Int32)) Cx dX2_isInReach_20 (by decide) ?_
    refine q_icmp_eq (tgt := 37) Cx dX2_isInReach_22 (by decide) (fun c8 => ?_) (fun c8 => ?_)
    · have hF := (if_pos c8).symm.trans hF
      refine q_iconst (v := (0 : Int32)) Cx dX2_isInReach_37 (by decide) ?_
      cases hF
      exact hret _ _ _ _ dX2_isInReach_38 (by rfl) hW
    · have hF := (if_neg c8).symm.trans hF
      refine q_iload_n Cx dX2_isInReach_25 rfl (lv_at hl 0 rfl) ?_
      refine q_aload_n Cx dX2_isInReach_26 rfl (lv_at hl 1 rfl) ?_
      refine qb_get (v := .int ((B 0) 3)) Cx hW (oM hj) ic2 3 (by decide) rfl wd_171 dX2_isInReach_27 ?_
      refine q_icmp_gt (tgt := 37) Cx dX2_isInReach_30 (by decide) (fun c9 => ?_) (fun c9 => ?_)
      · have hF := (if_pos c9).symm.trans hF
        refine q_iconst (v := (0 : Int32)) Cx dX2_isInReach_37 (by decide) ?_
        cases hF
        exact hret _ _ _ _ dX2_isInReach_38 (by rfl) hW
      · have hF := (if_neg c9).symm.trans hF
        refine q_iconst (v := (1 : Int32)) Cx dX2_isInReach_33 (by decide) ?_
        refine q_goto (tgt := 38) Cx dX2_isInReach_34 (by decide) ?_
        cases hF
        exact hret _ _ _ _ dX2_isInReach_38 (by rfl) hW
set_option maxRecDepth 100000 in
theorem kX2_isInReach {l : Launch} {V : VT} {M : Mem} {j : Nat} (hj : j < 11) {B : Blk} {l1 : Int32} {r : Int32} (hF : FX2_isInReach B l1 = some r) : MetI l V yX2_isInReach cX2_isInReach 3 .boolean ({ frames := 0, cells := 0, slots := 0, locals := 0 } : Room) [.ref (vA V j 0), .int l1] r (jb M j B) (jb M j B) := metI_of (by decide) (Nat.le_of_ble_eq_true rfl) (fun E H0 _ Cx hret H locs ls hW hl => wX2_isInReach hj Cx hret hW hl hF)
theorem dX2_isBetterSeller_0 : decode cX2_isBetterSeller 0 = .ok (.aload_n 0, 1) := by decide +kernel
theorem dX2_isBetterSeller_1 : decode cX2_isBetterSeller 1 = .ok (.getfield 42, 3) := by decide +kernel
theorem dX2_isBetterSeller_4 : decode cX2_isBetterSeller 4 = .ok (.iload_n 1, 1) := by decide +kernel
theorem dX2_isBetterSeller_5 : decode cX2_isBetterSeller 5 = .ok (.iaload, 1) := by decide +kernel
theorem dX2_isBetterSeller_6 : decode cX2_isBetterSeller 6 = .ok (.aload_n 0, 1) := by decide +kernel
theorem dX2_isBetterSeller_7 : decode cX2_isBetterSeller 7 = .ok (.getfield 42, 3) := by decide +kernel
theorem dX2_isBetterSeller_10 : decode cX2_isBetterSeller 10 = .ok (.iload_n 2, 1) := by decide +kernel
theorem dX2_isBetterSeller_11 : decode cX2_isBetterSeller 11 = .ok (.iaload, 1) := by decide +kernel
theorem dX2_isBetterSeller_12 : decode cX2_isBetterSeller 12 = .ok (.if_icmp .eq 24, 3) := by decide +kernel
theorem dX2_isBetterSeller_15 : decode cX2_isBetterSeller 15 = .ok (.aload_n 0, 1) := by decide +kernel
theorem dX2_isBetterSeller_16 : decode cX2_isBetterSeller 16 = .ok (.getfield 42, 3) := by decide +kernel
theorem dX2_isBetterSeller_19 : decode cX2_isBetterSeller 19 = .ok (.iload_n 1, 1) := by decide +kernel
theorem dX2_isBetterSeller_20 : decode cX2_isBetterSeller 20 = .ok (.iaload, 1) := by decide +kernel
theorem dX2_isBetterSeller_21 : decode cX2_isBetterSeller 21 = .ok (.aload_n 0, 1) := by decide +kernel
theorem dX2_isBetterSeller_22 : decode cX2_isBetterSeller 22 = .ok (.getfield 42, 3) := by decide +kernel
theorem dX2_isBetterSeller_25 : decode cX2_isBetterSeller 25 = .ok (.iload_n 2, 1) := by decide +kernel
theorem dX2_isBetterSeller_26 : decode cX2_isBetterSeller 26 = .ok (.iaload, 1) := by decide +kernel
theorem dX2_isBetterSeller_27 : decode cX2_isBetterSeller 27 = .ok (.if_icmp .ge 7, 3) := by decide +kernel
theorem dX2_isBetterSeller_30 : decode cX2_isBetterSeller 30 = .ok (.iconst 1, 1) := by decide +kernel
theorem dX2_isBetterSeller_31 : decode cX2_isBetterSeller 31 = .ok (.goto 4, 3) := by decide +kernel
theorem dX2_isBetterSeller_34 : decode cX2_isBetterSeller 34 = .ok (.iconst 0, 1) := by decide +kernel
theorem dX2_isBetterSeller_35 : decode cX2_isBetterSeller 35 = .ok (.ireturn, 1) := by decide +kernel
theorem dX2_isBetterSeller_36 : decode cX2_isBetterSeller 36 = .ok (.aload_n 0, 1) := by decide +kernel
theorem dX2_isBetterSeller_37 : decode cX2_isBetterSeller 37 = .ok (.getfield 12, 3) := by decide +kernel
theorem dX2_isBetterSeller_40 : decode cX2_isBetterSeller 40 = .ok (.getfield 144, 3) := by decide +kernel
theorem dX2_isBetterSeller_43 : decode cX2_isBetterSeller 43 = .ok (.iload_n 1, 1) := by decide +kernel
theorem dX2_isBetterSeller_44 : decode cX2_isBetterSeller 44 = .ok (.iaload, 1) := by decide +kernel
theorem dX2_isBetterSeller_45 : decode cX2_isBetterSeller 45 = .ok (.aload_n 0, 1) := by decide +kernel
theorem dX2_isBetterSeller_46 : decode cX2_isBetterSeller 46 = .ok (.getfield 12, 3) := by decide +kernel
theorem dX2_isBetterSeller_49 : decode cX2_isBetterSeller 49 = .ok (.getfield 144, 3) := by decide +kernel
theorem dX2_isBetterSeller_52 : decode cX2_isBetterSeller 52 = .ok (.iload_n 2, 1) := by decide +kernel
theorem dX2_isBetterSeller_53 : decode cX2_isBetterSeller 53 = .ok (.iaload, 1) := by decide +kernel
theorem dX2_isBetterSeller_54 : decode cX2_isBetterSeller 54 = .ok (.if_icmp .ge 7, 3) := by decide +kernel
theorem dX2_isBetterSeller_57 : decode cX2_isBetterSeller 57 = .ok (.iconst 1, 1) := by decide +kernel
theorem dX2_isBetterSeller_58 : decode cX2_isBetterSeller 58 = .ok (.goto 4, 3) := by decide +kernel
theorem dX2_isBetterSeller_61 : decode cX2_isBetterSeller 61 = .ok (.iconst 0, 1) := by decide +kernel
theorem dX2_isBetterSeller_62 : decode cX2_isBetterSeller 62 = .ok (.ireturn, 1) := by decide +kernel
theorem okX2_isBetterSeller : CalOK yX2_isBetterSeller cX2_isBetterSeller 3 (some .boolean) 2 := ⟨wd_68, wd_414, by decide +kernel⟩
theorem ovX2_isBetterSeller : VirOK yX2_isBetterSeller := ⟨wd_413, wd_6⟩
def FX2_isBetterSeller (B : Blk) (l1 : Int32) (l2 : Int32) : Option Int32 :=
  ld (B 19) 24 l1 fun v1 =>
  ld (B 19) 24 l2 fun v4 =>
  if v1 = v4 then
    ld (B 11) 24 l1 fun v8 =>
    ld (B 11) 24 l2 fun v11 =>
    if v11 ≤ v8 then
      some (0 : Int32)
    else
      some (1 : Int32)
  else
    ld (B 19) 24 l1 fun v15 =>
    ld (B 19) 24 l2 fun v18 =>
    if v18 ≤ v15 then
      some (0 : Int32)
    else
      some (1 : Int32)
set_option maxRecDepth 100000 in
set_option maxHeartbeats 4000000 in
theorem wX2_isBetterSeller {E : WE} {V : VT} {A : Nat → Prop} {H0 : Heap} {M : Mem} {j : Nat} (hj : j < 11) (Cx : CX E RX2 cX2_isBetterSeller 3 0 0) {r : Int32} {B : Blk} (hret : RetI E V A H0 cX2_isBetterSeller .boolean r (jb M j B)) {H : Heap} {locs : List Loc} {ls : Array Slot} {l1 : Int32} {l2 : Int32} (hW : Wd V A H0 (jb M j B) (eS E) H locs) (hl : lv_has ls 3 [(0, .ref (vA V j 0)), (1, .int l1), (2, .int l2)]) (hF : FX2_isBetterSeller B l1 l2 = some r) : Wq E H locs 0 ls [] := by
  unfold FX2_isBetterSeller at hF
  refine q_aload_n Cx dX2_isBetterSeller_0 rfl (lv_at hl 0 rfl) ?_
  refine q_get (v := .ref (vA V j 19)) Cx hW (oM hj) ic2 7 (by decide) rfl wd_177 dX2_isBetterSeller_1 ?_
  refine q_iload_n Cx dX2_isBetterSeller_4 rfl (lv_at hl 1 rfl) ?_
  obtain ⟨h2, v1, e3, hF⟩ := ld_some hF
  refine qb_iald Cx hW (ai_19 hj) h2 e3 dX2_isBetterSeller_5 ?_
  refine q_aload_n Cx dX2_isBetterSeller_6 rfl (lv_at hl 0 rfl) ?_
  refine q_get (v := .ref (vA V j 19)) Cx hW (oM hj) ic2 7 (by decide) rfl wd_177 dX2_isBetterSeller_7 ?_
  refine q_iload_n Cx dX2_isBetterSeller_10 rfl (lv_at hl 2 rfl) ?_
  obtain ⟨h5, v4, e6, hF⟩ := ld_some hF
  refine qb_iald Cx hW (ai_19 hj) h5 e6 dX2_isBetterSeller_11 ?_
  refine q_icmp_eq (tgt := 36) Cx dX2_isBetterSeller_12 (by decide) (fun c7 => ?_) (fun c7 => ?_)
  · have hF := (if_pos c7).symm.trans hF
    refine q_aload_n Cx dX2_isBetterSeller_36 rfl (lv_at hl 0 rfl) ?_
    refine q_get (v := .ref (vA V j 1)) Cx hW (oM hj) ic2 0 (by decide) rfl wd_166 dX2_isBetterSeller_37 ?_
    refine q_get (v := .ref (vA V j 11)) Cx hW (oP hj) ic4 9 (by decide) rfl wd_114 dX2_isBetterSeller_40 ?_
    refine q_iload_n Cx dX2_isBetterSeller_43 rfl (lv_at hl 1 rfl) ?_
    obtain ⟨h9, v8, e10, hF⟩ := ld_some hF
    refine qb_iald Cx hW (ai_11 hj) h9 e10 dX2_isBetterSeller_44 ?_
    refine q_aload_n Cx dX2_isBetterSeller_45 rfl (lv_at hl 0 rfl) ?_
    refine q_get (v := .ref (vA V j 1)) Cx hW (oM hj) ic2 0 (by decide) rfl wd_166 dX2_isBetterSeller_46 ?_
    refine q_get (v := .ref (vA V j 11)) Cx hW (oP hj) ic4 9 (by decide) rfl wd_114 dX2_isBetterSeller_49 ?_
    refine q_iload_n Cx dX2_isBetterSeller_52 rfl (lv_at hl 2 rfl) ?_
    obtain ⟨h12, v11, e13, hF⟩ := ld_some hF
    refine qb_iald Cx hW (ai_11 hj) h12 e13 dX2_isBetterSeller_53 ?_
    refine q_icmp_ge (tgt := 61) Cx dX2_isBetterSeller_54 (by decide) (fun c14 => ?_) (fun c14 => ?_)
    · have hF := (if_pos c14).symm.trans hF
      refine q_iconst (v := (0 : Int32)) Cx dX2_isBetterSeller_61 (by decide) ?_
      cases hF
      exact hret _ _ _ _ dX2_isBetterSeller_62 (by rfl) hW
    · have hF := (if_neg c14).symm.trans hF
      refine q_iconst (v := (1 : Int32)) Cx dX2_isBetterSeller_57 (by decide) ?_
      refine q_goto (tgt := 62) Cx dX2_isBetterSeller_58 (by decide) ?_
      cases hF
      exact hret _ _ _ _ dX2_isBetterSeller_62 (by rfl) hW
  · have hF := (if_neg c7).symm.trans hF
    refine q_aload_n Cx dX2_isBetterSeller_15 rfl (lv_at hl 0 rfl) ?_
    refine q_get (v := .ref (vA V j 19)) Cx hW (oM hj) ic2 7 (by decide) rfl wd_177 dX2_isBetterSeller_16 ?_
    refine q_iload_n Cx dX2_isBetterSeller_19 rfl (lv_at hl 1 rfl) ?_
    obtain ⟨h16, v15, e17, hF⟩ := ld_some hF
    refine qb_iald Cx hW (ai_19 hj) h16 e17 dX2_isBetterSeller_20 ?_
    refine q_aload_n Cx dX2_isBetterSeller_21 rfl (lv_at hl 0 rfl) ?_
    refine q_get (v := .ref (vA V j 19)) Cx hW (oM hj) ic2 7 (by decide) rfl wd_177 dX2_isBetterSeller_22 ?_
    refine q_iload_n Cx dX2_isBetterSeller_25 rfl (lv_at hl 2 rfl) ?_
    obtain ⟨h19, v18, e20, hF⟩ := ld_some hF
    refine qb_iald Cx hW (ai_19 hj) h19 e20 dX2_isBetterSeller_26 ?_
    refine q_icmp_ge (tgt := 34) Cx dX2_isBetterSeller_27 (by decide) (fun c21 => ?_) (fun c21 => ?_)
    · have hF := (if_pos c21).symm.trans hF
      refine q_iconst (v := (0 : Int32)) Cx dX2_isBetterSeller_34 (by decide) ?_
      cases hF
      exact hret _ _ _ _ dX2_isBetterSeller_35 (by rfl) hW
    · have hF := (if_neg c21).symm.trans hF
      refine q_iconst (v := (1 : Int32)) Cx dX2_isBetterSeller_30 (by decide) ?_
      refine q_goto (tgt := 35) Cx dX2_isBetterSeller_31 (by decide) ?_
      cases hF
      exact hret _ _ _ _ dX2_isBetterSeller_35 (by rfl) hW
set_option maxRecDepth 100000 in
theorem kX2_isBetterSeller {l : Launch} {V : VT} {M : Mem} {j : Nat} (hj : j < 11) {B : Blk} {l1 : Int32} {l2 : Int32} {r : Int32} (hF : FX2_isBetterSeller B l1 l2 = some r) : MetI l V yX2_isBetterSeller cX2_isBetterSeller 3 .boolean ({ frames := 0, cells := 0, slots := 0, locals := 0 } : Room) [.ref (vA V j 0), .int l1, .int l2] r (jb M j B) (jb M j B) := metI_of (by decide) (Nat.le_of_ble_eq_true rfl) (fun E H0 _ Cx hret H locs ls hW hl => wX2_isBetterSeller hj Cx hret hW hl hF)
theorem dX2_bestSellerExcept_0 : decode cX2_bestSellerExcept 0 = .ok (.bipush (-6), 2) := by decide +kernel
theorem dX2_bestSellerExcept_2 : decode cX2_bestSellerExcept 2 = .ok (.istore_n 2, 1) := by decide +kernel
theorem dX2_bestSellerExcept_3 : decode cX2_bestSellerExcept 3 = .ok (.iconst 0, 1) := by decide +kernel
theorem dX2_bestSellerExcept_4 : decode cX2_bestSellerExcept 4 = .ok (.istore_n 3, 1) := by decide +kernel
theorem dX2_bestSellerExcept_5 : decode cX2_bestSellerExcept 5 = .ok (.iload_n 3, 1) := by decide +kernel
theorem dX2_bestSellerExcept_6 : decode cX2_bestSellerExcept 6 = .ok (.aload_n 0, 1) := by decide +kernel
theorem dX2_bestSellerExcept_7 : decode cX2_bestSellerExcept 7 = .ok (.getfield 12, 3) := by decide +kernel
theorem dX2_bestSellerExcept_10 : decode cX2_bestSellerExcept 10 = .ok (.getfield 66, 3) := by decide +kernel
theorem dX2_bestSellerExcept_13 : decode cX2_bestSellerExcept 13 = .ok (.if_icmp .ge 42, 3) := by decide +kernel
theorem dX2_bestSellerExcept_16 : decode cX2_bestSellerExcept 16 = .ok (.iload_n 1, 1) := by decide +kernel
theorem dX2_bestSellerExcept_17 : decode cX2_bestSellerExcept 17 = .ok (.iload_n 3, 1) := by decide +kernel
theorem dX2_bestSellerExcept_18 : decode cX2_bestSellerExcept 18 = .ok (.ishr, 1) := by decide +kernel
theorem dX2_bestSellerExcept_19 : decode cX2_bestSellerExcept 19 = .ok (.iconst 1, 1) := by decide +kernel
theorem dX2_bestSellerExcept_20 : decode cX2_bestSellerExcept 20 = .ok (.iand, 1) := by decide +kernel
theorem dX2_bestSellerExcept_21 : decode cX2_bestSellerExcept 21 = .ok (.ifCond .ne 28, 3) := by decide +kernel
theorem dX2_bestSellerExcept_24 : decode cX2_bestSellerExcept 24 = .ok (.aload_n 0, 1) := by decide +kernel
theorem dX2_bestSellerExcept_25 : decode cX2_bestSellerExcept 25 = .ok (.iload_n 3, 1) := by decide +kernel
theorem dX2_bestSellerExcept_26 : decode cX2_bestSellerExcept 26 = .ok (.invokevirtual 137, 3) := by decide +kernel
theorem dX2_bestSellerExcept_29 : decode cX2_bestSellerExcept 29 = .ok (.ifCond .eq 20, 3) := by decide +kernel
theorem dX2_bestSellerExcept_32 : decode cX2_bestSellerExcept 32 = .ok (.iload_n 2, 1) := by decide +kernel
theorem dX2_bestSellerExcept_33 : decode cX2_bestSellerExcept 33 = .ok (.bipush (-6), 2) := by decide +kernel
theorem dX2_bestSellerExcept_35 : decode cX2_bestSellerExcept 35 = .ok (.if_icmp .eq 12, 3) := by decide +kernel
theorem dX2_bestSellerExcept_38 : decode cX2_bestSellerExcept 38 = .ok (.aload_n 0, 1) := by decide +kernel
theorem dX2_bestSellerExcept_39 : decode cX2_bestSellerExcept 39 = .ok (.iload_n 3, 1) := by decide +kernel
theorem dX2_bestSellerExcept_40 : decode cX2_bestSellerExcept 40 = .ok (.iload_n 2, 1) := by decide +kernel
theorem dX2_bestSellerExcept_41 : decode cX2_bestSellerExcept 41 = .ok (.invokevirtual 140, 3) := by decide +kernel
theorem dX2_bestSellerExcept_44 : decode cX2_bestSellerExcept 44 = .ok (.ifCond .eq 5, 3) := by decide +kernel
theorem dX2_bestSellerExcept_47 : decode cX2_bestSellerExcept 47 = .ok (.iload_n 3, 1) := by decide +kernel
theorem dX2_bestSellerExcept_48 : decode cX2_bestSellerExcept 48 = .ok (.istore_n 2, 1) := by decide +kernel
theorem dX2_bestSellerExcept_49 : decode cX2_bestSellerExcept 49 = .ok (.iinc 3 1, 3) := by decide +kernel
theorem dX2_bestSellerExcept_52 : decode cX2_bestSellerExcept 52 = .ok (.goto (-47), 3) := by decide +kernel
theorem dX2_bestSellerExcept_55 : decode cX2_bestSellerExcept 55 = .ok (.iload_n 2, 1) := by decide +kernel
theorem dX2_bestSellerExcept_56 : decode cX2_bestSellerExcept 56 = .ok (.ireturn, 1) := by decide +kernel
theorem okX2_bestSellerExcept : CalOK yX2_bestSellerExcept cX2_bestSellerExcept 4 (some .int) 1 := ⟨wd_68, wd_406, by decide +kernel⟩
theorem ovX2_bestSellerExcept : VirOK yX2_bestSellerExcept := ⟨wd_405, wd_4⟩
def FX2_bestSellerExcept_47 (B : Blk) (k5 : Int32 → Int32 → Int32 → Option Int32) (l1 : Int32) (l3 : Int32) : Option Int32 :=
  lt1 (l3 + (1 : Int32)) fun x11 =>
  k5 l1 l3 x11
set_option maxRecDepth 100000 in
set_option maxHeartbeats 4000000 in
theorem wX2_bestSellerExcept_47 {E : WE} {V : VT} {A : Nat → Prop} {H0 : Heap} {M : Mem} {j : Nat} (hj : j < 11) (Cx : CX E RX2 cX2_bestSellerExcept 4 1 22) {r : Int32} {B : Blk} (hret : RetI E V A H0 cX2_bestSellerExcept .int r (jb M j B)) {k5 : Int32 → Int32 → Int32 → Option Int32} (hk5 : ∀ {H : Heap} {locs : List Loc} {ls : Array Slot} {l1 : Int32} {l2 : Int32} {l3 : Int32}, Wd V A H0 (jb M j B) (eS E) H locs → lv_has ls 4 [(0, .ref (vA V j 0)), (1, .int l1), (2, .int l2), (3, .int l3)] → k5 l1 l2 l3 = some r → Wq E H locs 5 ls []) {H : Heap} {locs : List Loc} {ls : Array Slot} {l1 : Int32} {l3 : Int32} (hW : Wd V A H0 (jb M j B) (eS E) H locs) (hl : lv_has ls 4 [(0, .ref (vA V j 0)), (1, .int l1), (3, .int l3)]) (hF : FX2_bestSellerExcept_47 B k5 l1 l3 = some r) : Wq E H locs 47 ls [] := by
  unfold FX2_bestSellerExcept_47 at hF
  refine q_iload_n Cx dX2_bestSellerExcept_47 rfl (lv_at hl 2 rfl) ?_
  refine q_istore_n (lv' := [(2, .int l3), (0, .ref (vA V j 0)), (1, .int l1), (3, .int l3)]) Cx dX2_bestSellerExcept_48 rfl hl (by decide) rfl (fun ls hl => ?_)
  obtain ⟨x11, e12, hF⟩ := lt1_some hF
  refine q_iinc (k := 3) (v := x11) (lv' := [(3, .int x11), (2, .int l3), (0, .ref (vA V j 0)), (1, .int l1)]) Cx dX2_bestSellerExcept_49 hl rfl e12.symm (by decide) rfl (fun ls hl => ?_)
  refine q_goto (tgt := 5) Cx dX2_bestSellerExcept_52 (by decide) ?_
  exact hk5 hW (lv_sub hl [2, 3, 1, 0] rfl) hF
def FX2_bestSellerExcept_5s (B : Blk) (k5 : Int32 → Int32 → Int32 → Option Int32) (l1 : Int32) (l2 : Int32) (l3 : Int32) : Option Int32 :=
  if ((B 1) 0) ≤ l3 then
    some l2
  else
    if ((l1 >>> (l3 &&& 31)) &&& (1 : Int32)) = 0 then
      c1 (FX2_isInReach B l3) fun r5 =>
      if r5 = 0 then
        lt1 (l3 + (1 : Int32)) fun x8 =>
        k5 l1 l2 x8
      else
        if l2 = (-6 : Int32) then
          FX2_bestSellerExcept_47 B k5 l1 l3
        else
          c1 (FX2_isBetterSeller B l3 l2) fun r13 =>
          if r13 = 0 then
            lt1 (l3 + (1 : Int32)) fun x16 =>
            k5 l1 l2 x16
          else
            FX2_bestSellerExcept_47 B k5 l1 l3
    else
      lt1 (l3 + (1 : Int32)) fun x3 =>
      k5 l1 l2 x3
set_option maxRecDepth 100000 in
set_option maxHeartbeats 4000000 in
theorem wX2_bestSellerExcept_5s {E : WE} {V : VT} {A : Nat → Prop} {H0 : Heap} {M : Mem} {j : Nat} (hj : j < 11) (Cx : CX E RX2 cX2_bestSellerExcept 4 1 22) {r : Int32} {B : Blk} (hret : RetI E V A H0 cX2_bestSellerExcept .int r (jb M j B)) {k5 : Int32 → Int32 → Int32 → Option Int32} (hk5 : ∀ {H : Heap} {locs : List Loc} {ls : Array Slot} {l1 : Int32} {l2 : Int32} {l3 : Int32}, Wd V A H0 (jb M j B) (eS E) H locs → lv_has ls 4 [(0, .ref (vA V j 0)), (1, .int l1), (2, .int l2), (3, .int l3)] → k5 l1 l2 l3 = some r → Wq E H locs 5 ls []) {H : Heap} {locs : List Loc} {ls : Array Slot} {l1 : Int32} {l2 : Int32} {l3 : Int32} (hW : Wd V A H0 (jb M j B) (eS E) H locs) (hl : lv_has ls 4 [(0, .ref (vA V j 0)), (1, .int l1), (2, .int l2), (3, .int l3)]) (hF : FX2_bestSellerExcept_5s B k5 l1 l2 l3 = some r) : Wq E H locs 5 ls [] := by
  unfold FX2_bestSellerExcept_5s at hF
  refine q_iload_n Cx dX2_bestSellerExcept_5 rfl (lv_at hl 3 rfl) ?_
  refine q_aload_n Cx dX2_bestSellerExcept_6 rfl (lv_at hl 0 rfl) ?_
  refine q_get (v := .ref (vA V j 1)) Cx hW (oM hj) ic2 0 (by decide) rfl wd_166 dX2_bestSellerExcept_7 ?_
  refine qb_get (v := .int ((B 1) 0)) Cx hW (oP hj) ic4 0 (by decide) rfl wd_97 dX2_bestSellerExcept_10 ?_
  refine q_icmp_ge (tgt := 55) Cx dX2_bestSellerExcept_13 (by decide) (fun c1 => ?_) (fun c1 => ?_)
  · have hF := (if_pos c1).symm.trans hF
    refine q_iload_n Cx dX2_bestSellerExcept_55 rfl (lv_at hl 2 rfl) ?_
    cases hF
    exact hret _ _ _ _ dX2_bestSellerExcept_56 (nI32 _) hW
  · have hF := (if_neg c1).symm.trans hF
    refine q_iload_n Cx dX2_bestSellerExcept_16 rfl (lv_at hl 1 rfl) ?_
    refine q_iload_n Cx dX2_bestSellerExcept_17 rfl (lv_at hl 3 rfl) ?_
    refine q_ishr Cx dX2_bestSellerExcept_18 ?_
    refine q_iconst (v := (1 : Int32)) Cx dX2_bestSellerExcept_19 (by decide) ?_
    refine q_iand Cx dX2_bestSellerExcept_20 ?_
    refine q_if_ne (tgt := 49) Cx dX2_bestSellerExcept_21 (by decide) (fun c2 => ?_) (fun c2 => ?_)
    · have hF := (if_neg c2).symm.trans hF
      obtain ⟨x3, e4, hF⟩ := lt1_some hF
      refine q_iinc (k := 3) (v := x3) (lv' := [(3, .int x3), (0, .ref (vA V j 0)), (1, .int l1), (2, .int l2)]) Cx dX2_bestSellerExcept_49 hl rfl e4.symm (by decide) rfl (fun ls hl => ?_)
      refine q_goto (tgt := 5) Cx dX2_bestSellerExcept_52 (by decide) ?_
      exact hk5 hW (lv_sub hl [1, 2, 3, 0] rfl) hF
    · have hF := (if_pos c2).symm.trans hF
      refine q_aload_n Cx dX2_bestSellerExcept_24 rfl (lv_at hl 0 rfl) ?_
      refine q_iload_n Cx dX2_bestSellerExcept_25 rfl (lv_at hl 3 rfl) ?_
      obtain ⟨r5, e6, hF⟩ := c1_some hF
      refine q_callI (as := [.int l3]) (rest := []) Cx (kX2_isInReach hj e6) okX2_isInReach ovX2_isInReach wd_407 ⟨rfl, rfl, by decide, by decide⟩ hW (oM hj) ic2 rfl hl.1 (Nat.le_of_ble_eq_true rfl) rfl dX2_bestSellerExcept_26 (fun H locs hW => ?_)
      refine q_if_eq (tgt := 49) Cx dX2_bestSellerExcept_29 (by decide) (fun c7 => ?_) (fun c7 => ?_)
      · have hF := (if_pos c7).symm.trans hF
        obtain ⟨x8, e9, hF⟩ := lt1_some hF
        refine q_iinc (k := 3) (v := x8) (lv' := [(3, .int x8), (0, .ref (vA V j 0)), (1, .int l1), (2, .int l2)]) Cx dX2_bestSellerExcept_49 hl rfl e9.symm (by decide) rfl (fun ls hl => ?_)
        refine q_goto (tgt := 5) Cx dX2_bestSellerExcept_52 (by decide) ?_
        exact hk5 hW (lv_sub hl [1, 2, 3, 0] rfl) hF
      · have hF := (if_neg c7).symm.trans hF
        refine q_iload_n Cx dX2_bestSellerExcept_32 rfl (lv_at hl 2 rfl) ?_
        refine q_bipush (v := (-6 : Int32)) Cx dX2_bestSellerExcept_33 (by decide) ?_
        refine q_icmp_eq (tgt := 47) Cx dX2_bestSellerExcept_35 (by decide) (fun c10 => ?_) (fun c10 => ?_)
        · have hF := (if_pos c10).symm.trans hF
          exact wX2_bestSellerExcept_47 hj Cx hret hk5 hW (lv_sub hl [0, 1, 3] rfl) hF
        · have hF := (if_neg c10).symm.trans hF
          refine q_aload_n Cx dX2_bestSellerExcept_38 rfl (lv_at hl 0 rfl) ?_
          refine q_iload_n Cx dX2_bestSellerExcept_39 rfl (lv_at hl 3 rfl) ?_
          refine q_iload_n Cx dX2_bestSellerExcept_40 rfl (lv_at hl 2 rfl) ?_
          obtain ⟨r13, e14, hF⟩ := c1_some hF
          refine q_callI (as := [.int l3, .int l2]) (rest := []) Cx (kX2_isBetterSeller hj e14) okX2_isBetterSeller ovX2_isBetterSeller wd_411 ⟨rfl, rfl, by decide, by decide⟩ hW (oM hj) ic2 rfl hl.1 (Nat.le_of_ble_eq_true rfl) rfl dX2_bestSellerExcept_41 (fun H locs hW => ?_)
          refine q_if_eq (tgt := 49) Cx dX2_bestSellerExcept_44 (by decide) (fun c15 => ?_) (fun c15 => ?_)
          · have hF := (if_pos c15).symm.trans hF
            obtain ⟨x16, e17, hF⟩ := lt1_some hF
            refine q_iinc (k := 3) (v := x16) (lv' := [(3, .int x16), (0, .ref (vA V j 0)), (1, .int l1), (2, .int l2)]) Cx dX2_bestSellerExcept_49 hl rfl e17.symm (by decide) rfl (fun ls hl => ?_)
            refine q_goto (tgt := 5) Cx dX2_bestSellerExcept_52 (by decide) ?_
            exact hk5 hW (lv_sub hl [1, 2, 3, 0] rfl) hF
          · have hF := (if_neg c15).symm.trans hF
            exact wX2_bestSellerExcept_47 hj Cx hret hk5 hW (lv_sub hl [0, 1, 3] rfl) hF
def FX2_bestSellerExcept_5 (B : Blk) : Nat → Int32 → Int32 → Int32 → Option Int32
  | 0 => fun _ _ _ => none
  | n + 1 => FX2_bestSellerExcept_5s B (FX2_bestSellerExcept_5 B n)
set_option maxRecDepth 100000 in
theorem wX2_bestSellerExcept_5 {E : WE} {V : VT} {A : Nat → Prop} {H0 : Heap} {M : Mem} {j : Nat} (hj : j < 11) (Cx : CX E RX2 cX2_bestSellerExcept 4 1 22) {r : Int32} {B : Blk} (hret : RetI E V A H0 cX2_bestSellerExcept .int r (jb M j B)) : ∀ (n : Nat) {H : Heap} {locs : List Loc} {ls : Array Slot} {l1 : Int32} {l2 : Int32} {l3 : Int32}, Wd V A H0 (jb M j B) (eS E) H locs → lv_has ls 4 [(0, .ref (vA V j 0)), (1, .int l1), (2, .int l2), (3, .int l3)] → FX2_bestSellerExcept_5 B n l1 l2 l3 = some r → Wq E H locs 5 ls [] := by
  intro n
  induction n with
  | zero => intro _ _ _ _ _ _ hW hl hF; cases hF
  | succ n ih => intro _ _ _ _ _ _ hW hl hF; exact wX2_bestSellerExcept_5s hj Cx hret ih hW hl hF
def FX2_bestSellerExcept (B : Blk) (l1 : Int32) : Option Int32 :=
  FX2_bestSellerExcept_5 B fu l1 (-6 : Int32) (0 : Int32)
set_option maxRecDepth 100000 in
set_option maxHeartbeats 4000000 in
theorem wX2_bestSellerExcept {E : WE} {V : VT} {A : Nat → Prop} {H0 : Heap} {M : Mem} {j : Nat} (hj : j < 11) (Cx : CX E RX2 cX2_bestSellerExcept 4 1 22) {r : Int32} {B : Blk} (hret : RetI E V A H0 cX2_bestSellerExcept .int r (jb M j B)) {H : Heap} {locs : List Loc} {ls : Array Slot} {l1 : Int32} (hW : Wd V A H0 (jb M j B) (eS E) H locs) (hl : lv_has ls 4 [(0, .ref (vA V j 0)), (1, .int l1)]) (hF : FX2_bestSellerExcept B l1 = some r) : Wq E H locs 0 ls [] := by
  unfold FX2_bestSellerExcept at hF
  refine q_bipush (v := (-6 : Int32)) Cx dX2_bestSellerExcept_0 (by decide) ?_
  refine q_istore_n (lv' := [(2, .int (-6 : Int32)), (0, .ref (vA V j 0)), (1, .int l1)]) Cx dX2_bestSellerExcept_2 rfl hl (by decide) rfl (fun ls hl => ?_)
  refine q_iconst (v := (0 : Int32)) Cx dX2_bestSellerExcept_3 (by decide) ?_
  refine q_istore_n (lv' := [(3, .int (0 : Int32)), (2, .int (-6 : Int32)), (0, .ref (vA V j 0)), (1, .int l1)]) Cx dX2_bestSellerExcept_4 rfl hl (by decide) rfl (fun ls hl => ?_)
  exact wX2_bestSellerExcept_5 hj Cx hret fu hW (lv_sub hl [2, 3, 1, 0] rfl) hF
set_option maxRecDepth 100000 in
theorem kX2_bestSellerExcept {l : Launch} {V : VT} {M : Mem} {j : Nat} (hj : j < 11) {B : Blk} {l1 : Int32} {r : Int32} (hF : FX2_bestSellerExcept B l1 = some r) : MetI l V yX2_bestSellerExcept cX2_bestSellerExcept 4 .int ({ frames := 1, cells := 0, slots := 0, locals := 22 } : Room) [.ref (vA V j 0), .int l1] r (jb M j B) (jb M j B) := metI_of (by decide) (Nat.le_of_ble_eq_true rfl) (fun E H0 _ Cx hret H locs ls hW hl => wX2_bestSellerExcept hj Cx hret hW hl hF)
theorem dX2_spareOf_0 : decode cX2_spareOf 0 = .ok (.iconst 0, 1) := by decide +kernel
theorem dX2_spareOf_1 : decode cX2_spareOf 1 = .ok (.aload_n 0, 1) := by decide +kernel
theorem dX2_spareOf_2 : decode cX2_spareOf 2 = .ok (.getfield 32, 3) := by decide +kernel
theorem dX2_spareOf_5 : decode cX2_spareOf 5 = .ok (.iload_n 1, 1) := by decide +kernel
theorem dX2_spareOf_6 : decode cX2_spareOf 6 = .ok (.iaload, 1) := by decide +kernel
theorem dX2_spareOf_7 : decode cX2_spareOf 7 = .ok (.aload_n 0, 1) := by decide +kernel
theorem dX2_spareOf_8 : decode cX2_spareOf 8 = .ok (.getfield 12, 3) := by decide +kernel
theorem dX2_spareOf_11 : decode cX2_spareOf 11 = .ok (.getfield 108, 3) := by decide +kernel
theorem dX2_spareOf_14 : decode cX2_spareOf 14 = .ok (.iload_n 1, 1) := by decide +kernel
theorem dX2_spareOf_15 : decode cX2_spareOf 15 = .ok (.iaload, 1) := by decide +kernel
theorem dX2_spareOf_16 : decode cX2_spareOf 16 = .ok (.isub, 1) := by decide +kernel
theorem dX2_spareOf_17 : decode cX2_spareOf 17 = .ok (.invokestatic 161, 3) := by decide +kernel
theorem dX2_spareOf_20 : decode cX2_spareOf 20 = .ok (.ireturn, 1) := by decide +kernel
theorem okX2_spareOf : CalOK yX2_spareOf cX2_spareOf 2 (some .int) 1 := ⟨wd_68, wd_426, by decide +kernel⟩
theorem ovX2_spareOf : VirOK yX2_spareOf := ⟨wd_424, wd_425⟩
def FX2_spareOf (B : Blk) (l1 : Int32) : Option Int32 :=
  ld (B 16) 24 l1 fun v1 =>
  ld (B 6) 24 l1 fun v4 =>
  lt1 (if (0 : Int32) < (v1 - v4) then (v1 - v4) else (0 : Int32)) fun x7 =>
  some x7
set_option maxRecDepth 100000 in
set_option maxHeartbeats 4000000 in
theorem wX2_spareOf {E : WE} {V : VT} {A : Nat → Prop} {H0 : Heap} {M : Mem} {j : Nat} (hj : j < 11) (Cx : CX E RX2 cX2_spareOf 2 1 40) {r : Int32} {B : Blk} (hret : RetI E V A H0 cX2_spareOf .int r (jb M j B)) {H : Heap} {locs : List Loc} {ls : Array Slot} {l1 : Int32} (hW : Wd V A H0 (jb M j B) (eS E) H locs) (hl : lv_has ls 2 [(0, .ref (vA V j 0)), (1, .int l1)]) (hF : FX2_spareOf B l1 = some r) : Wq E H locs 0 ls [] := by
  unfold FX2_spareOf at hF
  refine q_iconst (v := (0 : Int32)) Cx dX2_spareOf_0 (by decide) ?_
  refine q_aload_n Cx dX2_spareOf_1 rfl (lv_at hl 0 rfl) ?_
  refine q_get (v := .ref (vA V j 16)) Cx hW (oM hj) ic2 4 (by decide) rfl wd_172 dX2_spareOf_2 ?_
  refine q_iload_n Cx dX2_spareOf_5 rfl (lv_at hl 1 rfl) ?_
  obtain ⟨h2, v1, e3, hF⟩ := ld_some hF
  refine qb_iald Cx hW (ai_16 hj) h2 e3 dX2_spareOf_6 ?_
  refine q_aload_n Cx dX2_spareOf_7 rfl (lv_at hl 0 rfl) ?_
  refine q_get (v := .ref (vA V j 1)) Cx hW (oM hj) ic2 0 (by decide) rfl wd_166 dX2_spareOf_8 ?_
  refine q_get (v := .ref (vA V j 6)) Cx hW (oP hj) ic4 4 (by decide) rfl wd_106 dX2_spareOf_11 ?_
  refine q_iload_n Cx dX2_spareOf_14 rfl (lv_at hl 1 rfl) ?_
  obtain ⟨h5, v4, e6, hF⟩ := ld_some hF
  refine qb_iald Cx hW (ai_6 hj) h5 e6 dX2_spareOf_15 ?_
  refine q_isub Cx dX2_spareOf_16 ?_
  obtain ⟨x7, e8, hF⟩ := lt1_some hF
  refine q_max Cx wd_390 wd_335 wd_75 wd_336 hl.1 (by decide) (Nat.le_of_ble_eq_true rfl) e8.symm dX2_spareOf_17 ?_
  cases hF
  exact hret _ _ _ _ dX2_spareOf_20 (nI32 _) hW
set_option maxRecDepth 100000 in
theorem kX2_spareOf {l : Launch} {V : VT} {M : Mem} {j : Nat} (hj : j < 11) {B : Blk} {l1 : Int32} {r : Int32} (hF : FX2_spareOf B l1 = some r) : MetI l V yX2_spareOf cX2_spareOf 2 .int ({ frames := 1, cells := 0, slots := 0, locals := 40 } : Room) [.ref (vA V j 0), .int l1] r (jb M j B) (jb M j B) := metI_of (by decide) (Nat.le_of_ble_eq_true rfl) (fun E H0 _ Cx hret H locs ls hW hl => wX2_spareOf hj Cx hret hW hl hF)
theorem dX2_buyFrom_0 : decode cX2_buyFrom 0 = .ok (.aload_n 0, 1) := by decide +kernel
theorem dX2_buyFrom_1 : decode cX2_buyFrom 1 = .ok (.getfield 21, 3) := by decide +kernel
theorem dX2_buyFrom_4 : decode cX2_buyFrom 4 = .ok (.invokevirtual 147, 3) := by decide +kernel
theorem dX2_buyFrom_7 : decode cX2_buyFrom 7 = .ok (.ifCond .eq 4, 3) := by decide +kernel
theorem dX2_buyFrom_10 : decode cX2_buyFrom 10 = .ok (.return_, 1) := by decide +kernel
theorem dX2_buyFrom_11 : decode cX2_buyFrom 11 = .ok (.aload_n 0, 1) := by decide +kernel
theorem dX2_buyFrom_12 : decode cX2_buyFrom 12 = .ok (.getfield 42, 3) := by decide +kernel
theorem dX2_buyFrom_15 : decode cX2_buyFrom 15 = .ok (.iload_n 1, 1) := by decide +kernel
theorem dX2_buyFrom_16 : decode cX2_buyFrom 16 = .ok (.iaload, 1) := by decide +kernel
theorem dX2_buyFrom_17 : decode cX2_buyFrom 17 = .ok (.istore_n 3, 1) := by decide +kernel
theorem dX2_buyFrom_18 : decode cX2_buyFrom 18 = .ok (.aload_n 0, 1) := by decide +kernel
theorem dX2_buyFrom_19 : decode cX2_buyFrom 19 = .ok (.iload_n 2, 1) := by decide +kernel
theorem dX2_buyFrom_20 : decode cX2_buyFrom 20 = .ok (.invokevirtual 125, 3) := by decide +kernel
theorem dX2_buyFrom_23 : decode cX2_buyFrom 23 = .ok (.aload_n 0, 1) := by decide +kernel
theorem dX2_buyFrom_24 : decode cX2_buyFrom 24 = .ok (.getfield 39, 3) := by decide +kernel
theorem dX2_buyFrom_27 : decode cX2_buyFrom 27 = .ok (.iload_n 1, 1) := by decide +kernel
theorem dX2_buyFrom_28 : decode cX2_buyFrom 28 = .ok (.iaload, 1) := by decide +kernel
theorem dX2_buyFrom_29 : decode cX2_buyFrom 29 = .ok (.aload_n 0, 1) := by decide +kernel
theorem dX2_buyFrom_30 : decode cX2_buyFrom 30 = .ok (.iload_n 1, 1) := by decide +kernel
theorem dX2_buyFrom_31 : decode cX2_buyFrom 31 = .ok (.invokevirtual 150, 3) := by decide +kernel
theorem dX2_buyFrom_34 : decode cX2_buyFrom 34 = .ok (.invokestatic 153, 3) := by decide +kernel
theorem dX2_buyFrom_37 : decode cX2_buyFrom 37 = .ok (.invokestatic 153, 3) := by decide +kernel
theorem dX2_buyFrom_40 : decode cX2_buyFrom 40 = .ok (.istore 4, 2) := by decide +kernel
theorem dX2_buyFrom_42 : decode cX2_buyFrom 42 = .ok (.iload_n 3, 1) := by decide +kernel
theorem dX2_buyFrom_43 : decode cX2_buyFrom 43 = .ok (.ifCond .le 18, 3) := by decide +kernel
theorem dX2_buyFrom_46 : decode cX2_buyFrom 46 = .ok (.iload 4, 2) := by decide +kernel
theorem dX2_buyFrom_48 : decode cX2_buyFrom 48 = .ok (.aload_n 0, 1) := by decide +kernel
theorem dX2_buyFrom_49 : decode cX2_buyFrom 49 = .ok (.getfield 36, 3) := by decide +kernel
theorem dX2_buyFrom_52 : decode cX2_buyFrom 52 = .ok (.iload_n 2, 1) := by decide +kernel
theorem dX2_buyFrom_53 : decode cX2_buyFrom 53 = .ok (.iaload, 1) := by decide +kernel
theorem dX2_buyFrom_54 : decode cX2_buyFrom 54 = .ok (.iload_n 3, 1) := by decide +kernel
theorem dX2_buyFrom_55 : decode cX2_buyFrom 55 = .ok (.idiv, 1) := by decide +kernel
theorem dX2_buyFrom_56 : decode cX2_buyFrom 56 = .ok (.invokestatic 153, 3) := by decide +kernel
theorem dX2_buyFrom_59 : decode cX2_buyFrom 59 = .ok (.istore 4, 2) := by decide +kernel
theorem dX2_buyFrom_61 : decode cX2_buyFrom 61 = .ok (.iload 4, 2) := by decide +kernel
theorem dX2_buyFrom_63 : decode cX2_buyFrom 63 = .ok (.ifCond .gt 4, 3) := by decide +kernel
theorem dX2_buyFrom_66 : decode cX2_buyFrom 66 = .ok (.return_, 1) := by decide +kernel
theorem dX2_buyFrom_67 : decode cX2_buyFrom 67 = .ok (.aload_n 0, 1) := by decide +kernel
theorem dX2_buyFrom_68 : decode cX2_buyFrom 68 = .ok (.getfield 21, 3) := by decide +kernel
theorem dX2_buyFrom_71 : decode cX2_buyFrom 71 = .ok (.iload_n 1, 1) := by decide +kernel
theorem dX2_buyFrom_72 : decode cX2_buyFrom 72 = .ok (.iload_n 2, 1) := by decide +kernel
theorem dX2_buyFrom_73 : decode cX2_buyFrom 73 = .ok (.iload 4, 2) := by decide +kernel
theorem dX2_buyFrom_75 : decode cX2_buyFrom 75 = .ok (.iload_n 3, 1) := by decide +kernel
theorem dX2_buyFrom_76 : decode cX2_buyFrom 76 = .ok (.invokevirtual 158, 3) := by decide +kernel
theorem dX2_buyFrom_79 : decode cX2_buyFrom 79 = .ok (.aload_n 0, 1) := by decide +kernel
theorem dX2_buyFrom_80 : decode cX2_buyFrom 80 = .ok (.getfield 32, 3) := by decide +kernel
theorem dX2_buyFrom_83 : decode cX2_buyFrom 83 = .ok (.iload_n 1, 1) := by decide +kernel
theorem dX2_buyFrom_84 : decode cX2_buyFrom 84 = .ok (.dup2, 1) := by decide +kernel
theorem dX2_buyFrom_85 : decode cX2_buyFrom 85 = .ok (.iaload, 1) := by decide +kernel
theorem dX2_buyFrom_86 : decode cX2_buyFrom 86 = .ok (.iload 4, 2) := by decide +kernel
theorem dX2_buyFrom_88 : decode cX2_buyFrom 88 = .ok (.isub, 1) := by decide +kernel
theorem dX2_buyFrom_89 : decode cX2_buyFrom 89 = .ok (.iastore, 1) := by decide +kernel
theorem dX2_buyFrom_90 : decode cX2_buyFrom 90 = .ok (.aload_n 0, 1) := by decide +kernel
theorem dX2_buyFrom_91 : decode cX2_buyFrom 91 = .ok (.getfield 32, 3) := by decide +kernel
theorem dX2_buyFrom_94 : decode cX2_buyFrom 94 = .ok (.iload_n 2, 1) := by decide +kernel
theorem dX2_buyFrom_95 : decode cX2_buyFrom 95 = .ok (.dup2, 1) := by decide +kernel
theorem dX2_buyFrom_96 : decode cX2_buyFrom 96 = .ok (.iaload, 1) := by decide +kernel
theorem dX2_buyFrom_97 : decode cX2_buyFrom 97 = .ok (.iload 4, 2) := by decide +kernel
theorem dX2_buyFrom_99 : decode cX2_buyFrom 99 = .ok (.iadd, 1) := by decide +kernel
theorem dX2_buyFrom_100 : decode cX2_buyFrom 100 = .ok (.iastore, 1) := by decide +kernel
theorem dX2_buyFrom_101 : decode cX2_buyFrom 101 = .ok (.aload_n 0, 1) := by decide +kernel
theorem dX2_buyFrom_102 : decode cX2_buyFrom 102 = .ok (.getfield 36, 3) := by decide +kernel
theorem dX2_buyFrom_105 : decode cX2_buyFrom 105 = .ok (.iload_n 2, 1) := by decide +kernel
theorem dX2_buyFrom_106 : decode cX2_buyFrom 106 = .ok (.dup2, 1) := by decide +kernel
theorem dX2_buyFrom_107 : decode cX2_buyFrom 107 = .ok (.iaload, 1) := by decide +kernel
theorem dX2_buyFrom_108 : decode cX2_buyFrom 108 = .ok (.iload 4, 2) := by decide +kernel
theorem dX2_buyFrom_110 : decode cX2_buyFrom 110 = .ok (.iload_n 3, 1) := by decide +kernel
theorem dX2_buyFrom_111 : decode cX2_buyFrom 111 = .ok (.imul, 1) := by decide +kernel
theorem dX2_buyFrom_112 : decode cX2_buyFrom 112 = .ok (.isub, 1) := by decide +kernel
theorem dX2_buyFrom_113 : decode cX2_buyFrom 113 = .ok (.iastore, 1) := by decide +kernel
theorem dX2_buyFrom_114 : decode cX2_buyFrom 114 = .ok (.aload_n 0, 1) := by decide +kernel
theorem dX2_buyFrom_115 : decode cX2_buyFrom 115 = .ok (.getfield 36, 3) := by decide +kernel
theorem dX2_buyFrom_118 : decode cX2_buyFrom 118 = .ok (.iload_n 1, 1) := by decide +kernel
theorem dX2_buyFrom_119 : decode cX2_buyFrom 119 = .ok (.dup2, 1) := by decide +kernel
theorem dX2_buyFrom_120 : decode cX2_buyFrom 120 = .ok (.iaload, 1) := by decide +kernel
theorem dX2_buyFrom_121 : decode cX2_buyFrom 121 = .ok (.iload 4, 2) := by decide +kernel
theorem dX2_buyFrom_123 : decode cX2_buyFrom 123 = .ok (.iload_n 3, 1) := by decide +kernel
theorem dX2_buyFrom_124 : decode cX2_buyFrom 124 = .ok (.imul, 1) := by decide +kernel
theorem dX2_buyFrom_125 : decode cX2_buyFrom 125 = .ok (.iadd, 1) := by decide +kernel
theorem dX2_buyFrom_126 : decode cX2_buyFrom 126 = .ok (.iastore, 1) := by decide +kernel
theorem dX2_buyFrom_127 : decode cX2_buyFrom 127 = .ok (.aload_n 0, 1) := by decide +kernel
theorem dX2_buyFrom_128 : decode cX2_buyFrom 128 = .ok (.iload_n 1, 1) := by decide +kernel
theorem dX2_buyFrom_129 : decode cX2_buyFrom 129 = .ok (.aload_n 0, 1) := by decide +kernel
theorem dX2_buyFrom_130 : decode cX2_buyFrom 130 = .ok (.getfield 39, 3) := by decide +kernel
theorem dX2_buyFrom_133 : decode cX2_buyFrom 133 = .ok (.iload_n 1, 1) := by decide +kernel
theorem dX2_buyFrom_134 : decode cX2_buyFrom 134 = .ok (.iaload, 1) := by decide +kernel
theorem dX2_buyFrom_135 : decode cX2_buyFrom 135 = .ok (.iload 4, 2) := by decide +kernel
theorem dX2_buyFrom_137 : decode cX2_buyFrom 137 = .ok (.isub, 1) := by decide +kernel
theorem dX2_buyFrom_138 : decode cX2_buyFrom 138 = .ok (.iload_n 3, 1) := by decide +kernel
theorem dX2_buyFrom_139 : decode cX2_buyFrom 139 = .ok (.invokevirtual 94, 3) := by decide +kernel
theorem dX2_buyFrom_142 : decode cX2_buyFrom 142 = .ok (.return_, 1) := by decide +kernel
theorem okX2_buyFrom : CalOK yX2_buyFrom cX2_buyFrom 5 (none) 2 := ⟨wd_68, wd_418, by decide +kernel⟩
theorem ovX2_buyFrom : VirOK yX2_buyFrom := ⟨wd_417, wd_7⟩
def FX2_buyFrom_61 (l1 : Int32) (l2 : Int32) (l3 : Int32) (l4 : Int32) (B : Blk) : Option Blk :=
  if 0 < l4 then
    c1 (FX0_append B l1 l2 l4 l3) fun B22 =>
    ld (B22 16) 24 l1 fun v23 =>
    stb B22 16 24 l1 (v23 - l4) fun B26 =>
    ld (B26 16) 24 l2 fun v29 =>
    stb B26 16 24 l2 (v29 + l4) fun B32 =>
    ld (B32 17) 24 l2 fun v35 =>
    stb B32 17 24 l2 (v35 - (l4 * l3)) fun B38 =>
    ld (B38 17) 24 l1 fun v41 =>
    stb B38 17 24 l1 (v41 + (l4 * l3)) fun B44 =>
    ld (B44 18) 24 l1 fun v47 =>
    c1 (FX2_setOffer B44 l1 (v47 - l4) l3) fun B52 =>
    some B52
  else
    some B
set_option maxRecDepth 100000 in
set_option maxHeartbeats 4000000 in
theorem wX2_buyFrom_61 {E : WE} {V : VT} {A : Nat → Prop} {H0 : Heap} {M : Mem} {j : Nat} (hj : j < 11) (Cx : CX E RX2 cX2_buyFrom 5 2 61) {B' : Blk} (hret : RetV E V A H0 cX2_buyFrom (jb M j B')) {H : Heap} {locs : List Loc} {ls : Array Slot} {l1 : Int32} {l2 : Int32} {l3 : Int32} {l4 : Int32} {B : Blk} (hW : Wd V A H0 (jb M j B) (eS E) H locs) (hl : lv_has ls 5 [(0, .ref (vA V j 0)), (1, .int l1), (2, .int l2), (3, .int l3), (4, .int l4)]) (hF : FX2_buyFrom_61 l1 l2 l3 l4 B = some B') : Wq E H locs 61 ls [] := by
  unfold FX2_buyFrom_61 at hF
  refine q_iload Cx dX2_buyFrom_61 (lv_at hl 4 rfl) ?_
  refine q_if_gt (tgt := 67) Cx dX2_buyFrom_63 (by decide) (fun c19 => ?_) (fun c19 => ?_)
  · have hF := (if_pos c19).symm.trans hF
    refine q_aload_n Cx dX2_buyFrom_67 rfl (lv_at hl 0 rfl) ?_
    refine q_get (v := .ref (vA V j 2)) Cx hW (oM hj) ic2 1 (by decide) rfl wd_168 dX2_buyFrom_68 ?_
    refine q_iload_n Cx dX2_buyFrom_71 rfl (lv_at hl 1 rfl) ?_
    refine q_iload_n Cx dX2_buyFrom_72 rfl (lv_at hl 2 rfl) ?_
    refine q_iload Cx dX2_buyFrom_73 (lv_at hl 4 rfl) ?_
    refine q_iload_n Cx dX2_buyFrom_75 rfl (lv_at hl 3 rfl) ?_
    obtain ⟨B22, e21, hF⟩ := c1_some hF
    refine q_callV (as := [.int l1, .int l2, .int l4, .int l3]) (rest := []) Cx (kX0_append hj e21) okX0_append ovX0_append wd_430 ⟨rfl, rfl, by decide, by decide⟩ hW (oC hj) ic0 rfl hl.1 (Nat.le_of_ble_eq_true rfl) rfl dX2_buyFrom_76 (fun H locs hW => ?_)
    refine q_aload_n Cx dX2_buyFrom_79 rfl (lv_at hl 0 rfl) ?_
    refine q_get (v := .ref (vA V j 16)) Cx hW (oM hj) ic2 4 (by decide) rfl wd_172 dX2_buyFrom_80 ?_
    refine q_iload_n Cx dX2_buyFrom_83 rfl (lv_at hl 1 rfl) ?_
    refine q_dup2 Cx dX2_buyFrom_84 rfl rfl ?_
    obtain ⟨h24, v23, e25, hF⟩ := ld_some hF
    refine qb_iald Cx hW (ai_16 hj) h24 e25 dX2_buyFrom_85 ?_
    refine q_iload Cx dX2_buyFrom_86 (lv_at hl 4 rfl) ?_
    refine q_isub Cx dX2_buyFrom_88 ?_
    obtain ⟨h27, B26, e28, hF⟩ := stb_some hF
    refine qb_iast Cx hW (ai_16 hj) h27 e28 dX2_buyFrom_89 (fun H locs hW => ?_)
    refine q_aload_n Cx dX2_buyFrom_90 rfl (lv_at hl 0 rfl) ?_
    refine q_get (v := .ref (vA V j 16)) Cx hW (oM hj) ic2 4 (by decide) rfl wd_172 dX2_buyFrom_91 ?_
    refine q_iload_n Cx dX2_buyFrom_94 rfl (lv_at hl 2 rfl) ?_
    refine q_dup2 Cx dX2_buyFrom_95 rfl rfl ?_
    obtain ⟨h30, v29, e31, hF⟩ := ld_some hF
    refine qb_iald Cx hW (ai_16 hj) h30 e31 dX2_buyFrom_96 ?_
    refine q_iload Cx dX2_buyFrom_97 (lv_at hl 4 rfl) ?_
    refine q_iadd Cx dX2_buyFrom_99 ?_
    obtain ⟨h33, B32, e34, hF⟩ := stb_some hF
    refine qb_iast Cx hW (ai_16 hj) h33 e34 dX2_buyFrom_100 (fun H locs hW => ?_)
    refine q_aload_n Cx dX2_buyFrom_101 rfl (lv_at hl 0 rfl) ?_
    refine q_get (v := .ref (vA V j 17)) Cx hW (oM hj) ic2 5 (by decide) rfl wd_174 dX2_buyFrom_102 ?_
    refine q_iload_n Cx dX2_buyFrom_105 rfl (lv_at hl 2 rfl) ?_
    refine q_dup2 Cx dX2_buyFrom_106 rfl rfl ?_
    obtain ⟨h36, v35, e37, hF⟩ := ld_some hF
    refine qb_iald Cx hW (ai_17 hj) h36 e37 dX2_buyFrom_107 ?_
    refine q_iload Cx dX2_buyFrom_108 (lv_at hl 4 rfl) ?_
    refine q_iload_n Cx dX2_buyFrom_110 rfl (lv_at hl 3 rfl) ?_
    refine q_imul Cx dX2_buyFrom_111 ?_
    refine q_isub Cx dX2_buyFrom_112 ?_
    obtain ⟨h39, B38, e40, hF⟩ := stb_some hF
    refine qb_iast Cx hW (ai_17 hj) h39 e40 dX2_buyFrom_113 (fun H locs hW => ?_)
    refine q_aload_n Cx dX2_buyFrom_114 rfl (lv_at hl 0 rfl) ?_
    refine q_get (v := .ref (vA V j 17)) Cx hW (oM hj) ic2 5 (by decide) rfl wd_174 dX2_buyFrom_115 ?_
    refine q_iload_n Cx dX2_buyFrom_118 rfl (lv_at hl 1 rfl) ?_
    refine q_dup2 Cx dX2_buyFrom_119 rfl rfl ?_
    obtain ⟨h42, v41, e43, hF⟩ := ld_some hF
    refine qb_iald Cx hW (ai_17 hj) h42 e43 dX2_buyFrom_120 ?_
    refine q_iload Cx dX2_buyFrom_121 (lv_at hl 4 rfl) ?_
    refine q_iload_n Cx dX2_buyFrom_123 rfl (lv_at hl 3 rfl) ?_
    refine q_imul Cx dX2_buyFrom_124 ?_
    refine q_iadd Cx dX2_buyFrom_125 ?_
    obtain ⟨h45, B44, e46, hF⟩ := stb_some hF
    refine qb_iast Cx hW (ai_17 hj) h45 e46 dX2_buyFrom_126 (fun H locs hW => ?_)
    refine q_aload_n Cx dX2_buyFrom_127 rfl (lv_at hl 0 rfl) ?_
    refine q_iload_n Cx dX2_buyFrom_128 rfl (lv_at hl 1 rfl) ?_
    refine q_aload_n Cx dX2_buyFrom_129 rfl (lv_at hl 0 rfl) ?_
    refine q_get (v := .ref (vA V j 18)) Cx hW (oM hj) ic2 6 (by decide) rfl wd_176 dX2_buyFrom_130 ?_
    refine q_iload_n Cx dX2_buyFrom_133 rfl (lv_at hl 1 rfl) ?_
    obtain ⟨h48, v47, e49, hF⟩ := ld_some hF
    refine qb_iald Cx hW (ai_18 hj) h48 e49 dX2_buyFrom_134 ?_
    refine q_iload Cx dX2_buyFrom_135 (lv_at hl 4 rfl) ?_
    refine q_isub Cx dX2_buyFrom_137 ?_
    refine q_iload_n Cx dX2_buyFrom_138 rfl (lv_at hl 3 rfl) ?_
    obtain ⟨B52, e51, hF⟩ := c1_some hF
    refine q_callV (as := [.int l1, .int (v47 - l4), .int l3]) (rest := []) Cx (kX2_setOffer hj e51) okX2_setOffer ovX2_setOffer wd_370 ⟨rfl, rfl, by decide, by decide⟩ hW (oM hj) ic2 rfl hl.1 (Nat.le_of_ble_eq_true rfl) rfl dX2_buyFrom_139 (fun H locs hW => ?_)
    cases hF
    exact hret _ _ _ _ dX2_buyFrom_142 hW
  · have hF := (if_neg c19).symm.trans hF
    cases hF
    exact hret _ _ _ _ dX2_buyFrom_66 hW
def FX2_buyFrom (B : Blk) (l1 : Int32) (l2 : Int32) : Option Blk :=
  c1 (FX0_isFull B) fun r1 =>
  if r1 = 0 then
    ld (B 19) 24 l1 fun v4 =>
    c1 (FX2_lateOf B l2) fun r7 =>
    ld (B 18) 24 l1 fun v9 =>
    c1 (FX2_spareOf B l1) fun r12 =>
    lt1 (if r12 < v9 then r12 else v9) fun x14 =>
    lt1 (if x14 < r7 then x14 else r7) fun x16 =>
    if v4 ≤ 0 then
      FX2_buyFrom_61 l1 l2 v4 x16 B
    else
      ld (B 17) 24 l2 fun v53 =>
      nz v4 <|
      lt1 (if (v53 / v4) < x16 then (v53 / v4) else x16) fun x57 =>
      FX2_buyFrom_61 l1 l2 v4 x57 B
  else
    some B
set_option maxRecDepth 100000 in
set_option maxHeartbeats 4000000 in
theorem wX2_buyFrom {E : WE} {V : VT} {A : Nat → Prop} {H0 : Heap} {M : Mem} {j : Nat} (hj : j < 11) (Cx : CX E RX2 cX2_buyFrom 5 2 61) {B' : Blk} (hret : RetV E V A H0 cX2_buyFrom (jb M j B')) {H : Heap} {locs : List Loc} {ls : Array Slot} {l1 : Int32} {l2 : Int32} {B : Blk} (hW : Wd V A H0 (jb M j B) (eS E) H locs) (hl : lv_has ls 5 [(0, .ref (vA V j 0)), (1, .int l1), (2, .int l2)]) (hF : FX2_buyFrom B l1 l2 = some B') : Wq E H locs 0 ls [] := by
  unfold FX2_buyFrom at hF
  refine q_aload_n Cx dX2_buyFrom_0 rfl (lv_at hl 0 rfl) ?_
  refine q_get (v := .ref (vA V j 2)) Cx hW (oM hj) ic2 1 (by decide) rfl wd_168 dX2_buyFrom_1 ?_
  obtain ⟨r1, e2, hF⟩ := c1_some hF
  refine q_callI (as := []) (rest := []) Cx (kX0_isFull hj e2) okX0_isFull ovX0_isFull wd_419 ⟨rfl, rfl, by decide, by decide⟩ hW (oC hj) ic0 rfl hl.1 (Nat.le_of_ble_eq_true rfl) rfl dX2_buyFrom_4 (fun H locs hW => ?_)
  refine q_if_eq (tgt := 11) Cx dX2_buyFrom_7 (by decide) (fun c3 => ?_) (fun c3 => ?_)
  · have hF := (if_pos c3).symm.trans hF
    refine q_aload_n Cx dX2_buyFrom_11 rfl (lv_at hl 0 rfl) ?_
    refine q_get (v := .ref (vA V j 19)) Cx hW (oM hj) ic2 7 (by decide) rfl wd_177 dX2_buyFrom_12 ?_
    refine q_iload_n Cx dX2_buyFrom_15 rfl (lv_at hl 1 rfl) ?_
    obtain ⟨h5, v4, e6, hF⟩ := ld_some hF
    refine qb_iald Cx hW (ai_19 hj) h5 e6 dX2_buyFrom_16 ?_
    refine q_istore_n (lv' := [(3, .int v4), (0, .ref (vA V j 0)), (1, .int l1), (2, .int l2)]) Cx dX2_buyFrom_17 rfl hl (by decide) rfl (fun ls hl => ?_)
    refine q_aload_n Cx dX2_buyFrom_18 rfl (lv_at hl 1 rfl) ?_
    refine q_iload_n Cx dX2_buyFrom_19 rfl (lv_at hl 3 rfl) ?_
    obtain ⟨r7, e8, hF⟩ := c1_some hF
    refine q_callI (as := [.int l2]) (rest := []) Cx (kX2_lateOf hj e8) okX2_lateOf ovX2_lateOf wd_386 ⟨rfl, rfl, by decide, by decide⟩ hW (oM hj) ic2 rfl hl.1 (Nat.le_of_ble_eq_true rfl) rfl dX2_buyFrom_20 (fun H locs hW => ?_)
    refine q_aload_n Cx dX2_buyFrom_23 rfl (lv_at hl 1 rfl) ?_
    refine q_get (v := .ref (vA V j 18)) Cx hW (oM hj) ic2 6 (by decide) rfl wd_176 dX2_buyFrom_24 ?_
    refine q_iload_n Cx dX2_buyFrom_27 rfl (lv_at hl 2 rfl) ?_
    obtain ⟨h10, v9, e11, hF⟩ := ld_some hF
    refine qb_iald Cx hW (ai_18 hj) h10 e11 dX2_buyFrom_28 ?_
    refine q_aload_n Cx dX2_buyFrom_29 rfl (lv_at hl 1 rfl) ?_
    refine q_iload_n Cx dX2_buyFrom_30 rfl (lv_at hl 2 rfl) ?_
    obtain ⟨r12, e13, hF⟩ := c1_some hF
    refine q_callI (as := [.int l1]) (rest := [.int v9, .int r7]) Cx (kX2_spareOf hj e13) okX2_spareOf ovX2_spareOf wd_423 ⟨rfl, rfl, by decide, by decide⟩ hW (oM hj) ic2 rfl hl.1 (Nat.le_of_ble_eq_true rfl) rfl dX2_buyFrom_31 (fun H locs hW => ?_)
    obtain ⟨x14, e15, hF⟩ := lt1_some hF
    refine q_min Cx wd_427 wd_428 wd_75 wd_429 hl.1 (by decide) (Nat.le_of_ble_eq_true rfl) e15.symm dX2_buyFrom_34 ?_
    obtain ⟨x16, e17, hF⟩ := lt1_some hF
    refine q_min Cx wd_427 wd_428 wd_75 wd_429 hl.1 (by decide) (Nat.le_of_ble_eq_true rfl) e17.symm dX2_buyFrom_37 ?_
    refine q_istore (lv' := [(4, .int x16), (3, .int v4), (0, .ref (vA V j 0)), (1, .int l1), (2, .int l2)]) Cx dX2_buyFrom_40 hl (by decide) rfl (fun ls hl => ?_)
    refine q_iload_n Cx dX2_buyFrom_42 rfl (lv_at hl 1 rfl) ?_
    refine q_if_le (tgt := 61) Cx dX2_buyFrom_43 (by decide) (fun c18 => ?_) (fun c18 => ?_)
    · have hF := (if_pos c18).symm.trans hF
      exact wX2_buyFrom_61 hj Cx hret hW (lv_sub hl [2, 3, 4, 1, 0] rfl) hF
    · have hF := (if_neg c18).symm.trans hF
      refine q_iload Cx dX2_buyFrom_46 (lv_at hl 0 rfl) ?_
      refine q_aload_n Cx dX2_buyFrom_48 rfl (lv_at hl 2 rfl) ?_
      refine q_get (v := .ref (vA V j 17)) Cx hW (oM hj) ic2 5 (by decide) rfl wd_174 dX2_buyFrom_49 ?_
      refine q_iload_n Cx dX2_buyFrom_52 rfl (lv_at hl 4 rfl) ?_
      obtain ⟨h54, v53, e55, hF⟩ := ld_some hF
      refine qb_iald Cx hW (ai_17 hj) h54 e55 dX2_buyFrom_53 ?_
      refine q_iload_n Cx dX2_buyFrom_54 rfl (lv_at hl 1 rfl) ?_
      obtain ⟨h56, hF⟩ := nz_some hF
      refine q_idiv Cx dX2_buyFrom_55 h56 ?_
      obtain ⟨x57, e58, hF⟩ := lt1_some hF
      refine q_min Cx wd_427 wd_428 wd_75 wd_429 hl.1 (by decide) (Nat.le_of_ble_eq_true rfl) e58.symm dX2_buyFrom_56 ?_
      refine q_istore (lv' := [(4, .int x57), (3, .int v4), (0, .ref (vA V j 0)), (1, .int l1), (2, .int l2)]) Cx dX2_buyFrom_59 hl (by decide) rfl (fun ls hl => ?_)
      exact wX2_buyFrom_61 hj Cx hret hW (lv_sub hl [2, 3, 4, 1, 0] rfl) hF
  · have hF := (if_neg c3).symm.trans hF
    cases hF
    exact hret _ _ _ _ dX2_buyFrom_10 hW
set_option maxRecDepth 100000 in
theorem kX2_buyFrom {l : Launch} {V : VT} {M : Mem} {j : Nat} (hj : j < 11) {B : Blk} {l1 : Int32} {l2 : Int32} {B' : Blk} (hF : FX2_buyFrom B l1 l2 = some B') : MetV l V yX2_buyFrom cX2_buyFrom 5 ({ frames := 2, cells := 0, slots := 0, locals := 61 } : Room) [.ref (vA V j 0), .int l1, .int l2] (jb M j B) (jb M j B') := metV_of (by decide) (Nat.le_of_ble_eq_true rfl) (fun E H0 _ Cx hret H locs ls hW hl => wX2_buyFrom hj Cx hret hW hl hF)
theorem dX2_buyFor_0 : decode cX2_buyFor 0 = .ok (.aload_n 0, 1) := by decide +kernel
theorem dX2_buyFor_1 : decode cX2_buyFor 1 = .ok (.getfield 12, 3) := by decide +kernel
theorem dX2_buyFor_4 : decode cX2_buyFor 4 = .ok (.iload_n 1, 1) := by decide +kernel
theorem dX2_buyFor_5 : decode cX2_buyFor 5 = .ok (.invokevirtual 128, 3) := by decide +kernel
theorem dX2_buyFor_8 : decode cX2_buyFor 8 = .ok (.iconst 1, 1) := by decide +kernel
theorem dX2_buyFor_9 : decode cX2_buyFor 9 = .ok (.iload_n 1, 1) := by decide +kernel
theorem dX2_buyFor_10 : decode cX2_buyFor 10 = .ok (.ishl, 1) := by decide +kernel
theorem dX2_buyFor_11 : decode cX2_buyFor 11 = .ok (.istore_n 2, 1) := by decide +kernel
theorem dX2_buyFor_12 : decode cX2_buyFor 12 = .ok (.iconst 0, 1) := by decide +kernel
theorem dX2_buyFor_13 : decode cX2_buyFor 13 = .ok (.istore_n 3, 1) := by decide +kernel
theorem dX2_buyFor_14 : decode cX2_buyFor 14 = .ok (.iload_n 3, 1) := by decide +kernel
theorem dX2_buyFor_15 : decode cX2_buyFor 15 = .ok (.aload_n 0, 1) := by decide +kernel
theorem dX2_buyFor_16 : decode cX2_buyFor 16 = .ok (.getfield 12, 3) := by decide +kernel
theorem dX2_buyFor_19 : decode cX2_buyFor 19 = .ok (.getfield 66, 3) := by decide +kernel
theorem dX2_buyFor_22 : decode cX2_buyFor 22 = .ok (.if_icmp .ge 48, 3) := by decide +kernel
theorem dX2_buyFor_25 : decode cX2_buyFor 25 = .ok (.aload_n 0, 1) := by decide +kernel
theorem dX2_buyFor_26 : decode cX2_buyFor 26 = .ok (.iload_n 1, 1) := by decide +kernel
theorem dX2_buyFor_27 : decode cX2_buyFor 27 = .ok (.invokevirtual 125, 3) := by decide +kernel
theorem dX2_buyFor_30 : decode cX2_buyFor 30 = .ok (.ifCond .le 40, 3) := by decide +kernel
theorem dX2_buyFor_33 : decode cX2_buyFor 33 = .ok (.aload_n 0, 1) := by decide +kernel
theorem dX2_buyFor_34 : decode cX2_buyFor 34 = .ok (.iload_n 2, 1) := by decide +kernel
theorem dX2_buyFor_35 : decode cX2_buyFor 35 = .ok (.invokevirtual 131, 3) := by decide +kernel
theorem dX2_buyFor_38 : decode cX2_buyFor 38 = .ok (.istore 4, 2) := by decide +kernel
theorem dX2_buyFor_40 : decode cX2_buyFor 40 = .ok (.iload 4, 2) := by decide +kernel
theorem dX2_buyFor_42 : decode cX2_buyFor 42 = .ok (.bipush (-6), 2) := by decide +kernel
theorem dX2_buyFor_44 : decode cX2_buyFor 44 = .ok (.if_icmp .ne 6, 3) := by decide +kernel
theorem dX2_buyFor_47 : decode cX2_buyFor 47 = .ok (.goto 23, 3) := by decide +kernel
theorem dX2_buyFor_50 : decode cX2_buyFor 50 = .ok (.iload_n 2, 1) := by decide +kernel
theorem dX2_buyFor_51 : decode cX2_buyFor 51 = .ok (.iconst 1, 1) := by decide +kernel
theorem dX2_buyFor_52 : decode cX2_buyFor 52 = .ok (.iload 4, 2) := by decide +kernel
theorem dX2_buyFor_54 : decode cX2_buyFor 54 = .ok (.ishl, 1) := by decide +kernel
theorem dX2_buyFor_55 : decode cX2_buyFor 55 = .ok (.ior, 1) := by decide +kernel
theorem dX2_buyFor_56 : decode cX2_buyFor 56 = .ok (.istore_n 2, 1) := by decide +kernel
theorem dX2_buyFor_57 : decode cX2_buyFor 57 = .ok (.aload_n 0, 1) := by decide +kernel
theorem dX2_buyFor_58 : decode cX2_buyFor 58 = .ok (.iload 4, 2) := by decide +kernel
theorem dX2_buyFor_60 : decode cX2_buyFor 60 = .ok (.iload_n 1, 1) := by decide +kernel
theorem dX2_buyFor_61 : decode cX2_buyFor 61 = .ok (.invokevirtual 134, 3) := by decide +kernel
theorem dX2_buyFor_64 : decode cX2_buyFor 64 = .ok (.iinc 3 1, 3) := by decide +kernel
theorem dX2_buyFor_67 : decode cX2_buyFor 67 = .ok (.goto (-53), 3) := by decide +kernel
theorem dX2_buyFor_70 : decode cX2_buyFor 70 = .ok (.return_, 1) := by decide +kernel
theorem okX2_buyFor : CalOK yX2_buyFor cX2_buyFor 5 (none) 1 := ⟨wd_68, wd_394, by decide +kernel⟩
theorem ovX2_buyFor : VirOK yX2_buyFor := ⟨wd_392, wd_393⟩
def FX2_buyFor_14s (k14 : Int32 → Int32 → Int32 → Blk → Option Blk) (l1 : Int32) (l2 : Int32) (l3 : Int32) (B : Blk) : Option Blk :=
  if ((B 1) 0) ≤ l3 then
    some B
  else
    c1 (FX2_lateOf B l1) fun r7 =>
    if r7 ≤ 0 then
      some B
    else
      c1 (FX2_bestSellerExcept B l2) fun r10 =>
      if r10 = (-6 : Int32) then
        some B
      else
        lt1 (l2 ||| ((1 : Int32) <<< (r10 &&& 31))) fun x13 =>
        c1 (FX2_buyFrom B r10 l1) fun B17 =>
        lt1 (l3 + (1 : Int32)) fun x18 =>
        k14 l1 x13 x18 B17
set_option maxRecDepth 100000 in
set_option maxHeartbeats 4000000 in
theorem wX2_buyFor_14s {E : WE} {V : VT} {A : Nat → Prop} {H0 : Heap} {M : Mem} {j : Nat} (hj : j < 11) (Cx : CX E RX2 cX2_buyFor 5 3 85) {B' : Blk} (hret : RetV E V A H0 cX2_buyFor (jb M j B')) {k14 : Int32 → Int32 → Int32 → Blk → Option Blk} (hk14 : ∀ {H : Heap} {locs : List Loc} {ls : Array Slot} {B : Blk} {l1 : Int32} {l2 : Int32} {l3 : Int32}, Wd V A H0 (jb M j B) (eS E) H locs → lv_has ls 5 [(0, .ref (vA V j 0)), (1, .int l1), (2, .int l2), (3, .int l3)] → k14 l1 l2 l3 B = some B' → Wq E H locs 14 ls []) {H : Heap} {locs : List Loc} {ls : Array Slot} {l1 : Int32} {l2 : Int32} {l3 : Int32} {B : Blk} (hW : Wd V A H0 (jb M j B) (eS E) H locs) (hl : lv_has ls 5 [(0, .ref (vA V j 0)), (1, .int l1), (2, .int l2), (3, .int l3)]) (hF : FX2_buyFor_14s k14 l1 l2 l3 B = some B') : Wq E H locs 14 ls [] := by
  unfold FX2_buyFor_14s at hF
  refine q_iload_n Cx dX2_buyFor_14 rfl (lv_at hl 3 rfl) ?_
  refine q_aload_n Cx dX2_buyFor_15 rfl (lv_at hl 0 rfl) ?_
  refine q_get (v := .ref (vA V j 1)) Cx hW (oM hj) ic2 0 (by decide) rfl wd_166 dX2_buyFor_16 ?_
  refine qb_get (v := .int ((B 1) 0)) Cx hW (oP hj) ic4 0 (by decide) rfl wd_97 dX2_buyFor_19 ?_
  refine q_icmp_ge (tgt := 70) Cx dX2_buyFor_22 (by decide) (fun c6 => ?_) (fun c6 => ?_)
  · have hF := (if_pos c6).symm.trans hF
    cases hF
    exact hret _ _ _ _ dX2_buyFor_70 hW
  · have hF := (if_neg c6).symm.trans hF
    refine q_aload_n Cx dX2_buyFor_25 rfl (lv_at hl 0 rfl) ?_
    refine q_iload_n Cx dX2_buyFor_26 rfl (lv_at hl 1 rfl) ?_
    obtain ⟨r7, e8, hF⟩ := c1_some hF
    refine q_callI (as := [.int l1]) (rest := []) Cx (kX2_lateOf hj e8) okX2_lateOf ovX2_lateOf wd_386 ⟨rfl, rfl, by decide, by decide⟩ hW (oM hj) ic2 rfl hl.1 (Nat.le_of_ble_eq_true rfl) rfl dX2_buyFor_27 (fun H locs hW => ?_)
    refine q_if_le (tgt := 70) Cx dX2_buyFor_30 (by decide) (fun c9 => ?_) (fun c9 => ?_)
    · have hF := (if_pos c9).symm.trans hF
      cases hF
      exact hret _ _ _ _ dX2_buyFor_70 hW
    · have hF := (if_neg c9).symm.trans hF
      refine q_aload_n Cx dX2_buyFor_33 rfl (lv_at hl 0 rfl) ?_
      refine q_iload_n Cx dX2_buyFor_34 rfl (lv_at hl 2 rfl) ?_
      obtain ⟨r10, e11, hF⟩ := c1_some hF
      refine q_callI (as := [.int l2]) (rest := []) Cx (kX2_bestSellerExcept hj e11) okX2_bestSellerExcept ovX2_bestSellerExcept wd_403 ⟨rfl, rfl, by decide, by decide⟩ hW (oM hj) ic2 rfl hl.1 (Nat.le_of_ble_eq_true rfl) rfl dX2_buyFor_35 (fun H locs hW => ?_)
      refine q_istore (lv' := [(4, .int r10), (0, .ref (vA V j 0)), (1, .int l1), (2, .int l2), (3, .int l3)]) Cx dX2_buyFor_38 hl (by decide) rfl (fun ls hl => ?_)
      refine q_iload Cx dX2_buyFor_40 (lv_at hl 0 rfl) ?_
      refine q_bipush (v := (-6 : Int32)) Cx dX2_buyFor_42 (by decide) ?_
      refine q_icmp_ne (tgt := 50) Cx dX2_buyFor_44 (by decide) (fun c12 => ?_) (fun c12 => ?_)
      · have hF := (if_neg c12).symm.trans hF
        refine q_iload_n Cx dX2_buyFor_50 rfl (lv_at hl 3 rfl) ?_
        refine q_iconst (v := (1 : Int32)) Cx dX2_buyFor_51 (by decide) ?_
        refine q_iload Cx dX2_buyFor_52 (lv_at hl 0 rfl) ?_
        refine q_ishl Cx dX2_buyFor_54 ?_
        refine q_ior Cx dX2_buyFor_55 ?_
        obtain ⟨x13, e14, hF⟩ := lt1_some hF
        refine q_topi e14 ?_
        refine q_istore_n (lv' := [(2, .int x13), (4, .int r10), (0, .ref (vA V j 0)), (1, .int l1), (3, .int l3)]) Cx dX2_buyFor_56 rfl hl (by decide) rfl (fun ls hl => ?_)
        refine q_aload_n Cx dX2_buyFor_57 rfl (lv_at hl 2 rfl) ?_
        refine q_iload Cx dX2_buyFor_58 (lv_at hl 1 rfl) ?_
        refine q_iload_n Cx dX2_buyFor_60 rfl (lv_at hl 3 rfl) ?_
        obtain ⟨B17, e16, hF⟩ := c1_some hF
        refine q_callV (as := [.int r10, .int l1]) (rest := []) Cx (kX2_buyFrom hj e16) okX2_buyFrom ovX2_buyFrom wd_415 ⟨rfl, rfl, by decide, by decide⟩ hW (oM hj) ic2 rfl hl.1 (Nat.le_of_ble_eq_true rfl) rfl dX2_buyFor_61 (fun H locs hW => ?_)
        obtain ⟨x18, e19, hF⟩ := lt1_some hF
        refine q_iinc (k := 4) (v := x18) (lv' := [(3, .int x18), (2, .int x13), (4, .int r10), (0, .ref (vA V j 0)), (1, .int l1)]) Cx dX2_buyFor_64 hl rfl e19.symm (by decide) rfl (fun ls hl => ?_)
        refine q_goto (tgt := 14) Cx dX2_buyFor_67 (by decide) ?_
        exact hk14 hW (lv_sub hl [3, 4, 1, 0] rfl) hF
      · have hF := (if_pos c12).symm.trans hF
        refine q_goto (tgt := 70) Cx dX2_buyFor_47 (by decide) ?_
        cases hF
        exact hret _ _ _ _ dX2_buyFor_70 hW
def FX2_buyFor_14 : Nat → Int32 → Int32 → Int32 → Blk → Option Blk
  | 0 => fun _ _ _ _ => none
  | n + 1 => FX2_buyFor_14s (FX2_buyFor_14 n)
set_option maxRecDepth 100000 in
theorem wX2_buyFor_14 {E : WE} {V : VT} {A : Nat → Prop} {H0 : Heap} {M : Mem} {j : Nat} (hj : j < 11) (Cx : CX E RX2 cX2_buyFor 5 3 85) {B' : Blk} (hret : RetV E V A H0 cX2_buyFor (jb M j B')) : ∀ (n : Nat) {H : Heap} {locs : List Loc} {ls : Array Slot} {l1 : Int32} {l2 : Int32} {l3 : Int32} {B : Blk}, Wd V A H0 (jb M j B) (eS E) H locs → lv_has ls 5 [(0, .ref (vA V j 0)), (1, .int l1), (2, .int l2), (3, .int l3)] → FX2_buyFor_14 n l1 l2 l3 B = some B' → Wq E H locs 14 ls [] := by
  intro n
  induction n with
  | zero => intro _ _ _ _ _ _ _ hW hl hF; cases hF
  | succ n ih => intro _ _ _ _ _ _ _ hW hl hF; exact wX2_buyFor_14s hj Cx hret ih hW hl hF
def FX2_buyFor (B : Blk) (l1 : Int32) : Option Blk :=
  c1 (FX4_measureFrom B l1) fun B3 =>
  lt1 ((1 : Int32) <<< (l1 &&& 31)) fun x4 =>
  FX2_buyFor_14 fu l1 x4 (0 : Int32) B3
set_option maxRecDepth 100000 in
set_option maxHeartbeats 4000000 in
theorem wX2_buyFor {E : WE} {V : VT} {A : Nat → Prop} {H0 : Heap} {M : Mem} {j : Nat} (hj : j < 11) (Cx : CX E RX2 cX2_buyFor 5 3 85) {B' : Blk} (hret : RetV E V A H0 cX2_buyFor (jb M j B')) {H : Heap} {locs : List Loc} {ls : Array Slot} {l1 : Int32} {B : Blk} (hW : Wd V A H0 (jb M j B) (eS E) H locs) (hl : lv_has ls 5 [(0, .ref (vA V j 0)), (1, .int l1)]) (hF : FX2_buyFor B l1 = some B') : Wq E H locs 0 ls [] := by
  unfold FX2_buyFor at hF
  refine q_aload_n Cx dX2_buyFor_0 rfl (lv_at hl 0 rfl) ?_
  refine q_get (v := .ref (vA V j 1)) Cx hW (oM hj) ic2 0 (by decide) rfl wd_166 dX2_buyFor_1 ?_
  refine q_iload_n Cx dX2_buyFor_4 rfl (lv_at hl 1 rfl) ?_
  obtain ⟨B3, e2, hF⟩ := c1_some hF
  refine q_callV (as := [.int l1]) (rest := []) Cx (kX4_measureFrom hj e2) okX4_measureFrom ovX4_measureFrom wd_395 ⟨rfl, rfl, by decide, by decide⟩ hW (oP hj) ic4 rfl hl.1 (Nat.le_of_ble_eq_true rfl) rfl dX2_buyFor_5 (fun H locs hW => ?_)
  refine q_iconst (v := (1 : Int32)) Cx dX2_buyFor_8 (by decide) ?_
  refine q_iload_n Cx dX2_buyFor_9 rfl (lv_at hl 1 rfl) ?_
  refine q_ishl Cx dX2_buyFor_10 ?_
  obtain ⟨x4, e5, hF⟩ := lt1_some hF
  refine q_topi e5 ?_
  refine q_istore_n (lv' := [(2, .int x4), (0, .ref (vA V j 0)), (1, .int l1)]) Cx dX2_buyFor_11 rfl hl (by decide) rfl (fun ls hl => ?_)
  refine q_iconst (v := (0 : Int32)) Cx dX2_buyFor_12 (by decide) ?_
  refine q_istore_n (lv' := [(3, .int (0 : Int32)), (2, .int x4), (0, .ref (vA V j 0)), (1, .int l1)]) Cx dX2_buyFor_13 rfl hl (by decide) rfl (fun ls hl => ?_)
  exact wX2_buyFor_14 hj Cx hret fu hW (lv_sub hl [2, 3, 1, 0] rfl) hF
set_option maxRecDepth 100000 in
theorem kX2_buyFor {l : Launch} {V : VT} {M : Mem} {j : Nat} (hj : j < 11) {B : Blk} {l1 : Int32} {B' : Blk} (hF : FX2_buyFor B l1 = some B') : MetV l V yX2_buyFor cX2_buyFor 5 ({ frames := 3, cells := 0, slots := 0, locals := 85 } : Room) [.ref (vA V j 0), .int l1] (jb M j B) (jb M j B') := metV_of (by decide) (Nat.le_of_ble_eq_true rfl) (fun E H0 _ Cx hret H locs ls hW hl => wX2_buyFor hj Cx hret hW hl hF)
theorem dX2_tradeAll_0 : decode cX2_tradeAll 0 = .ok (.aload_n 0, 1) := by decide +kernel
theorem dX2_tradeAll_1 : decode cX2_tradeAll 1 = .ok (.getfield 21, 3) := by decide +kernel
theorem dX2_tradeAll_4 : decode cX2_tradeAll 4 = .ok (.getfield 115, 3) := by decide +kernel
theorem dX2_tradeAll_7 : decode cX2_tradeAll 7 = .ok (.istore_n 1, 1) := by decide +kernel
theorem dX2_tradeAll_8 : decode cX2_tradeAll 8 = .ok (.iconst 0, 1) := by decide +kernel
theorem dX2_tradeAll_9 : decode cX2_tradeAll 9 = .ok (.istore_n 2, 1) := by decide +kernel
theorem dX2_tradeAll_10 : decode cX2_tradeAll 10 = .ok (.iconst 0, 1) := by decide +kernel
theorem dX2_tradeAll_11 : decode cX2_tradeAll 11 = .ok (.istore_n 3, 1) := by decide +kernel
theorem dX2_tradeAll_12 : decode cX2_tradeAll 12 = .ok (.iload_n 3, 1) := by decide +kernel
theorem dX2_tradeAll_13 : decode cX2_tradeAll 13 = .ok (.aload_n 0, 1) := by decide +kernel
theorem dX2_tradeAll_14 : decode cX2_tradeAll 14 = .ok (.getfield 12, 3) := by decide +kernel
theorem dX2_tradeAll_17 : decode cX2_tradeAll 17 = .ok (.getfield 66, 3) := by decide +kernel
theorem dX2_tradeAll_20 : decode cX2_tradeAll 20 = .ok (.if_icmp .ge 39, 3) := by decide +kernel
theorem dX2_tradeAll_23 : decode cX2_tradeAll 23 = .ok (.aload_n 0, 1) := by decide +kernel
theorem dX2_tradeAll_24 : decode cX2_tradeAll 24 = .ok (.iload_n 2, 1) := by decide +kernel
theorem dX2_tradeAll_25 : decode cX2_tradeAll 25 = .ok (.invokevirtual 118, 3) := by decide +kernel
theorem dX2_tradeAll_28 : decode cX2_tradeAll 28 = .ok (.istore 4, 2) := by decide +kernel
theorem dX2_tradeAll_30 : decode cX2_tradeAll 30 = .ok (.iload 4, 2) := by decide +kernel
theorem dX2_tradeAll_32 : decode cX2_tradeAll 32 = .ok (.bipush (-6), 2) := by decide +kernel
theorem dX2_tradeAll_34 : decode cX2_tradeAll 34 = .ok (.if_icmp .ne 6, 3) := by decide +kernel
theorem dX2_tradeAll_37 : decode cX2_tradeAll 37 = .ok (.goto 22, 3) := by decide +kernel
theorem dX2_tradeAll_40 : decode cX2_tradeAll 40 = .ok (.iload_n 2, 1) := by decide +kernel
theorem dX2_tradeAll_41 : decode cX2_tradeAll 41 = .ok (.iconst 1, 1) := by decide +kernel
theorem dX2_tradeAll_42 : decode cX2_tradeAll 42 = .ok (.iload 4, 2) := by decide +kernel
theorem dX2_tradeAll_44 : decode cX2_tradeAll 44 = .ok (.ishl, 1) := by decide +kernel
theorem dX2_tradeAll_45 : decode cX2_tradeAll 45 = .ok (.ior, 1) := by decide +kernel
theorem dX2_tradeAll_46 : decode cX2_tradeAll 46 = .ok (.istore_n 2, 1) := by decide +kernel
theorem dX2_tradeAll_47 : decode cX2_tradeAll 47 = .ok (.aload_n 0, 1) := by decide +kernel
theorem dX2_tradeAll_48 : decode cX2_tradeAll 48 = .ok (.iload 4, 2) := by decide +kernel
theorem dX2_tradeAll_50 : decode cX2_tradeAll 50 = .ok (.invokevirtual 121, 3) := by decide +kernel
theorem dX2_tradeAll_53 : decode cX2_tradeAll 53 = .ok (.iinc 3 1, 3) := by decide +kernel
theorem dX2_tradeAll_56 : decode cX2_tradeAll 56 = .ok (.goto (-44), 3) := by decide +kernel
theorem dX2_tradeAll_59 : decode cX2_tradeAll 59 = .ok (.aload_n 0, 1) := by decide +kernel
theorem dX2_tradeAll_60 : decode cX2_tradeAll 60 = .ok (.getfield 21, 3) := by decide +kernel
theorem dX2_tradeAll_63 : decode cX2_tradeAll 63 = .ok (.getfield 115, 3) := by decide +kernel
theorem dX2_tradeAll_66 : decode cX2_tradeAll 66 = .ok (.iload_n 1, 1) := by decide +kernel
theorem dX2_tradeAll_67 : decode cX2_tradeAll 67 = .ok (.isub, 1) := by decide +kernel
theorem dX2_tradeAll_68 : decode cX2_tradeAll 68 = .ok (.ireturn, 1) := by decide +kernel
theorem okX2_tradeAll : CalOK yX2_tradeAll cX2_tradeAll 5 (some .int) 0 := ⟨wd_68, wd_381, by decide +kernel⟩
theorem ovX2_tradeAll : VirOK yX2_tradeAll := ⟨wd_379, wd_380⟩
def FX2_tradeAll_59 (l1 : Int32) (B : Blk) : Option (Int32 × Blk) :=
  some ((((B 2) 0) - l1), B)
set_option maxRecDepth 100000 in
set_option maxHeartbeats 4000000 in
theorem wX2_tradeAll_59 {E : WE} {V : VT} {A : Nat → Prop} {H0 : Heap} {M : Mem} {j : Nat} (hj : j < 11) (Cx : CX E RX2 cX2_tradeAll 5 4 109) {r : Int32} {B' : Blk} (hret : RetI E V A H0 cX2_tradeAll .int r (jb M j B')) {H : Heap} {locs : List Loc} {ls : Array Slot} {l1 : Int32} {B : Blk} (hW : Wd V A H0 (jb M j B) (eS E) H locs) (hl : lv_has ls 5 [(0, .ref (vA V j 0)), (1, .int l1)]) (hF : FX2_tradeAll_59 l1 B = some (r, B')) : Wq E H locs 59 ls [] := by
  unfold FX2_tradeAll_59 at hF
  refine q_aload_n Cx dX2_tradeAll_59 rfl (lv_at hl 0 rfl) ?_
  refine q_get (v := .ref (vA V j 2)) Cx hW (oM hj) ic2 1 (by decide) rfl wd_168 dX2_tradeAll_60 ?_
  refine qb_get (v := .int ((B 2) 0)) Cx hW (oC hj) ic0 0 (by decide) rfl wd_145 dX2_tradeAll_63 ?_
  refine q_iload_n Cx dX2_tradeAll_66 rfl (lv_at hl 1 rfl) ?_
  refine q_isub Cx dX2_tradeAll_67 ?_
  cases hF
  exact hret _ _ _ _ dX2_tradeAll_68 (nI32 _) hW
def FX2_tradeAll_12s (k12 : Int32 → Int32 → Int32 → Blk → Option (Int32 × Blk)) (l1 : Int32) (l2 : Int32) (l3 : Int32) (B : Blk) : Option (Int32 × Blk) :=
  if ((B 1) 0) ≤ l3 then
    FX2_tradeAll_59 l1 B
  else
    c1 (FX2_latestExcept B l2) fun r4 =>
    if r4 = (-6 : Int32) then
      FX2_tradeAll_59 l1 B
    else
      lt1 (l2 ||| ((1 : Int32) <<< (r4 &&& 31))) fun x7 =>
      c1 (FX2_buyFor B r4) fun B11 =>
      lt1 (l3 + (1 : Int32)) fun x12 =>
      k12 l1 x7 x12 B11
set_option maxRecDepth 100000 in
set_option maxHeartbeats 4000000 in
theorem wX2_tradeAll_12s {E : WE} {V : VT} {A : Nat → Prop} {H0 : Heap} {M : Mem} {j : Nat} (hj : j < 11) (Cx : CX E RX2 cX2_tradeAll 5 4 109) {r : Int32} {B' : Blk} (hret : RetI E V A H0 cX2_tradeAll .int r (jb M j B')) {k12 : Int32 → Int32 → Int32 → Blk → Option (Int32 × Blk)} (hk12 : ∀ {H : Heap} {locs : List Loc} {ls : Array Slot} {B : Blk} {l1 : Int32} {l2 : Int32} {l3 : Int32}, Wd V A H0 (jb M j B) (eS E) H locs → lv_has ls 5 [(0, .ref (vA V j 0)), (1, .int l1), (2, .int l2), (3, .int l3)] → k12 l1 l2 l3 B = some (r, B') → Wq E H locs 12 ls []) {H : Heap} {locs : List Loc} {ls : Array Slot} {l1 : Int32} {l2 : Int32} {l3 : Int32} {B : Blk} (hW : Wd V A H0 (jb M j B) (eS E) H locs) (hl : lv_has ls 5 [(0, .ref (vA V j 0)), (1, .int l1), (2, .int l2), (3, .int l3)]) (hF : FX2_tradeAll_12s k12 l1 l2 l3 B = some (r, B')) : Wq E H locs 12 ls [] := by
  unfold FX2_tradeAll_12s at hF
  refine q_iload_n Cx dX2_tradeAll_12 rfl (lv_at hl 3 rfl) ?_
  refine q_aload_n Cx dX2_tradeAll_13 rfl (lv_at hl 0 rfl) ?_
  refine q_get (v := .ref (vA V j 1)) Cx hW (oM hj) ic2 0 (by decide) rfl wd_166 dX2_tradeAll_14 ?_
  refine qb_get (v := .int ((B 1) 0)) Cx hW (oP hj) ic4 0 (by decide) rfl wd_97 dX2_tradeAll_17 ?_
  refine q_icmp_ge (tgt := 59) Cx dX2_tradeAll_20 (by decide) (fun c3 => ?_) (fun c3 => ?_)
  · have hF := (if_pos c3).symm.trans hF
    exact wX2_tradeAll_59 hj Cx hret hW (lv_sub hl [0, 1] rfl) hF
  · have hF := (if_neg c3).symm.trans hF
    refine q_aload_n Cx dX2_tradeAll_23 rfl (lv_at hl 0 rfl) ?_
    refine q_iload_n Cx dX2_tradeAll_24 rfl (lv_at hl 2 rfl) ?_
    obtain ⟨r4, e5, hF⟩ := c1_some hF
    refine q_callI (as := [.int l2]) (rest := []) Cx (kX2_latestExcept hj e5) okX2_latestExcept ovX2_latestExcept wd_382 ⟨rfl, rfl, by decide, by decide⟩ hW (oM hj) ic2 rfl hl.1 (Nat.le_of_ble_eq_true rfl) rfl dX2_tradeAll_25 (fun H locs hW => ?_)
    refine q_istore (lv' := [(4, .int r4), (0, .ref (vA V j 0)), (1, .int l1), (2, .int l2), (3, .int l3)]) Cx dX2_tradeAll_28 hl (by decide) rfl (fun ls hl => ?_)
    refine q_iload Cx dX2_tradeAll_30 (lv_at hl 0 rfl) ?_
    refine q_bipush (v := (-6 : Int32)) Cx dX2_tradeAll_32 (by decide) ?_
    refine q_icmp_ne (tgt := 40) Cx dX2_tradeAll_34 (by decide) (fun c6 => ?_) (fun c6 => ?_)
    · have hF := (if_neg c6).symm.trans hF
      refine q_iload_n Cx dX2_tradeAll_40 rfl (lv_at hl 3 rfl) ?_
      refine q_iconst (v := (1 : Int32)) Cx dX2_tradeAll_41 (by decide) ?_
      refine q_iload Cx dX2_tradeAll_42 (lv_at hl 0 rfl) ?_
      refine q_ishl Cx dX2_tradeAll_44 ?_
      refine q_ior Cx dX2_tradeAll_45 ?_
      obtain ⟨x7, e8, hF⟩ := lt1_some hF
      refine q_topi e8 ?_
      refine q_istore_n (lv' := [(2, .int x7), (4, .int r4), (0, .ref (vA V j 0)), (1, .int l1), (3, .int l3)]) Cx dX2_tradeAll_46 rfl hl (by decide) rfl (fun ls hl => ?_)
      refine q_aload_n Cx dX2_tradeAll_47 rfl (lv_at hl 2 rfl) ?_
      refine q_iload Cx dX2_tradeAll_48 (lv_at hl 1 rfl) ?_
      obtain ⟨B11, e10, hF⟩ := c1_some hF
      refine q_callV (as := [.int r4]) (rest := []) Cx (kX2_buyFor hj e10) okX2_buyFor ovX2_buyFor wd_391 ⟨rfl, rfl, by decide, by decide⟩ hW (oM hj) ic2 rfl hl.1 (Nat.le_of_ble_eq_true rfl) rfl dX2_tradeAll_50 (fun H locs hW => ?_)
      obtain ⟨x12, e13, hF⟩ := lt1_some hF
      refine q_iinc (k := 4) (v := x12) (lv' := [(3, .int x12), (2, .int x7), (4, .int r4), (0, .ref (vA V j 0)), (1, .int l1)]) Cx dX2_tradeAll_53 hl rfl e13.symm (by decide) rfl (fun ls hl => ?_)
      refine q_goto (tgt := 12) Cx dX2_tradeAll_56 (by decide) ?_
      exact hk12 hW (lv_sub hl [3, 4, 1, 0] rfl) hF
    · have hF := (if_pos c6).symm.trans hF
      refine q_goto (tgt := 59) Cx dX2_tradeAll_37 (by decide) ?_
      exact wX2_tradeAll_59 hj Cx hret hW (lv_sub hl [1, 2] rfl) hF
def FX2_tradeAll_12 : Nat → Int32 → Int32 → Int32 → Blk → Option (Int32 × Blk)
  | 0 => fun _ _ _ _ => none
  | n + 1 => FX2_tradeAll_12s (FX2_tradeAll_12 n)
set_option maxRecDepth 100000 in
theorem wX2_tradeAll_12 {E : WE} {V : VT} {A : Nat → Prop} {H0 : Heap} {M : Mem} {j : Nat} (hj : j < 11) (Cx : CX E RX2 cX2_tradeAll 5 4 109) {r : Int32} {B' : Blk} (hret : RetI E V A H0 cX2_tradeAll .int r (jb M j B')) : ∀ (n : Nat) {H : Heap} {locs : List Loc} {ls : Array Slot} {l1 : Int32} {l2 : Int32} {l3 : Int32} {B : Blk}, Wd V A H0 (jb M j B) (eS E) H locs → lv_has ls 5 [(0, .ref (vA V j 0)), (1, .int l1), (2, .int l2), (3, .int l3)] → FX2_tradeAll_12 n l1 l2 l3 B = some (r, B') → Wq E H locs 12 ls [] := by
  intro n
  induction n with
  | zero => intro _ _ _ _ _ _ _ hW hl hF; cases hF
  | succ n ih => intro _ _ _ _ _ _ _ hW hl hF; exact wX2_tradeAll_12s hj Cx hret ih hW hl hF
def FX2_tradeAll (B : Blk) : Option (Int32 × Blk) :=
  lt1 ((B 2) 0) fun x1 =>
  FX2_tradeAll_12 fu x1 (0 : Int32) (0 : Int32) B
set_option maxRecDepth 100000 in
set_option maxHeartbeats 4000000 in
theorem wX2_tradeAll {E : WE} {V : VT} {A : Nat → Prop} {H0 : Heap} {M : Mem} {j : Nat} (hj : j < 11) (Cx : CX E RX2 cX2_tradeAll 5 4 109) {r : Int32} {B' : Blk} (hret : RetI E V A H0 cX2_tradeAll .int r (jb M j B')) {H : Heap} {locs : List Loc} {ls : Array Slot} {B : Blk} (hW : Wd V A H0 (jb M j B) (eS E) H locs) (hl : lv_has ls 5 [(0, .ref (vA V j 0))]) (hF : FX2_tradeAll B = some (r, B')) : Wq E H locs 0 ls [] := by
  unfold FX2_tradeAll at hF
  refine q_aload_n Cx dX2_tradeAll_0 rfl (lv_at hl 0 rfl) ?_
  refine q_get (v := .ref (vA V j 2)) Cx hW (oM hj) ic2 1 (by decide) rfl wd_168 dX2_tradeAll_1 ?_
  refine qb_get (v := .int ((B 2) 0)) Cx hW (oC hj) ic0 0 (by decide) rfl wd_145 dX2_tradeAll_4 ?_
  obtain ⟨x1, e2, hF⟩ := lt1_some hF
  refine q_topi e2 ?_
  refine q_istore_n (lv' := [(1, .int x1), (0, .ref (vA V j 0))]) Cx dX2_tradeAll_7 rfl hl (by decide) rfl (fun ls hl => ?_)
  refine q_iconst (v := (0 : Int32)) Cx dX2_tradeAll_8 (by decide) ?_
  refine q_istore_n (lv' := [(2, .int (0 : Int32)), (1, .int x1), (0, .ref (vA V j 0))]) Cx dX2_tradeAll_9 rfl hl (by decide) rfl (fun ls hl => ?_)
  refine q_iconst (v := (0 : Int32)) Cx dX2_tradeAll_10 (by decide) ?_
  refine q_istore_n (lv' := [(3, .int (0 : Int32)), (2, .int (0 : Int32)), (1, .int x1), (0, .ref (vA V j 0))]) Cx dX2_tradeAll_11 rfl hl (by decide) rfl (fun ls hl => ?_)
  exact wX2_tradeAll_12 hj Cx hret fu hW (lv_sub hl [3, 2, 1, 0] rfl) hF
set_option maxRecDepth 100000 in
theorem kX2_tradeAll {l : Launch} {V : VT} {M : Mem} {j : Nat} (hj : j < 11) {B : Blk} {r : Int32} {B' : Blk} (hF : FX2_tradeAll B = some (r, B')) : MetI l V yX2_tradeAll cX2_tradeAll 5 .int ({ frames := 4, cells := 0, slots := 0, locals := 109 } : Room) [.ref (vA V j 0)] r (jb M j B) (jb M j B') := metI_of (by decide) (Nat.le_of_ble_eq_true rfl) (fun E H0 _ Cx hret H locs ls hW hl => wX2_tradeAll hj Cx hret hW hl hF)
theorem dX2_giveBack_0 : decode cX2_giveBack 0 = .ok (.aload_n 0, 1) := by decide +kernel
theorem dX2_giveBack_1 : decode cX2_giveBack 1 = .ok (.getfield 21, 3) := by decide +kernel
theorem dX2_giveBack_4 : decode cX2_giveBack 4 = .ok (.iload_n 1, 1) := by decide +kernel
theorem dX2_giveBack_5 : decode cX2_giveBack 5 = .ok (.invokevirtual 97, 3) := by decide +kernel
theorem dX2_giveBack_8 : decode cX2_giveBack 8 = .ok (.ifCond .ne 5, 3) := by decide +kernel
theorem dX2_giveBack_11 : decode cX2_giveBack 11 = .ok (.iconst (-1), 1) := by decide +kernel
theorem dX2_giveBack_12 : decode cX2_giveBack 12 = .ok (.ireturn, 1) := by decide +kernel
theorem dX2_giveBack_13 : decode cX2_giveBack 13 = .ok (.iload_n 2, 1) := by decide +kernel
theorem dX2_giveBack_14 : decode cX2_giveBack 14 = .ok (.iconst 1, 1) := by decide +kernel
theorem dX2_giveBack_15 : decode cX2_giveBack 15 = .ok (.if_icmp .lt 23, 3) := by decide +kernel
theorem dX2_giveBack_18 : decode cX2_giveBack 18 = .ok (.iload_n 2, 1) := by decide +kernel
theorem dX2_giveBack_19 : decode cX2_giveBack 19 = .ok (.sipush 500, 3) := by decide +kernel
theorem dX2_giveBack_22 : decode cX2_giveBack 22 = .ok (.if_icmp .gt 16, 3) := by decide +kernel
theorem dX2_giveBack_25 : decode cX2_giveBack 25 = .ok (.iload_n 2, 1) := by decide +kernel
theorem dX2_giveBack_26 : decode cX2_giveBack 26 = .ok (.aload_n 0, 1) := by decide +kernel
theorem dX2_giveBack_27 : decode cX2_giveBack 27 = .ok (.getfield 21, 3) := by decide +kernel
theorem dX2_giveBack_30 : decode cX2_giveBack 30 = .ok (.getfield 98, 3) := by decide +kernel
theorem dX2_giveBack_33 : decode cX2_giveBack 33 = .ok (.iload_n 1, 1) := by decide +kernel
theorem dX2_giveBack_34 : decode cX2_giveBack 34 = .ok (.iaload, 1) := by decide +kernel
theorem dX2_giveBack_35 : decode cX2_giveBack 35 = .ok (.if_icmp .le 6, 3) := by decide +kernel
theorem dX2_giveBack_38 : decode cX2_giveBack 38 = .ok (.bipush (-2), 2) := by decide +kernel
theorem dX2_giveBack_40 : decode cX2_giveBack 40 = .ok (.ireturn, 1) := by decide +kernel
theorem dX2_giveBack_41 : decode cX2_giveBack 41 = .ok (.aload_n 0, 1) := by decide +kernel
theorem dX2_giveBack_42 : decode cX2_giveBack 42 = .ok (.getfield 21, 3) := by decide +kernel
theorem dX2_giveBack_45 : decode cX2_giveBack 45 = .ok (.getfield 101, 3) := by decide +kernel
theorem dX2_giveBack_48 : decode cX2_giveBack 48 = .ok (.iload_n 1, 1) := by decide +kernel
theorem dX2_giveBack_49 : decode cX2_giveBack 49 = .ok (.iaload, 1) := by decide +kernel
theorem dX2_giveBack_50 : decode cX2_giveBack 50 = .ok (.istore_n 3, 1) := by decide +kernel
theorem dX2_giveBack_51 : decode cX2_giveBack 51 = .ok (.aload_n 0, 1) := by decide +kernel
theorem dX2_giveBack_52 : decode cX2_giveBack 52 = .ok (.getfield 21, 3) := by decide +kernel
theorem dX2_giveBack_55 : decode cX2_giveBack 55 = .ok (.getfield 104, 3) := by decide +kernel
theorem dX2_giveBack_58 : decode cX2_giveBack 58 = .ok (.iload_n 1, 1) := by decide +kernel
theorem dX2_giveBack_59 : decode cX2_giveBack 59 = .ok (.iaload, 1) := by decide +kernel
theorem dX2_giveBack_60 : decode cX2_giveBack 60 = .ok (.istore 4, 2) := by decide +kernel
theorem dX2_giveBack_62 : decode cX2_giveBack 62 = .ok (.iload_n 2, 1) := by decide +kernel
theorem dX2_giveBack_63 : decode cX2_giveBack 63 = .ok (.aload_n 0, 1) := by decide +kernel
theorem dX2_giveBack_64 : decode cX2_giveBack 64 = .ok (.getfield 21, 3) := by decide +kernel
theorem dX2_giveBack_67 : decode cX2_giveBack 67 = .ok (.getfield 107, 3) := by decide +kernel
theorem dX2_giveBack_70 : decode cX2_giveBack 70 = .ok (.iload_n 1, 1) := by decide +kernel
theorem dX2_giveBack_71 : decode cX2_giveBack 71 = .ok (.iaload, 1) := by decide +kernel
theorem dX2_giveBack_72 : decode cX2_giveBack 72 = .ok (.imul, 1) := by decide +kernel
theorem dX2_giveBack_73 : decode cX2_giveBack 73 = .ok (.aload_n 0, 1) := by decide +kernel
theorem dX2_giveBack_74 : decode cX2_giveBack 74 = .ok (.getfield 25, 3) := by decide +kernel
theorem dX2_giveBack_77 : decode cX2_giveBack 77 = .ok (.imul, 1) := by decide +kernel
theorem dX2_giveBack_78 : decode cX2_giveBack 78 = .ok (.bipush 100, 2) := by decide +kernel
theorem dX2_giveBack_80 : decode cX2_giveBack 80 = .ok (.idiv, 1) := by decide +kernel
theorem dX2_giveBack_81 : decode cX2_giveBack 81 = .ok (.istore 5, 2) := by decide +kernel
theorem dX2_giveBack_83 : decode cX2_giveBack 83 = .ok (.aload_n 0, 1) := by decide +kernel
theorem dX2_giveBack_84 : decode cX2_giveBack 84 = .ok (.getfield 32, 3) := by decide +kernel
theorem dX2_giveBack_87 : decode cX2_giveBack 87 = .ok (.iload 4, 2) := by decide +kernel
theorem dX2_giveBack_89 : decode cX2_giveBack 89 = .ok (.iaload, 1) := by decide +kernel
theorem dX2_giveBack_90 : decode cX2_giveBack 90 = .ok (.iload_n 2, 1) := by decide +kernel
theorem dX2_giveBack_91 : decode cX2_giveBack 91 = .ok (.isub, 1) := by decide +kernel
theorem dX2_giveBack_92 : decode cX2_giveBack 92 = .ok (.aload_n 0, 1) := by decide +kernel
theorem dX2_giveBack_93 : decode cX2_giveBack 93 = .ok (.getfield 12, 3) := by decide +kernel
theorem dX2_giveBack_96 : decode cX2_giveBack 96 = .ok (.getfield 108, 3) := by decide +kernel
theorem dX2_giveBack_99 : decode cX2_giveBack 99 = .ok (.iload 4, 2) := by decide +kernel
theorem dX2_giveBack_101 : decode cX2_giveBack 101 = .ok (.iaload, 1) := by decide +kernel
theorem dX2_giveBack_102 : decode cX2_giveBack 102 = .ok (.if_icmp .lt 14, 3) := by decide +kernel
theorem dX2_giveBack_105 : decode cX2_giveBack 105 = .ok (.aload_n 0, 1) := by decide +kernel
theorem dX2_giveBack_106 : decode cX2_giveBack 106 = .ok (.getfield 36, 3) := by decide +kernel
theorem dX2_giveBack_109 : decode cX2_giveBack 109 = .ok (.iload_n 3, 1) := by decide +kernel
theorem dX2_giveBack_110 : decode cX2_giveBack 110 = .ok (.iaload, 1) := by decide +kernel
theorem dX2_giveBack_111 : decode cX2_giveBack 111 = .ok (.iload 5, 2) := by decide +kernel
theorem dX2_giveBack_113 : decode cX2_giveBack 113 = .ok (.if_icmp .ge 6, 3) := by decide +kernel
theorem dX2_giveBack_116 : decode cX2_giveBack 116 = .ok (.bipush (-5), 2) := by decide +kernel
theorem dX2_giveBack_118 : decode cX2_giveBack 118 = .ok (.ireturn, 1) := by decide +kernel
theorem dX2_giveBack_119 : decode cX2_giveBack 119 = .ok (.aload_n 0, 1) := by decide +kernel
theorem dX2_giveBack_120 : decode cX2_giveBack 120 = .ok (.getfield 32, 3) := by decide +kernel
theorem dX2_giveBack_123 : decode cX2_giveBack 123 = .ok (.iload 4, 2) := by decide +kernel
theorem dX2_giveBack_125 : decode cX2_giveBack 125 = .ok (.dup2, 1) := by decide +kernel
theorem dX2_giveBack_126 : decode cX2_giveBack 126 = .ok (.iaload, 1) := by decide +kernel
theorem dX2_giveBack_127 : decode cX2_giveBack 127 = .ok (.iload_n 2, 1) := by decide +kernel
theorem dX2_giveBack_128 : decode cX2_giveBack 128 = .ok (.isub, 1) := by decide +kernel
theorem dX2_giveBack_129 : decode cX2_giveBack 129 = .ok (.iastore, 1) := by decide +kernel
theorem dX2_giveBack_130 : decode cX2_giveBack 130 = .ok (.aload_n 0, 1) := by decide +kernel
theorem dX2_giveBack_131 : decode cX2_giveBack 131 = .ok (.getfield 32, 3) := by decide +kernel
theorem dX2_giveBack_134 : decode cX2_giveBack 134 = .ok (.iload_n 3, 1) := by decide +kernel
theorem dX2_giveBack_135 : decode cX2_giveBack 135 = .ok (.dup2, 1) := by decide +kernel
theorem dX2_giveBack_136 : decode cX2_giveBack 136 = .ok (.iaload, 1) := by decide +kernel
theorem dX2_giveBack_137 : decode cX2_giveBack 137 = .ok (.iload_n 2, 1) := by decide +kernel
theorem dX2_giveBack_138 : decode cX2_giveBack 138 = .ok (.iadd, 1) := by decide +kernel
theorem dX2_giveBack_139 : decode cX2_giveBack 139 = .ok (.iastore, 1) := by decide +kernel
theorem dX2_giveBack_140 : decode cX2_giveBack 140 = .ok (.aload_n 0, 1) := by decide +kernel
theorem dX2_giveBack_141 : decode cX2_giveBack 141 = .ok (.getfield 36, 3) := by decide +kernel
theorem dX2_giveBack_144 : decode cX2_giveBack 144 = .ok (.iload_n 3, 1) := by decide +kernel
theorem dX2_giveBack_145 : decode cX2_giveBack 145 = .ok (.dup2, 1) := by decide +kernel
theorem dX2_giveBack_146 : decode cX2_giveBack 146 = .ok (.iaload, 1) := by decide +kernel
theorem dX2_giveBack_147 : decode cX2_giveBack 147 = .ok (.iload 5, 2) := by decide +kernel
theorem dX2_giveBack_149 : decode cX2_giveBack 149 = .ok (.isub, 1) := by decide +kernel
theorem dX2_giveBack_150 : decode cX2_giveBack 150 = .ok (.iastore, 1) := by decide +kernel
theorem dX2_giveBack_151 : decode cX2_giveBack 151 = .ok (.aload_n 0, 1) := by decide +kernel
theorem dX2_giveBack_152 : decode cX2_giveBack 152 = .ok (.getfield 36, 3) := by decide +kernel
theorem dX2_giveBack_155 : decode cX2_giveBack 155 = .ok (.iload 4, 2) := by decide +kernel
theorem dX2_giveBack_157 : decode cX2_giveBack 157 = .ok (.dup2, 1) := by decide +kernel
theorem dX2_giveBack_158 : decode cX2_giveBack 158 = .ok (.iaload, 1) := by decide +kernel
theorem dX2_giveBack_159 : decode cX2_giveBack 159 = .ok (.iload 5, 2) := by decide +kernel
theorem dX2_giveBack_161 : decode cX2_giveBack 161 = .ok (.iadd, 1) := by decide +kernel
theorem dX2_giveBack_162 : decode cX2_giveBack 162 = .ok (.iastore, 1) := by decide +kernel
theorem dX2_giveBack_163 : decode cX2_giveBack 163 = .ok (.aload_n 0, 1) := by decide +kernel
theorem dX2_giveBack_164 : decode cX2_giveBack 164 = .ok (.getfield 21, 3) := by decide +kernel
theorem dX2_giveBack_167 : decode cX2_giveBack 167 = .ok (.iload_n 1, 1) := by decide +kernel
theorem dX2_giveBack_168 : decode cX2_giveBack 168 = .ok (.iload_n 2, 1) := by decide +kernel
theorem dX2_giveBack_169 : decode cX2_giveBack 169 = .ok (.invokevirtual 111, 3) := by decide +kernel
theorem dX2_giveBack_172 : decode cX2_giveBack 172 = .ok (.ireturn, 1) := by decide +kernel
theorem okX2_giveBack : CalOK yX2_giveBack cX2_giveBack 6 (some .int) 2 := ⟨wd_68, wd_442, by decide +kernel⟩
theorem ovX2_giveBack : VirOK yX2_giveBack := ⟨wd_440, wd_441⟩
def FX2_giveBack (B : Blk) (l1 : Int32) (l2 : Int32) : Option (Int32 × Blk) :=
  c1 (FX0_has B l1) fun r1 =>
  if r1 = 0 then
    some ((-1 : Int32), B)
  else
    if l2 < (1 : Int32) then
      some ((-2 : Int32), B)
    else
      if (500 : Int32) < l2 then
        some ((-2 : Int32), B)
      else
        ld (B 14) 40 l1 fun v6 =>
        if l2 ≤ v6 then
          ld (B 12) 40 l1 fun v10 =>
          ld (B 13) 40 l1 fun v13 =>
          ld (B 15) 40 l1 fun v16 =>
          lt1 (((l2 * v16) * ((B 0) 2)) / (100 : Int32)) fun x19 =>
          ld (B 16) 24 v13 fun v21 =>
          ld (B 6) 24 v13 fun v24 =>
          if (v21 - l2) < v24 then
            some ((-5 : Int32), B)
          else
            ld (B 17) 24 v10 fun v28 =>
            if x19 ≤ v28 then
              ld (B 16) 24 v13 fun v32 =>
              stb B 16 24 v13 (v32 - l2) fun B35 =>
              ld (B35 16) 24 v10 fun v38 =>
              stb B35 16 24 v10 (v38 + l2) fun B41 =>
              ld (B41 17) 24 v10 fun v44 =>
              stb B41 17 24 v10 (v44 - x19) fun B47 =>
              ld (B47 17) 24 v13 fun v50 =>
              stb B47 17 24 v13 (v50 + x19) fun B53 =>
              c2 (FX0_lessen B53 l1 l2) fun r56 B58 =>
              some (r56, B58)
            else
              some ((-5 : Int32), B)
        else
          some ((-2 : Int32), B)
set_option maxRecDepth 100000 in
set_option maxHeartbeats 4000000 in
theorem wX2_giveBack {E : WE} {V : VT} {A : Nat → Prop} {H0 : Heap} {M : Mem} {j : Nat} (hj : j < 11) (Cx : CX E RX2 cX2_giveBack 6 2 45) {r : Int32} {B' : Blk} (hret : RetI E V A H0 cX2_giveBack .int r (jb M j B')) {H : Heap} {locs : List Loc} {ls : Array Slot} {l1 : Int32} {l2 : Int32} {B : Blk} (hW : Wd V A H0 (jb M j B) (eS E) H locs) (hl : lv_has ls 6 [(0, .ref (vA V j 0)), (1, .int l1), (2, .int l2)]) (hF : FX2_giveBack B l1 l2 = some (r, B')) : Wq E H locs 0 ls [] := by
  unfold FX2_giveBack at hF
  refine q_aload_n Cx dX2_giveBack_0 rfl (lv_at hl 0 rfl) ?_
  refine q_get (v := .ref (vA V j 2)) Cx hW (oM hj) ic2 1 (by decide) rfl wd_168 dX2_giveBack_1 ?_
  refine q_iload_n Cx dX2_giveBack_4 rfl (lv_at hl 1 rfl) ?_
  obtain ⟨r1, e2, hF⟩ := c1_some hF
  refine q_callI (as := [.int l1]) (rest := []) Cx (kX0_has hj e2) okX0_has ovX0_has wd_443 ⟨rfl, rfl, by decide, by decide⟩ hW (oC hj) ic0 rfl hl.1 (Nat.le_of_ble_eq_true rfl) rfl dX2_giveBack_5 (fun H locs hW => ?_)
  refine q_if_ne (tgt := 13) Cx dX2_giveBack_8 (by decide) (fun c3 => ?_) (fun c3 => ?_)
  · have hF := (if_neg c3).symm.trans hF
    refine q_iload_n Cx dX2_giveBack_13 rfl (lv_at hl 2 rfl) ?_
    refine q_iconst (v := (1 : Int32)) Cx dX2_giveBack_14 (by decide) ?_
    refine q_icmp_lt (tgt := 38) Cx dX2_giveBack_15 (by decide) (fun c4 => ?_) (fun c4 => ?_)
    · have hF := (if_pos c4).symm.trans hF
      refine q_bipush (v := (-2 : Int32)) Cx dX2_giveBack_38 (by decide) ?_
      cases hF
      exact hret _ _ _ _ dX2_giveBack_40 (nI32 _) hW
    · have hF := (if_neg c4).symm.trans hF
      refine q_iload_n Cx dX2_giveBack_18 rfl (lv_at hl 2 rfl) ?_
      refine q_sipush (v := (500 : Int32)) Cx dX2_giveBack_19 (by decide) ?_
      refine q_icmp_gt (tgt := 38) Cx dX2_giveBack_22 (by decide) (fun c5 => ?_) (fun c5 => ?_)
      · have hF := (if_pos c5).symm.trans hF
        refine q_bipush (v := (-2 : Int32)) Cx dX2_giveBack_38 (by decide) ?_
        cases hF
        exact hret _ _ _ _ dX2_giveBack_40 (nI32 _) hW
      · have hF := (if_neg c5).symm.trans hF
        refine q_iload_n Cx dX2_giveBack_25 rfl (lv_at hl 2 rfl) ?_
        refine q_aload_n Cx dX2_giveBack_26 rfl (lv_at hl 0 rfl) ?_
        refine q_get (v := .ref (vA V j 2)) Cx hW (oM hj) ic2 1 (by decide) rfl wd_168 dX2_giveBack_27 ?_
        refine q_get (v := .ref (vA V j 14)) Cx hW (oC hj) ic0 3 (by decide) rfl wd_152 dX2_giveBack_30 ?_
        refine q_iload_n Cx dX2_giveBack_33 rfl (lv_at hl 1 rfl) ?_
        obtain ⟨h7, v6, e8, hF⟩ := ld_some hF
        refine qb_iald Cx hW (ai_14 hj) h7 e8 dX2_giveBack_34 ?_
        refine q_icmp_le (tgt := 41) Cx dX2_giveBack_35 (by decide) (fun c9 => ?_) (fun c9 => ?_)
        · have hF := (if_pos c9).symm.trans hF
          refine q_aload_n Cx dX2_giveBack_41 rfl (lv_at hl 0 rfl) ?_
          refine q_get (v := .ref (vA V j 2)) Cx hW (oM hj) ic2 1 (by decide) rfl wd_168 dX2_giveBack_42 ?_
          refine q_get (v := .ref (vA V j 12)) Cx hW (oC hj) ic0 1 (by decide) rfl wd_148 dX2_giveBack_45 ?_
          refine q_iload_n Cx dX2_giveBack_48 rfl (lv_at hl 1 rfl) ?_
          obtain ⟨h11, v10, e12, hF⟩ := ld_some hF
          refine qb_iald Cx hW (ai_12 hj) h11 e12 dX2_giveBack_49 ?_
          refine q_istore_n (lv' := [(3, .int v10), (0, .ref (vA V j 0)), (1, .int l1), (2, .int l2)]) Cx dX2_giveBack_50 rfl hl (by decide) rfl (fun ls hl => ?_)
          refine q_aload_n Cx dX2_giveBack_51 rfl (lv_at hl 1 rfl) ?_
          refine q_get (v := .ref (vA V j 2)) Cx hW (oM hj) ic2 1 (by decide) rfl wd_168 dX2_giveBack_52 ?_
          refine q_get (v := .ref (vA V j 13)) Cx hW (oC hj) ic0 2 (by decide) rfl wd_150 dX2_giveBack_55 ?_
          refine q_iload_n Cx dX2_giveBack_58 rfl (lv_at hl 2 rfl) ?_
          obtain ⟨h14, v13, e15, hF⟩ := ld_some hF
          refine qb_iald Cx hW (ai_13 hj) h14 e15 dX2_giveBack_59 ?_
          refine q_istore (lv' := [(4, .int v13), (3, .int v10), (0, .ref (vA V j 0)), (1, .int l1), (2, .int l2)]) Cx dX2_giveBack_60 hl (by decide) rfl (fun ls hl => ?_)
          refine q_iload_n Cx dX2_giveBack_62 rfl (lv_at hl 4 rfl) ?_
          refine q_aload_n Cx dX2_giveBack_63 rfl (lv_at hl 2 rfl) ?_
          refine q_get (v := .ref (vA V j 2)) Cx hW (oM hj) ic2 1 (by decide) rfl wd_168 dX2_giveBack_64 ?_
          refine q_get (v := .ref (vA V j 15)) Cx hW (oC hj) ic0 4 (by decide) rfl wd_154 dX2_giveBack_67 ?_
          refine q_iload_n Cx dX2_giveBack_70 rfl (lv_at hl 3 rfl) ?_
          obtain ⟨h17, v16, e18, hF⟩ := ld_some hF
          refine qb_iald Cx hW (ai_15 hj) h17 e18 dX2_giveBack_71 ?_
          refine q_imul Cx dX2_giveBack_72 ?_
          refine q_aload_n Cx dX2_giveBack_73 rfl (lv_at hl 2 rfl) ?_
          refine qb_get (v := .int ((B 0) 2)) Cx hW (oM hj) ic2 2 (by decide) rfl wd_170 dX2_giveBack_74 ?_
          refine q_imul Cx dX2_giveBack_77 ?_
          refine q_bipush (v := (100 : Int32)) Cx dX2_giveBack_78 (by decide) ?_
          refine q_idiv Cx dX2_giveBack_80 (by decide) ?_
          obtain ⟨x19, e20, hF⟩ := lt1_some hF
          refine q_topi e20 ?_
          refine q_istore (lv' := [(5, .int x19), (4, .int v13), (3, .int v10), (0, .ref (vA V j 0)), (1, .int l1), (2, .int l2)]) Cx dX2_giveBack_81 hl (by decide) rfl (fun ls hl => ?_)
          refine q_aload_n Cx dX2_giveBack_83 rfl (lv_at hl 3 rfl) ?_
          refine q_get (v := .ref (vA V j 16)) Cx hW (oM hj) ic2 4 (by decide) rfl wd_172 dX2_giveBack_84 ?_
          refine q_iload Cx dX2_giveBack_87 (lv_at hl 1 rfl) ?_
          obtain ⟨h22, v21, e23, hF⟩ := ld_some hF
          refine qb_iald Cx hW (ai_16 hj) h22 e23 dX2_giveBack_89 ?_
          refine q_iload_n Cx dX2_giveBack_90 rfl (lv_at hl 5 rfl) ?_
          refine q_isub Cx dX2_giveBack_91 ?_
          refine q_aload_n Cx dX2_giveBack_92 rfl (lv_at hl 3 rfl) ?_
          refine q_get (v := .ref (vA V j 1)) Cx hW (oM hj) ic2 0 (by decide) rfl wd_166 dX2_giveBack_93 ?_
          refine q_get (v := .ref (vA V j 6)) Cx hW (oP hj) ic4 4 (by decide) rfl wd_106 dX2_giveBack_96 ?_
          refine q_iload Cx dX2_giveBack_99 (lv_at hl 1 rfl) ?_
          obtain ⟨h25, v24, e26, hF⟩ := ld_some hF
          refine qb_iald Cx hW (ai_6 hj) h25 e26 dX2_giveBack_101 ?_
          refine q_icmp_lt (tgt := 116) Cx dX2_giveBack_102 (by decide) (fun c27 => ?_) (fun c27 => ?_)
          · have hF := (if_pos c27).symm.trans hF
            refine q_bipush (v := (-5 : Int32)) Cx dX2_giveBack_116 (by decide) ?_
            cases hF
            exact hret _ _ _ _ dX2_giveBack_118 (nI32 _) hW
          · have hF := (if_neg c27).symm.trans hF
            refine q_aload_n Cx dX2_giveBack_105 rfl (lv_at hl 3 rfl) ?_
            refine q_get (v := .ref (vA V j 17)) Cx hW (oM hj) ic2 5 (by decide) rfl wd_174 dX2_giveBack_106 ?_
            refine q_iload_n Cx dX2_giveBack_109 rfl (lv_at hl 2 rfl) ?_
            obtain ⟨h29, v28, e30, hF⟩ := ld_some hF
            refine qb_iald Cx hW (ai_17 hj) h29 e30 dX2_giveBack_110 ?_
            refine q_iload Cx dX2_giveBack_111 (lv_at hl 0 rfl) ?_
            refine q_icmp_ge (tgt := 119) Cx dX2_giveBack_113 (by decide) (fun c31 => ?_) (fun c31 => ?_)
            · have hF := (if_pos c31).symm.trans hF
              refine q_aload_n Cx dX2_giveBack_119 rfl (lv_at hl 3 rfl) ?_
              refine q_get (v := .ref (vA V j 16)) Cx hW (oM hj) ic2 4 (by decide) rfl wd_172 dX2_giveBack_120 ?_
              refine q_iload Cx dX2_giveBack_123 (lv_at hl 1 rfl) ?_
              refine q_dup2 Cx dX2_giveBack_125 rfl rfl ?_
              obtain ⟨h33, v32, e34, hF⟩ := ld_some hF
              refine qb_iald Cx hW (ai_16 hj) h33 e34 dX2_giveBack_126 ?_
              refine q_iload_n Cx dX2_giveBack_127 rfl (lv_at hl 5 rfl) ?_
              refine q_isub Cx dX2_giveBack_128 ?_
              obtain ⟨h36, B35, e37, hF⟩ := stb_some hF
              refine qb_iast Cx hW (ai_16 hj) h36 e37 dX2_giveBack_129 (fun H locs hW => ?_)
              refine q_aload_n Cx dX2_giveBack_130 rfl (lv_at hl 3 rfl) ?_
              refine q_get (v := .ref (vA V j 16)) Cx hW (oM hj) ic2 4 (by decide) rfl wd_172 dX2_giveBack_131 ?_
              refine q_iload_n Cx dX2_giveBack_134 rfl (lv_at hl 2 rfl) ?_
              refine q_dup2 Cx dX2_giveBack_135 rfl rfl ?_
              obtain ⟨h39, v38, e40, hF⟩ := ld_some hF
              refine qb_iald Cx hW (ai_16 hj) h39 e40 dX2_giveBack_136 ?_
              refine q_iload_n Cx dX2_giveBack_137 rfl (lv_at hl 5 rfl) ?_
              refine q_iadd Cx dX2_giveBack_138 ?_
              obtain ⟨h42, B41, e43, hF⟩ := stb_some hF
              refine qb_iast Cx hW (ai_16 hj) h42 e43 dX2_giveBack_139 (fun H locs hW => ?_)
              refine q_aload_n Cx dX2_giveBack_140 rfl (lv_at hl 3 rfl) ?_
              refine q_get (v := .ref (vA V j 17)) Cx hW (oM hj) ic2 5 (by decide) rfl wd_174 dX2_giveBack_141 ?_
              refine q_iload_n Cx dX2_giveBack_144 rfl (lv_at hl 2 rfl) ?_
              refine q_dup2 Cx dX2_giveBack_145 rfl rfl ?_
              obtain ⟨h45, v44, e46, hF⟩ := ld_some hF
              refine qb_iald Cx hW (ai_17 hj) h45 e46 dX2_giveBack_146 ?_
              refine q_iload Cx dX2_giveBack_147 (lv_at hl 0 rfl) ?_
              refine q_isub Cx dX2_giveBack_149 ?_
              obtain ⟨h48, B47, e49, hF⟩ := stb_some hF
              refine qb_iast Cx hW (ai_17 hj) h48 e49 dX2_giveBack_150 (fun H locs hW => ?_)
              refine q_aload_n Cx dX2_giveBack_151 rfl (lv_at hl 3 rfl) ?_
              refine q_get (v := .ref (vA V j 17)) Cx hW (oM hj) ic2 5 (by decide) rfl wd_174 dX2_giveBack_152 ?_
              refine q_iload Cx dX2_giveBack_155 (lv_at hl 1 rfl) ?_
              refine q_dup2 Cx dX2_giveBack_157 rfl rfl ?_
              obtain ⟨h51, v50, e52, hF⟩ := ld_some hF
              refine qb_iald Cx hW (ai_17 hj) h51 e52 dX2_giveBack_158 ?_
              refine q_iload Cx dX2_giveBack_159 (lv_at hl 0 rfl) ?_
              refine q_iadd Cx dX2_giveBack_161 ?_
              obtain ⟨h54, B53, e55, hF⟩ := stb_some hF
              refine qb_iast Cx hW (ai_17 hj) h54 e55 dX2_giveBack_162 (fun H locs hW => ?_)
              refine q_aload_n Cx dX2_giveBack_163 rfl (lv_at hl 3 rfl) ?_
              refine q_get (v := .ref (vA V j 2)) Cx hW (oM hj) ic2 1 (by decide) rfl wd_168 dX2_giveBack_164 ?_
              refine q_iload_n Cx dX2_giveBack_167 rfl (lv_at hl 4 rfl) ?_
              refine q_iload_n Cx dX2_giveBack_168 rfl (lv_at hl 5 rfl) ?_
              obtain ⟨r56, B58, e57, hF⟩ := c2_some hF
              refine q_callI (as := [.int l1, .int l2]) (rest := []) Cx (kX0_lessen hj e57) okX0_lessen ovX0_lessen wd_447 ⟨rfl, rfl, by decide, by decide⟩ hW (oC hj) ic0 rfl hl.1 (Nat.le_of_ble_eq_true rfl) rfl dX2_giveBack_169 (fun H locs hW => ?_)
              cases hF
              exact hret _ _ _ _ dX2_giveBack_172 (nI32 _) hW
            · have hF := (if_neg c31).symm.trans hF
              refine q_bipush (v := (-5 : Int32)) Cx dX2_giveBack_116 (by decide) ?_
              cases hF
              exact hret _ _ _ _ dX2_giveBack_118 (nI32 _) hW
        · have hF := (if_neg c9).symm.trans hF
          refine q_bipush (v := (-2 : Int32)) Cx dX2_giveBack_38 (by decide) ?_
          cases hF
          exact hret _ _ _ _ dX2_giveBack_40 (nI32 _) hW
  · have hF := (if_pos c3).symm.trans hF
    refine q_iconst (v := (-1 : Int32)) Cx dX2_giveBack_11 (by decide) ?_
    cases hF
    exact hret _ _ _ _ dX2_giveBack_12 (nI32 _) hW
set_option maxRecDepth 100000 in
theorem kX2_giveBack {l : Launch} {V : VT} {M : Mem} {j : Nat} (hj : j < 11) {B : Blk} {l1 : Int32} {l2 : Int32} {r : Int32} {B' : Blk} (hF : FX2_giveBack B l1 l2 = some (r, B')) : MetI l V yX2_giveBack cX2_giveBack 6 .int ({ frames := 2, cells := 0, slots := 0, locals := 45 } : Room) [.ref (vA V j 0), .int l1, .int l2] r (jb M j B) (jb M j B') := metI_of (by decide) (Nat.le_of_ble_eq_true rfl) (fun E H0 _ Cx hret H locs ls hW hl => wX2_giveBack hj Cx hret hW hl hF)
theorem dX2_giveMoney_0 : decode cX2_giveMoney 0 = .ok (.aload_n 0, 1) := by decide +kernel
theorem dX2_giveMoney_1 : decode cX2_giveMoney 1 = .ok (.getfield 12, 3) := by decide +kernel
theorem dX2_giveMoney_4 : decode cX2_giveMoney 4 = .ok (.iload_n 1, 1) := by decide +kernel
theorem dX2_giveMoney_5 : decode cX2_giveMoney 5 = .ok (.invokevirtual 61, 3) := by decide +kernel
theorem dX2_giveMoney_8 : decode cX2_giveMoney 8 = .ok (.ifCond .eq 19, 3) := by decide +kernel
theorem dX2_giveMoney_11 : decode cX2_giveMoney 11 = .ok (.aload_n 0, 1) := by decide +kernel
theorem dX2_giveMoney_12 : decode cX2_giveMoney 12 = .ok (.getfield 12, 3) := by decide +kernel
theorem dX2_giveMoney_15 : decode cX2_giveMoney 15 = .ok (.iload_n 2, 1) := by decide +kernel
theorem dX2_giveMoney_16 : decode cX2_giveMoney 16 = .ok (.invokevirtual 61, 3) := by decide +kernel
theorem dX2_giveMoney_19 : decode cX2_giveMoney 19 = .ok (.ifCond .eq 8, 3) := by decide +kernel
theorem dX2_giveMoney_22 : decode cX2_giveMoney 22 = .ok (.iload_n 1, 1) := by decide +kernel
theorem dX2_giveMoney_23 : decode cX2_giveMoney 23 = .ok (.iload_n 2, 1) := by decide +kernel
theorem dX2_giveMoney_24 : decode cX2_giveMoney 24 = .ok (.if_icmp .ne 5, 3) := by decide +kernel
theorem dX2_giveMoney_27 : decode cX2_giveMoney 27 = .ok (.iconst (-1), 1) := by decide +kernel
theorem dX2_giveMoney_28 : decode cX2_giveMoney 28 = .ok (.ireturn, 1) := by decide +kernel
theorem dX2_giveMoney_29 : decode cX2_giveMoney 29 = .ok (.iload_n 3, 1) := by decide +kernel
theorem dX2_giveMoney_30 : decode cX2_giveMoney 30 = .ok (.iconst 1, 1) := by decide +kernel
theorem dX2_giveMoney_31 : decode cX2_giveMoney 31 = .ok (.if_icmp .lt 9, 3) := by decide +kernel
theorem dX2_giveMoney_34 : decode cX2_giveMoney 34 = .ok (.iload_n 3, 1) := by decide +kernel
theorem dX2_giveMoney_35 : decode cX2_giveMoney 35 = .ok (.ldc 65, 2) := by decide +kernel
theorem dX2_giveMoney_37 : decode cX2_giveMoney 37 = .ok (.if_icmp .le 6, 3) := by decide +kernel
theorem dX2_giveMoney_40 : decode cX2_giveMoney 40 = .ok (.bipush (-2), 2) := by decide +kernel
theorem dX2_giveMoney_42 : decode cX2_giveMoney 42 = .ok (.ireturn, 1) := by decide +kernel
theorem dX2_giveMoney_43 : decode cX2_giveMoney 43 = .ok (.aload_n 0, 1) := by decide +kernel
theorem dX2_giveMoney_44 : decode cX2_giveMoney 44 = .ok (.getfield 36, 3) := by decide +kernel
theorem dX2_giveMoney_47 : decode cX2_giveMoney 47 = .ok (.iload_n 1, 1) := by decide +kernel
theorem dX2_giveMoney_48 : decode cX2_giveMoney 48 = .ok (.iaload, 1) := by decide +kernel
theorem dX2_giveMoney_49 : decode cX2_giveMoney 49 = .ok (.iload_n 3, 1) := by decide +kernel
theorem dX2_giveMoney_50 : decode cX2_giveMoney 50 = .ok (.if_icmp .ge 6, 3) := by decide +kernel
theorem dX2_giveMoney_53 : decode cX2_giveMoney 53 = .ok (.bipush (-5), 2) := by decide +kernel
theorem dX2_giveMoney_55 : decode cX2_giveMoney 55 = .ok (.ireturn, 1) := by decide +kernel
theorem dX2_giveMoney_56 : decode cX2_giveMoney 56 = .ok (.aload_n 0, 1) := by decide +kernel
theorem dX2_giveMoney_57 : decode cX2_giveMoney 57 = .ok (.getfield 36, 3) := by decide +kernel
theorem dX2_giveMoney_60 : decode cX2_giveMoney 60 = .ok (.iload_n 1, 1) := by decide +kernel
theorem dX2_giveMoney_61 : decode cX2_giveMoney 61 = .ok (.dup2, 1) := by decide +kernel
theorem dX2_giveMoney_62 : decode cX2_giveMoney 62 = .ok (.iaload, 1) := by decide +kernel
theorem dX2_giveMoney_63 : decode cX2_giveMoney 63 = .ok (.iload_n 3, 1) := by decide +kernel
theorem dX2_giveMoney_64 : decode cX2_giveMoney 64 = .ok (.isub, 1) := by decide +kernel
theorem dX2_giveMoney_65 : decode cX2_giveMoney 65 = .ok (.iastore, 1) := by decide +kernel
theorem dX2_giveMoney_66 : decode cX2_giveMoney 66 = .ok (.aload_n 0, 1) := by decide +kernel
theorem dX2_giveMoney_67 : decode cX2_giveMoney 67 = .ok (.getfield 36, 3) := by decide +kernel
theorem dX2_giveMoney_70 : decode cX2_giveMoney 70 = .ok (.iload_n 2, 1) := by decide +kernel
theorem dX2_giveMoney_71 : decode cX2_giveMoney 71 = .ok (.dup2, 1) := by decide +kernel
theorem dX2_giveMoney_72 : decode cX2_giveMoney 72 = .ok (.iaload, 1) := by decide +kernel
theorem dX2_giveMoney_73 : decode cX2_giveMoney 73 = .ok (.iload_n 3, 1) := by decide +kernel
theorem dX2_giveMoney_74 : decode cX2_giveMoney 74 = .ok (.iadd, 1) := by decide +kernel
theorem dX2_giveMoney_75 : decode cX2_giveMoney 75 = .ok (.iastore, 1) := by decide +kernel
theorem dX2_giveMoney_76 : decode cX2_giveMoney 76 = .ok (.aload_n 0, 1) := by decide +kernel
theorem dX2_giveMoney_77 : decode cX2_giveMoney 77 = .ok (.getfield 36, 3) := by decide +kernel
theorem dX2_giveMoney_80 : decode cX2_giveMoney 80 = .ok (.iload_n 1, 1) := by decide +kernel
theorem dX2_giveMoney_81 : decode cX2_giveMoney 81 = .ok (.iaload, 1) := by decide +kernel
theorem dX2_giveMoney_82 : decode cX2_giveMoney 82 = .ok (.ireturn, 1) := by decide +kernel
theorem okX2_giveMoney : CalOK yX2_giveMoney cX2_giveMoney 4 (some .int) 3 := ⟨wd_68, wd_462, by decide +kernel⟩
theorem ovX2_giveMoney : VirOK yX2_giveMoney := ⟨wd_460, wd_461⟩
def FX2_giveMoney (B : Blk) (l1 : Int32) (l2 : Int32) (l3 : Int32) : Option (Int32 × Blk) :=
  c1 (FX4_has B l1) fun r1 =>
  if r1 = 0 then
    some ((-1 : Int32), B)
  else
    c1 (FX4_has B l2) fun r4 =>
    if r4 = 0 then
      some ((-1 : Int32), B)
    else
      if l1 = l2 then
        some ((-1 : Int32), B)
      else
        if l3 < (1 : Int32) then
          some ((-2 : Int32), B)
        else
          if l3 ≤ (100000 : Int32) then
            ld (B 17) 24 l1 fun v10 =>
            if l3 ≤ v10 then
              ld (B 17) 24 l1 fun v14 =>
              stb B 17 24 l1 (v14 - l3) fun B17 =>
              ld (B17 17) 24 l2 fun v20 =>
              stb B17 17 24 l2 (v20 + l3) fun B23 =>
              ld (B23 17) 24 l1 fun v26 =>
              some (v26, B23)
            else
              some ((-5 : Int32), B)
          else
            some ((-2 : Int32), B)
set_option maxRecDepth 100000 in
set_option maxHeartbeats 4000000 in
theorem wX2_giveMoney {E : WE} {V : VT} {A : Nat → Prop} {H0 : Heap} {M : Mem} {j : Nat} (hj : j < 11) (Cx : CX E RX2 cX2_giveMoney 4 1 21) {r : Int32} {B' : Blk} (hret : RetI E V A H0 cX2_giveMoney .int r (jb M j B')) {H : Heap} {locs : List Loc} {ls : Array Slot} {l1 : Int32} {l2 : Int32} {l3 : Int32} {B : Blk} (hW : Wd V A H0 (jb M j B) (eS E) H locs) (hl : lv_has ls 4 [(0, .ref (vA V j 0)), (1, .int l1), (2, .int l2), (3, .int l3)]) (hF : FX2_giveMoney B l1 l2 l3 = some (r, B')) : Wq E H locs 0 ls [] := by
  unfold FX2_giveMoney at hF
  refine q_aload_n Cx dX2_giveMoney_0 rfl (lv_at hl 0 rfl) ?_
  refine q_get (v := .ref (vA V j 1)) Cx hW (oM hj) ic2 0 (by decide) rfl wd_166 dX2_giveMoney_1 ?_
  refine q_iload_n Cx dX2_giveMoney_4 rfl (lv_at hl 1 rfl) ?_
  obtain ⟨r1, e2, hF⟩ := c1_some hF
  refine q_callI (as := [.int l1]) (rest := []) Cx (kX4_has hj e2) okX4_has ovX4_has wd_308 ⟨rfl, rfl, by decide, by decide⟩ hW (oP hj) ic4 rfl hl.1 (Nat.le_of_ble_eq_true rfl) rfl dX2_giveMoney_5 (fun H locs hW => ?_)
  refine q_if_eq (tgt := 27) Cx dX2_giveMoney_8 (by decide) (fun c3 => ?_) (fun c3 => ?_)
  · have hF := (if_pos c3).symm.trans hF
    refine q_iconst (v := (-1 : Int32)) Cx dX2_giveMoney_27 (by decide) ?_
    cases hF
    exact hret _ _ _ _ dX2_giveMoney_28 (nI32 _) hW
  · have hF := (if_neg c3).symm.trans hF
    refine q_aload_n Cx dX2_giveMoney_11 rfl (lv_at hl 0 rfl) ?_
    refine q_get (v := .ref (vA V j 1)) Cx hW (oM hj) ic2 0 (by decide) rfl wd_166 dX2_giveMoney_12 ?_
    refine q_iload_n Cx dX2_giveMoney_15 rfl (lv_at hl 2 rfl) ?_
    obtain ⟨r4, e5, hF⟩ := c1_some hF
    refine q_callI (as := [.int l2]) (rest := []) Cx (kX4_has hj e5) okX4_has ovX4_has wd_308 ⟨rfl, rfl, by decide, by decide⟩ hW (oP hj) ic4 rfl hl.1 (Nat.le_of_ble_eq_true rfl) rfl dX2_giveMoney_16 (fun H locs hW => ?_)
    refine q_if_eq (tgt := 27) Cx dX2_giveMoney_19 (by decide) (fun c6 => ?_) (fun c6 => ?_)
    · have hF := (if_pos c6).symm.trans hF
      refine q_iconst (v := (-1 : Int32)) Cx dX2_giveMoney_27 (by decide) ?_
      cases hF
      exact hret _ _ _ _ dX2_giveMoney_28 (nI32 _) hW
    · have hF := (if_neg c6).symm.trans hF
      refine q_iload_n Cx dX2_giveMoney_22 rfl (lv_at hl 1 rfl) ?_
      refine q_iload_n Cx dX2_giveMoney_23 rfl (lv_at hl 2 rfl) ?_
      refine q_icmp_ne (tgt := 29) Cx dX2_giveMoney_24 (by decide) (fun c7 => ?_) (fun c7 => ?_)
      · have hF := (if_neg c7).symm.trans hF
        refine q_iload_n Cx dX2_giveMoney_29 rfl (lv_at hl 3 rfl) ?_
        refine q_iconst (v := (1 : Int32)) Cx dX2_giveMoney_30 (by decide) ?_
        refine q_icmp_lt (tgt := 40) Cx dX2_giveMoney_31 (by decide) (fun c8 => ?_) (fun c8 => ?_)
        · have hF := (if_pos c8).symm.trans hF
          refine q_bipush (v := (-2 : Int32)) Cx dX2_giveMoney_40 (by decide) ?_
          cases hF
          exact hret _ _ _ _ dX2_giveMoney_42 (nI32 _) hW
        · have hF := (if_neg c8).symm.trans hF
          refine q_iload_n Cx dX2_giveMoney_34 rfl (lv_at hl 3 rfl) ?_
          refine q_ldc (v := (100000 : Int32)) Cx dX2_giveMoney_35 wd_312 ?_
          refine q_icmp_le (tgt := 43) Cx dX2_giveMoney_37 (by decide) (fun c9 => ?_) (fun c9 => ?_)
          · have hF := (if_pos c9).symm.trans hF
            refine q_aload_n Cx dX2_giveMoney_43 rfl (lv_at hl 0 rfl) ?_
            refine q_get (v := .ref (vA V j 17)) Cx hW (oM hj) ic2 5 (by decide) rfl wd_174 dX2_giveMoney_44 ?_
            refine q_iload_n Cx dX2_giveMoney_47 rfl (lv_at hl 1 rfl) ?_
            obtain ⟨h11, v10, e12, hF⟩ := ld_some hF
            refine qb_iald Cx hW (ai_17 hj) h11 e12 dX2_giveMoney_48 ?_
            refine q_iload_n Cx dX2_giveMoney_49 rfl (lv_at hl 3 rfl) ?_
            refine q_icmp_ge (tgt := 56) Cx dX2_giveMoney_50 (by decide) (fun c13 => ?_) (fun c13 => ?_)
            · have hF := (if_pos c13).symm.trans hF
              refine q_aload_n Cx dX2_giveMoney_56 rfl (lv_at hl 0 rfl) ?_
              refine q_get (v := .ref (vA V j 17)) Cx hW (oM hj) ic2 5 (by decide) rfl wd_174 dX2_giveMoney_57 ?_
              refine q_iload_n Cx dX2_giveMoney_60 rfl (lv_at hl 1 rfl) ?_
              refine q_dup2 Cx dX2_giveMoney_61 rfl rfl ?_
              obtain ⟨h15, v14, e16, hF⟩ := ld_some hF
              refine qb_iald Cx hW (ai_17 hj) h15 e16 dX2_giveMoney_62 ?_
              refine q_iload_n Cx dX2_giveMoney_63 rfl (lv_at hl 3 rfl) ?_
              refine q_isub Cx dX2_giveMoney_64 ?_
              obtain ⟨h18, B17, e19, hF⟩ := stb_some hF
              refine qb_iast Cx hW (ai_17 hj) h18 e19 dX2_giveMoney_65 (fun H locs hW => ?_)
              refine q_aload_n Cx dX2_giveMoney_66 rfl (lv_at hl 0 rfl) ?_
              refine q_get (v := .ref (vA V j 17)) Cx hW (oM hj) ic2 5 (by decide) rfl wd_174 dX2_giveMoney_67 ?_
              refine q_iload_n Cx dX2_giveMoney_70 rfl (lv_at hl 2 rfl) ?_
              refine q_dup2 Cx dX2_giveMoney_71 rfl rfl ?_
              obtain ⟨h21, v20, e22, hF⟩ := ld_some hF
              refine qb_iald Cx hW (ai_17 hj) h21 e22 dX2_giveMoney_72 ?_
              refine q_iload_n Cx dX2_giveMoney_73 rfl (lv_at hl 3 rfl) ?_
              refine q_iadd Cx dX2_giveMoney_74 ?_
              obtain ⟨h24, B23, e25, hF⟩ := stb_some hF
              refine qb_iast Cx hW (ai_17 hj) h24 e25 dX2_giveMoney_75 (fun H locs hW => ?_)
              refine q_aload_n Cx dX2_giveMoney_76 rfl (lv_at hl 0 rfl) ?_
              refine q_get (v := .ref (vA V j 17)) Cx hW (oM hj) ic2 5 (by decide) rfl wd_174 dX2_giveMoney_77 ?_
              refine q_iload_n Cx dX2_giveMoney_80 rfl (lv_at hl 1 rfl) ?_
              obtain ⟨h27, v26, e28, hF⟩ := ld_some hF
              refine qb_iald Cx hW (ai_17 hj) h27 e28 dX2_giveMoney_81 ?_
              cases hF
              exact hret _ _ _ _ dX2_giveMoney_82 (nI32 _) hW
            · have hF := (if_neg c13).symm.trans hF
              refine q_bipush (v := (-5 : Int32)) Cx dX2_giveMoney_53 (by decide) ?_
              cases hF
              exact hret _ _ _ _ dX2_giveMoney_55 (nI32 _) hW
          · have hF := (if_neg c9).symm.trans hF
            refine q_bipush (v := (-2 : Int32)) Cx dX2_giveMoney_40 (by decide) ?_
            cases hF
            exact hret _ _ _ _ dX2_giveMoney_42 (nI32 _) hW
      · have hF := (if_pos c7).symm.trans hF
        refine q_iconst (v := (-1 : Int32)) Cx dX2_giveMoney_27 (by decide) ?_
        cases hF
        exact hret _ _ _ _ dX2_giveMoney_28 (nI32 _) hW
set_option maxRecDepth 100000 in
theorem kX2_giveMoney {l : Launch} {V : VT} {M : Mem} {j : Nat} (hj : j < 11) {B : Blk} {l1 : Int32} {l2 : Int32} {l3 : Int32} {r : Int32} {B' : Blk} (hF : FX2_giveMoney B l1 l2 l3 = some (r, B')) : MetI l V yX2_giveMoney cX2_giveMoney 4 .int ({ frames := 1, cells := 0, slots := 0, locals := 21 } : Room) [.ref (vA V j 0), .int l1, .int l2, .int l3] r (jb M j B) (jb M j B') := metI_of (by decide) (Nat.le_of_ble_eq_true rfl) (fun E H0 _ Cx hret H locs ls hW hl => wX2_giveMoney hj Cx hret hW hl hF)
theorem dX2_lateTogether_0 : decode cX2_lateTogether 0 = .ok (.iconst 0, 1) := by decide +kernel
theorem dX2_lateTogether_1 : decode cX2_lateTogether 1 = .ok (.istore_n 1, 1) := by decide +kernel
theorem dX2_lateTogether_2 : decode cX2_lateTogether 2 = .ok (.iconst 0, 1) := by decide +kernel
theorem dX2_lateTogether_3 : decode cX2_lateTogether 3 = .ok (.istore_n 2, 1) := by decide +kernel
theorem dX2_lateTogether_4 : decode cX2_lateTogether 4 = .ok (.iload_n 2, 1) := by decide +kernel
theorem dX2_lateTogether_5 : decode cX2_lateTogether 5 = .ok (.aload_n 0, 1) := by decide +kernel
theorem dX2_lateTogether_6 : decode cX2_lateTogether 6 = .ok (.getfield 12, 3) := by decide +kernel
theorem dX2_lateTogether_9 : decode cX2_lateTogether 9 = .ok (.getfield 66, 3) := by decide +kernel
theorem dX2_lateTogether_12 : decode cX2_lateTogether 12 = .ok (.if_icmp .ge 17, 3) := by decide +kernel
theorem dX2_lateTogether_15 : decode cX2_lateTogether 15 = .ok (.iload_n 1, 1) := by decide +kernel
theorem dX2_lateTogether_16 : decode cX2_lateTogether 16 = .ok (.aload_n 0, 1) := by decide +kernel
theorem dX2_lateTogether_17 : decode cX2_lateTogether 17 = .ok (.iload_n 2, 1) := by decide +kernel
theorem dX2_lateTogether_18 : decode cX2_lateTogether 18 = .ok (.invokevirtual 125, 3) := by decide +kernel
theorem dX2_lateTogether_21 : decode cX2_lateTogether 21 = .ok (.iadd, 1) := by decide +kernel
theorem dX2_lateTogether_22 : decode cX2_lateTogether 22 = .ok (.istore_n 1, 1) := by decide +kernel
theorem dX2_lateTogether_23 : decode cX2_lateTogether 23 = .ok (.iinc 2 1, 3) := by decide +kernel
theorem dX2_lateTogether_26 : decode cX2_lateTogether 26 = .ok (.goto (-22), 3) := by decide +kernel
theorem dX2_lateTogether_29 : decode cX2_lateTogether 29 = .ok (.iload_n 1, 1) := by decide +kernel
theorem dX2_lateTogether_30 : decode cX2_lateTogether 30 = .ok (.ireturn, 1) := by decide +kernel
theorem okX2_lateTogether : CalOK yX2_lateTogether cX2_lateTogether 3 (some .int) 0 := ⟨wd_68, wd_483, by decide +kernel⟩
theorem ovX2_lateTogether : VirOK yX2_lateTogether := ⟨wd_481, wd_482⟩
def FX2_lateTogether_4s (B : Blk) (k4 : Int32 → Int32 → Option Int32) (l1 : Int32) (l2 : Int32) : Option Int32 :=
  if ((B 1) 0) ≤ l2 then
    some l1
  else
    c1 (FX2_lateOf B l2) fun r2 =>
    lt1 (l1 + r2) fun x4 =>
    lt1 (l2 + (1 : Int32)) fun x6 =>
    k4 x4 x6
set_option maxRecDepth 100000 in
set_option maxHeartbeats 4000000 in
theorem wX2_lateTogether_4s {E : WE} {V : VT} {A : Nat → Prop} {H0 : Heap} {M : Mem} {j : Nat} (hj : j < 11) (Cx : CX E RX2 cX2_lateTogether 3 2 61) {r : Int32} {B : Blk} (hret : RetI E V A H0 cX2_lateTogether .int r (jb M j B)) {k4 : Int32 → Int32 → Option Int32} (hk4 : ∀ {H : Heap} {locs : List Loc} {ls : Array Slot} {l1 : Int32} {l2 : Int32}, Wd V A H0 (jb M j B) (eS E) H locs → lv_has ls 3 [(0, .ref (vA V j 0)), (1, .int l1), (2, .int l2)] → k4 l1 l2 = some r → Wq E H locs 4 ls []) {H : Heap} {locs : List Loc} {ls : Array Slot} {l1 : Int32} {l2 : Int32} (hW : Wd V A H0 (jb M j B) (eS E) H locs) (hl : lv_has ls 3 [(0, .ref (vA V j 0)), (1, .int l1), (2, .int l2)]) (hF : FX2_lateTogether_4s B k4 l1 l2 = some r) : Wq E H locs 4 ls [] := by
  unfold FX2_lateTogether_4s at hF
  refine q_iload_n Cx dX2_lateTogether_4 rfl (lv_at hl 2 rfl) ?_
  refine q_aload_n Cx dX2_lateTogether_5 rfl (lv_at hl 0 rfl) ?_
  refine q_get (v := .ref (vA V j 1)) Cx hW (oM hj) ic2 0 (by decide) rfl wd_166 dX2_lateTogether_6 ?_
  refine qb_get (v := .int ((B 1) 0)) Cx hW (oP hj) ic4 0 (by decide) rfl wd_97 dX2_lateTogether_9 ?_
  refine q_icmp_ge (tgt := 29) Cx dX2_lateTogether_12 (by decide) (fun c1 => ?_) (fun c1 => ?_)
  · have hF := (if_pos c1).symm.trans hF
    refine q_iload_n Cx dX2_lateTogether_29 rfl (lv_at hl 1 rfl) ?_
    cases hF
    exact hret _ _ _ _ dX2_lateTogether_30 (nI32 _) hW
  · have hF := (if_neg c1).symm.trans hF
    refine q_iload_n Cx dX2_lateTogether_15 rfl (lv_at hl 1 rfl) ?_
    refine q_aload_n Cx dX2_lateTogether_16 rfl (lv_at hl 0 rfl) ?_
    refine q_iload_n Cx dX2_lateTogether_17 rfl (lv_at hl 2 rfl) ?_
    obtain ⟨r2, e3, hF⟩ := c1_some hF
    refine q_callI (as := [.int l2]) (rest := [.int l1]) Cx (kX2_lateOf hj e3) okX2_lateOf ovX2_lateOf wd_386 ⟨rfl, rfl, by decide, by decide⟩ hW (oM hj) ic2 rfl hl.1 (Nat.le_of_ble_eq_true rfl) rfl dX2_lateTogether_18 (fun H locs hW => ?_)
    refine q_iadd Cx dX2_lateTogether_21 ?_
    obtain ⟨x4, e5, hF⟩ := lt1_some hF
    refine q_topi e5 ?_
    refine q_istore_n (lv' := [(1, .int x4), (0, .ref (vA V j 0)), (2, .int l2)]) Cx dX2_lateTogether_22 rfl hl (by decide) rfl (fun ls hl => ?_)
    obtain ⟨x6, e7, hF⟩ := lt1_some hF
    refine q_iinc (k := 2) (v := x6) (lv' := [(2, .int x6), (1, .int x4), (0, .ref (vA V j 0))]) Cx dX2_lateTogether_23 hl rfl e7.symm (by decide) rfl (fun ls hl => ?_)
    refine q_goto (tgt := 4) Cx dX2_lateTogether_26 (by decide) ?_
    exact hk4 hW (lv_sub hl [2, 1, 0] rfl) hF
def FX2_lateTogether_4 (B : Blk) : Nat → Int32 → Int32 → Option Int32
  | 0 => fun _ _ => none
  | n + 1 => FX2_lateTogether_4s B (FX2_lateTogether_4 B n)
set_option maxRecDepth 100000 in
theorem wX2_lateTogether_4 {E : WE} {V : VT} {A : Nat → Prop} {H0 : Heap} {M : Mem} {j : Nat} (hj : j < 11) (Cx : CX E RX2 cX2_lateTogether 3 2 61) {r : Int32} {B : Blk} (hret : RetI E V A H0 cX2_lateTogether .int r (jb M j B)) : ∀ (n : Nat) {H : Heap} {locs : List Loc} {ls : Array Slot} {l1 : Int32} {l2 : Int32}, Wd V A H0 (jb M j B) (eS E) H locs → lv_has ls 3 [(0, .ref (vA V j 0)), (1, .int l1), (2, .int l2)] → FX2_lateTogether_4 B n l1 l2 = some r → Wq E H locs 4 ls [] := by
  intro n
  induction n with
  | zero => intro _ _ _ _ _ hW hl hF; cases hF
  | succ n ih => intro _ _ _ _ _ hW hl hF; exact wX2_lateTogether_4s hj Cx hret ih hW hl hF
def FX2_lateTogether (B : Blk) : Option Int32 :=
  FX2_lateTogether_4 B fu (0 : Int32) (0 : Int32)
set_option maxRecDepth 100000 in
set_option maxHeartbeats 4000000 in
theorem wX2_lateTogether {E : WE} {V : VT} {A : Nat → Prop} {H0 : Heap} {M : Mem} {j : Nat} (hj : j < 11) (Cx : CX E RX2 cX2_lateTogether 3 2 61) {r : Int32} {B : Blk} (hret : RetI E V A H0 cX2_lateTogether .int r (jb M j B)) {H : Heap} {locs : List Loc} {ls : Array Slot} (hW : Wd V A H0 (jb M j B) (eS E) H locs) (hl : lv_has ls 3 [(0, .ref (vA V j 0))]) (hF : FX2_lateTogether B = some r) : Wq E H locs 0 ls [] := by
  unfold FX2_lateTogether at hF
  refine q_iconst (v := (0 : Int32)) Cx dX2_lateTogether_0 (by decide) ?_
  refine q_istore_n (lv' := [(1, .int (0 : Int32)), (0, .ref (vA V j 0))]) Cx dX2_lateTogether_1 rfl hl (by decide) rfl (fun ls hl => ?_)
  refine q_iconst (v := (0 : Int32)) Cx dX2_lateTogether_2 (by decide) ?_
  refine q_istore_n (lv' := [(2, .int (0 : Int32)), (1, .int (0 : Int32)), (0, .ref (vA V j 0))]) Cx dX2_lateTogether_3 rfl hl (by decide) rfl (fun ls hl => ?_)
  exact wX2_lateTogether_4 hj Cx hret fu hW (lv_sub hl [2, 1, 0] rfl) hF
set_option maxRecDepth 100000 in
theorem kX2_lateTogether {l : Launch} {V : VT} {M : Mem} {j : Nat} (hj : j < 11) {B : Blk} {r : Int32} (hF : FX2_lateTogether B = some r) : MetI l V yX2_lateTogether cX2_lateTogether 3 .int ({ frames := 2, cells := 0, slots := 0, locals := 61 } : Room) [.ref (vA V j 0)] r (jb M j B) (jb M j B) := metI_of (by decide) (Nat.le_of_ble_eq_true rfl) (fun E H0 _ Cx hret H locs ls hW hl => wX2_lateTogether hj Cx hret hW hl hF)
theorem dX2_lowerLatestEnd_0 : decode cX2_lowerLatestEnd 0 = .ok (.aload_n 0, 1) := by decide +kernel
theorem dX2_lowerLatestEnd_1 : decode cX2_lowerLatestEnd 1 = .ok (.getfield 12, 3) := by decide +kernel
theorem dX2_lowerLatestEnd_4 : decode cX2_lowerLatestEnd 4 = .ok (.iload_n 1, 1) := by decide +kernel
theorem dX2_lowerLatestEnd_5 : decode cX2_lowerLatestEnd 5 = .ok (.invokevirtual 61, 3) := by decide +kernel
theorem dX2_lowerLatestEnd_8 : decode cX2_lowerLatestEnd 8 = .ok (.ifCond .eq 19, 3) := by decide +kernel
theorem dX2_lowerLatestEnd_11 : decode cX2_lowerLatestEnd 11 = .ok (.aload_n 0, 1) := by decide +kernel
theorem dX2_lowerLatestEnd_12 : decode cX2_lowerLatestEnd 12 = .ok (.getfield 45, 3) := by decide +kernel
theorem dX2_lowerLatestEnd_15 : decode cX2_lowerLatestEnd 15 = .ok (.iload_n 1, 1) := by decide +kernel
theorem dX2_lowerLatestEnd_16 : decode cX2_lowerLatestEnd 16 = .ok (.aload_n 0, 1) := by decide +kernel
theorem dX2_lowerLatestEnd_17 : decode cX2_lowerLatestEnd 17 = .ok (.getfield 45, 3) := by decide +kernel
theorem dX2_lowerLatestEnd_20 : decode cX2_lowerLatestEnd 20 = .ok (.iload_n 1, 1) := by decide +kernel
theorem dX2_lowerLatestEnd_21 : decode cX2_lowerLatestEnd 21 = .ok (.iaload, 1) := by decide +kernel
theorem dX2_lowerLatestEnd_22 : decode cX2_lowerLatestEnd 22 = .ok (.iload_n 2, 1) := by decide +kernel
theorem dX2_lowerLatestEnd_23 : decode cX2_lowerLatestEnd 23 = .ok (.invokestatic 153, 3) := by decide +kernel
theorem dX2_lowerLatestEnd_26 : decode cX2_lowerLatestEnd 26 = .ok (.iastore, 1) := by decide +kernel
theorem dX2_lowerLatestEnd_27 : decode cX2_lowerLatestEnd 27 = .ok (.return_, 1) := by decide +kernel
theorem okX2_lowerLatestEnd : CalOK yX2_lowerLatestEnd cX2_lowerLatestEnd 3 (none) 2 := ⟨wd_68, wd_491, by decide +kernel⟩
theorem ovX2_lowerLatestEnd : VirOK yX2_lowerLatestEnd := ⟨wd_490, wd_10⟩
def FX2_lowerLatestEnd (B : Blk) (l1 : Int32) (l2 : Int32) : Option Blk :=
  c1 (FX4_has B l1) fun r1 =>
  if r1 = 0 then
    some B
  else
    ld (B 20) 24 l1 fun v4 =>
    lt1 (if l2 < v4 then l2 else v4) fun x7 =>
    stb B 20 24 l1 x7 fun B9 =>
    some B9
set_option maxRecDepth 100000 in
set_option maxHeartbeats 4000000 in
theorem wX2_lowerLatestEnd {E : WE} {V : VT} {A : Nat → Prop} {H0 : Heap} {M : Mem} {j : Nat} (hj : j < 11) (Cx : CX E RX2 cX2_lowerLatestEnd 3 1 40) {B' : Blk} (hret : RetV E V A H0 cX2_lowerLatestEnd (jb M j B')) {H : Heap} {locs : List Loc} {ls : Array Slot} {l1 : Int32} {l2 : Int32} {B : Blk} (hW : Wd V A H0 (jb M j B) (eS E) H locs) (hl : lv_has ls 3 [(0, .ref (vA V j 0)), (1, .int l1), (2, .int l2)]) (hF : FX2_lowerLatestEnd B l1 l2 = some B') : Wq E H locs 0 ls [] := by
  unfold FX2_lowerLatestEnd at hF
  refine q_aload_n Cx dX2_lowerLatestEnd_0 rfl (lv_at hl 0 rfl) ?_
  refine q_get (v := .ref (vA V j 1)) Cx hW (oM hj) ic2 0 (by decide) rfl wd_166 dX2_lowerLatestEnd_1 ?_
  refine q_iload_n Cx dX2_lowerLatestEnd_4 rfl (lv_at hl 1 rfl) ?_
  obtain ⟨r1, e2, hF⟩ := c1_some hF
  refine q_callI (as := [.int l1]) (rest := []) Cx (kX4_has hj e2) okX4_has ovX4_has wd_308 ⟨rfl, rfl, by decide, by decide⟩ hW (oP hj) ic4 rfl hl.1 (Nat.le_of_ble_eq_true rfl) rfl dX2_lowerLatestEnd_5 (fun H locs hW => ?_)
  refine q_if_eq (tgt := 27) Cx dX2_lowerLatestEnd_8 (by decide) (fun c3 => ?_) (fun c3 => ?_)
  · have hF := (if_pos c3).symm.trans hF
    cases hF
    exact hret _ _ _ _ dX2_lowerLatestEnd_27 hW
  · have hF := (if_neg c3).symm.trans hF
    refine q_aload_n Cx dX2_lowerLatestEnd_11 rfl (lv_at hl 0 rfl) ?_
    refine q_get (v := .ref (vA V j 20)) Cx hW (oM hj) ic2 8 (by decide) rfl wd_178 dX2_lowerLatestEnd_12 ?_
    refine q_iload_n Cx dX2_lowerLatestEnd_15 rfl (lv_at hl 1 rfl) ?_
    refine q_aload_n Cx dX2_lowerLatestEnd_16 rfl (lv_at hl 0 rfl) ?_
    refine q_get (v := .ref (vA V j 20)) Cx hW (oM hj) ic2 8 (by decide) rfl wd_178 dX2_lowerLatestEnd_17 ?_
    refine q_iload_n Cx dX2_lowerLatestEnd_20 rfl (lv_at hl 1 rfl) ?_
    obtain ⟨h5, v4, e6, hF⟩ := ld_some hF
    refine qb_iald Cx hW (ai_20 hj) h5 e6 dX2_lowerLatestEnd_21 ?_
    refine q_iload_n Cx dX2_lowerLatestEnd_22 rfl (lv_at hl 2 rfl) ?_
    obtain ⟨x7, e8, hF⟩ := lt1_some hF
    refine q_min Cx wd_427 wd_428 wd_75 wd_429 hl.1 (by decide) (Nat.le_of_ble_eq_true rfl) e8.symm dX2_lowerLatestEnd_23 ?_
    obtain ⟨h10, B9, e11, hF⟩ := stb_some hF
    refine qb_iast Cx hW (ai_20 hj) h10 e11 dX2_lowerLatestEnd_26 (fun H locs hW => ?_)
    cases hF
    exact hret _ _ _ _ dX2_lowerLatestEnd_27 hW
set_option maxRecDepth 100000 in
theorem kX2_lowerLatestEnd {l : Launch} {V : VT} {M : Mem} {j : Nat} (hj : j < 11) {B : Blk} {l1 : Int32} {l2 : Int32} {B' : Blk} (hF : FX2_lowerLatestEnd B l1 l2 = some B') : MetV l V yX2_lowerLatestEnd cX2_lowerLatestEnd 3 ({ frames := 1, cells := 0, slots := 0, locals := 40 } : Room) [.ref (vA V j 0), .int l1, .int l2] (jb M j B) (jb M j B') := metV_of (by decide) (Nat.le_of_ble_eq_true rfl) (fun E H0 _ Cx hret H locs ls hW hl => wX2_lowerLatestEnd hj Cx hret hW hl hF)
theorem dX2_slackOf_0 : decode cX2_slackOf 0 = .ok (.aload_n 0, 1) := by decide +kernel
theorem dX2_slackOf_1 : decode cX2_slackOf 1 = .ok (.invokevirtual 164, 3) := by decide +kernel
theorem dX2_slackOf_4 : decode cX2_slackOf 4 = .ok (.ifCond .le 5, 3) := by decide +kernel
theorem dX2_slackOf_7 : decode cX2_slackOf 7 = .ok (.iconst 0, 1) := by decide +kernel
theorem dX2_slackOf_8 : decode cX2_slackOf 8 = .ok (.ireturn, 1) := by decide +kernel
theorem dX2_slackOf_9 : decode cX2_slackOf 9 = .ok (.iconst 0, 1) := by decide +kernel
theorem dX2_slackOf_10 : decode cX2_slackOf 10 = .ok (.istore_n 2, 1) := by decide +kernel
theorem dX2_slackOf_11 : decode cX2_slackOf 11 = .ok (.iload_n 2, 1) := by decide +kernel
theorem dX2_slackOf_12 : decode cX2_slackOf 12 = .ok (.aload_n 0, 1) := by decide +kernel
theorem dX2_slackOf_13 : decode cX2_slackOf 13 = .ok (.getfield 12, 3) := by decide +kernel
theorem dX2_slackOf_16 : decode cX2_slackOf 16 = .ok (.getfield 66, 3) := by decide +kernel
theorem dX2_slackOf_19 : decode cX2_slackOf 19 = .ok (.if_icmp .ge 21, 3) := by decide +kernel
theorem dX2_slackOf_22 : decode cX2_slackOf 22 = .ok (.aload_n 0, 1) := by decide +kernel
theorem dX2_slackOf_23 : decode cX2_slackOf 23 = .ok (.getfield 45, 3) := by decide +kernel
theorem dX2_slackOf_26 : decode cX2_slackOf 26 = .ok (.iload_n 2, 1) := by decide +kernel
theorem dX2_slackOf_27 : decode cX2_slackOf 27 = .ok (.aload_n 0, 1) := by decide +kernel
theorem dX2_slackOf_28 : decode cX2_slackOf 28 = .ok (.getfield 32, 3) := by decide +kernel
theorem dX2_slackOf_31 : decode cX2_slackOf 31 = .ok (.iload_n 2, 1) := by decide +kernel
theorem dX2_slackOf_32 : decode cX2_slackOf 32 = .ok (.iaload, 1) := by decide +kernel
theorem dX2_slackOf_33 : decode cX2_slackOf 33 = .ok (.iastore, 1) := by decide +kernel
theorem dX2_slackOf_34 : decode cX2_slackOf 34 = .ok (.iinc 2 1, 3) := by decide +kernel
theorem dX2_slackOf_37 : decode cX2_slackOf 37 = .ok (.goto (-26), 3) := by decide +kernel
theorem dX2_slackOf_40 : decode cX2_slackOf 40 = .ok (.aload_n 0, 1) := by decide +kernel
theorem dX2_slackOf_41 : decode cX2_slackOf 41 = .ok (.getfield 12, 3) := by decide +kernel
theorem dX2_slackOf_44 : decode cX2_slackOf 44 = .ok (.getfield 66, 3) := by decide +kernel
theorem dX2_slackOf_47 : decode cX2_slackOf 47 = .ok (.iconst 1, 1) := by decide +kernel
theorem dX2_slackOf_48 : decode cX2_slackOf 48 = .ok (.isub, 1) := by decide +kernel
theorem dX2_slackOf_49 : decode cX2_slackOf 49 = .ok (.istore_n 2, 1) := by decide +kernel
theorem dX2_slackOf_50 : decode cX2_slackOf 50 = .ok (.iload_n 2, 1) := by decide +kernel
theorem dX2_slackOf_51 : decode cX2_slackOf 51 = .ok (.ifCond .lt 66, 3) := by decide +kernel
theorem dX2_slackOf_54 : decode cX2_slackOf 54 = .ok (.aload_n 0, 1) := by decide +kernel
theorem dX2_slackOf_55 : decode cX2_slackOf 55 = .ok (.getfield 12, 3) := by decide +kernel
theorem dX2_slackOf_58 : decode cX2_slackOf 58 = .ok (.getfield 168, 3) := by decide +kernel
theorem dX2_slackOf_61 : decode cX2_slackOf 61 = .ok (.iload_n 2, 1) := by decide +kernel
theorem dX2_slackOf_62 : decode cX2_slackOf 62 = .ok (.iaload, 1) := by decide +kernel
theorem dX2_slackOf_63 : decode cX2_slackOf 63 = .ok (.istore_n 3, 1) := by decide +kernel
theorem dX2_slackOf_64 : decode cX2_slackOf 64 = .ok (.aload_n 0, 1) := by decide +kernel
theorem dX2_slackOf_65 : decode cX2_slackOf 65 = .ok (.getfield 45, 3) := by decide +kernel
theorem dX2_slackOf_68 : decode cX2_slackOf 68 = .ok (.iload_n 3, 1) := by decide +kernel
theorem dX2_slackOf_69 : decode cX2_slackOf 69 = .ok (.iaload, 1) := by decide +kernel
theorem dX2_slackOf_70 : decode cX2_slackOf 70 = .ok (.aload_n 0, 1) := by decide +kernel
theorem dX2_slackOf_71 : decode cX2_slackOf 71 = .ok (.getfield 12, 3) := by decide +kernel
theorem dX2_slackOf_74 : decode cX2_slackOf 74 = .ok (.getfield 77, 3) := by decide +kernel
theorem dX2_slackOf_77 : decode cX2_slackOf 77 = .ok (.iload_n 3, 1) := by decide +kernel
theorem dX2_slackOf_78 : decode cX2_slackOf 78 = .ok (.iaload, 1) := by decide +kernel
theorem dX2_slackOf_79 : decode cX2_slackOf 79 = .ok (.isub, 1) := by decide +kernel
theorem dX2_slackOf_80 : decode cX2_slackOf 80 = .ok (.istore 4, 2) := by decide +kernel
theorem dX2_slackOf_82 : decode cX2_slackOf 82 = .ok (.aload_n 0, 1) := by decide +kernel
theorem dX2_slackOf_83 : decode cX2_slackOf 83 = .ok (.aload_n 0, 1) := by decide +kernel
theorem dX2_slackOf_84 : decode cX2_slackOf 84 = .ok (.getfield 12, 3) := by decide +kernel
theorem dX2_slackOf_87 : decode cX2_slackOf 87 = .ok (.iload_n 3, 1) := by decide +kernel
theorem dX2_slackOf_88 : decode cX2_slackOf 88 = .ok (.invokevirtual 171, 3) := by decide +kernel
theorem dX2_slackOf_91 : decode cX2_slackOf 91 = .ok (.iload 4, 2) := by decide +kernel
theorem dX2_slackOf_93 : decode cX2_slackOf 93 = .ok (.invokevirtual 174, 3) := by decide +kernel
theorem dX2_slackOf_96 : decode cX2_slackOf 96 = .ok (.aload_n 0, 1) := by decide +kernel
theorem dX2_slackOf_97 : decode cX2_slackOf 97 = .ok (.aload_n 0, 1) := by decide +kernel
theorem dX2_slackOf_98 : decode cX2_slackOf 98 = .ok (.getfield 12, 3) := by decide +kernel
theorem dX2_slackOf_101 : decode cX2_slackOf 101 = .ok (.getfield 177, 3) := by decide +kernel
theorem dX2_slackOf_104 : decode cX2_slackOf 104 = .ok (.iload_n 3, 1) := by decide +kernel
theorem dX2_slackOf_105 : decode cX2_slackOf 105 = .ok (.iaload, 1) := by decide +kernel
theorem dX2_slackOf_106 : decode cX2_slackOf 106 = .ok (.iload 4, 2) := by decide +kernel
theorem dX2_slackOf_108 : decode cX2_slackOf 108 = .ok (.invokevirtual 174, 3) := by decide +kernel
theorem dX2_slackOf_111 : decode cX2_slackOf 111 = .ok (.iinc 2 (-1), 3) := by decide +kernel
theorem dX2_slackOf_114 : decode cX2_slackOf 114 = .ok (.goto (-64), 3) := by decide +kernel
theorem dX2_slackOf_117 : decode cX2_slackOf 117 = .ok (.aload_n 0, 1) := by decide +kernel
theorem dX2_slackOf_118 : decode cX2_slackOf 118 = .ok (.getfield 45, 3) := by decide +kernel
theorem dX2_slackOf_121 : decode cX2_slackOf 121 = .ok (.iload_n 1, 1) := by decide +kernel
theorem dX2_slackOf_122 : decode cX2_slackOf 122 = .ok (.iaload, 1) := by decide +kernel
theorem dX2_slackOf_123 : decode cX2_slackOf 123 = .ok (.aload_n 0, 1) := by decide +kernel
theorem dX2_slackOf_124 : decode cX2_slackOf 124 = .ok (.getfield 12, 3) := by decide +kernel
theorem dX2_slackOf_127 : decode cX2_slackOf 127 = .ok (.getfield 108, 3) := by decide +kernel
theorem dX2_slackOf_130 : decode cX2_slackOf 130 = .ok (.iload_n 1, 1) := by decide +kernel
theorem dX2_slackOf_131 : decode cX2_slackOf 131 = .ok (.iaload, 1) := by decide +kernel
theorem dX2_slackOf_132 : decode cX2_slackOf 132 = .ok (.isub, 1) := by decide +kernel
theorem dX2_slackOf_133 : decode cX2_slackOf 133 = .ok (.sipush 5000, 3) := by decide +kernel
theorem dX2_slackOf_136 : decode cX2_slackOf 136 = .ok (.invokestatic 153, 3) := by decide +kernel
theorem dX2_slackOf_139 : decode cX2_slackOf 139 = .ok (.ireturn, 1) := by decide +kernel
theorem okX2_slackOf : CalOK yX2_slackOf cX2_slackOf 5 (some .int) 1 := ⟨wd_68, wd_479, by decide +kernel⟩
theorem ovX2_slackOf : VirOK yX2_slackOf := ⟨wd_478, wd_9⟩
def FX2_slackOf_50s (k50 : Int32 → Int32 → Blk → Option (Int32 × Blk)) (l1 : Int32) (l2 : Int32) (B : Blk) : Option (Int32 × Blk) :=
  if l2 < 0 then
    ld (B 20) 24 l1 fun v8 =>
    ld (B 6) 24 l1 fun v11 =>
    lt1 (if (5000 : Int32) < (v8 - v11) then (5000 : Int32) else (v8 - v11)) fun x14 =>
    some (x14, B)
  else
    ld (B 7) 24 l2 fun v16 =>
    ld (B 20) 24 v16 fun v19 =>
    ld (B 4) 24 v16 fun v22 =>
    lt1 (v19 - v22) fun x25 =>
    c1 (FX4_inFrontOf B v16) fun r27 =>
    c1 (FX2_lowerLatestEnd B r27 x25) fun B31 =>
    ld (B31 5) 24 v16 fun v32 =>
    c1 (FX2_lowerLatestEnd B31 v32 x25) fun B37 =>
    lt1 (l2 + (-1 : Int32)) fun x38 =>
    k50 l1 x38 B37
set_option maxRecDepth 100000 in
set_option maxHeartbeats 4000000 in
theorem wX2_slackOf_50s {E : WE} {V : VT} {A : Nat → Prop} {H0 : Heap} {M : Mem} {j : Nat} (hj : j < 11) (Cx : CX E RX2 cX2_slackOf 5 3 83) {r : Int32} {B' : Blk} (hret : RetI E V A H0 cX2_slackOf .int r (jb M j B')) {k50 : Int32 → Int32 → Blk → Option (Int32 × Blk)} (hk50 : ∀ {H : Heap} {locs : List Loc} {ls : Array Slot} {B : Blk} {l1 : Int32} {l2 : Int32}, Wd V A H0 (jb M j B) (eS E) H locs → lv_has ls 5 [(0, .ref (vA V j 0)), (1, .int l1), (2, .int l2)] → k50 l1 l2 B = some (r, B') → Wq E H locs 50 ls []) {H : Heap} {locs : List Loc} {ls : Array Slot} {l1 : Int32} {l2 : Int32} {B : Blk} (hW : Wd V A H0 (jb M j B) (eS E) H locs) (hl : lv_has ls 5 [(0, .ref (vA V j 0)), (1, .int l1), (2, .int l2)]) (hF : FX2_slackOf_50s k50 l1 l2 B = some (r, B')) : Wq E H locs 50 ls [] := by
  unfold FX2_slackOf_50s at hF
  refine q_iload_n Cx dX2_slackOf_50 rfl (lv_at hl 2 rfl) ?_
  refine q_if_lt (tgt := 117) Cx dX2_slackOf_51 (by decide) (fun c7 => ?_) (fun c7 => ?_)
  · have hF := (if_pos c7).symm.trans hF
    refine q_aload_n Cx dX2_slackOf_117 rfl (lv_at hl 0 rfl) ?_
    refine q_get (v := .ref (vA V j 20)) Cx hW (oM hj) ic2 8 (by decide) rfl wd_178 dX2_slackOf_118 ?_
    refine q_iload_n Cx dX2_slackOf_121 rfl (lv_at hl 1 rfl) ?_
    obtain ⟨h9, v8, e10, hF⟩ := ld_some hF
    refine qb_iald Cx hW (ai_20 hj) h9 e10 dX2_slackOf_122 ?_
    refine q_aload_n Cx dX2_slackOf_123 rfl (lv_at hl 0 rfl) ?_
    refine q_get (v := .ref (vA V j 1)) Cx hW (oM hj) ic2 0 (by decide) rfl wd_166 dX2_slackOf_124 ?_
    refine q_get (v := .ref (vA V j 6)) Cx hW (oP hj) ic4 4 (by decide) rfl wd_106 dX2_slackOf_127 ?_
    refine q_iload_n Cx dX2_slackOf_130 rfl (lv_at hl 1 rfl) ?_
    obtain ⟨h12, v11, e13, hF⟩ := ld_some hF
    refine qb_iald Cx hW (ai_6 hj) h12 e13 dX2_slackOf_131 ?_
    refine q_isub Cx dX2_slackOf_132 ?_
    refine q_sipush (v := (5000 : Int32)) Cx dX2_slackOf_133 (by decide) ?_
    obtain ⟨x14, e15, hF⟩ := lt1_some hF
    refine q_min Cx wd_427 wd_428 wd_75 wd_429 hl.1 (by decide) (Nat.le_of_ble_eq_true rfl) e15.symm dX2_slackOf_136 ?_
    cases hF
    exact hret _ _ _ _ dX2_slackOf_139 (nI32 _) hW
  · have hF := (if_neg c7).symm.trans hF
    refine q_aload_n Cx dX2_slackOf_54 rfl (lv_at hl 0 rfl) ?_
    refine q_get (v := .ref (vA V j 1)) Cx hW (oM hj) ic2 0 (by decide) rfl wd_166 dX2_slackOf_55 ?_
    refine q_get (v := .ref (vA V j 7)) Cx hW (oP hj) ic4 5 (by decide) rfl wd_108 dX2_slackOf_58 ?_
    refine q_iload_n Cx dX2_slackOf_61 rfl (lv_at hl 2 rfl) ?_
    obtain ⟨h17, v16, e18, hF⟩ := ld_some hF
    refine qb_iald Cx hW (ai_7 hj) h17 e18 dX2_slackOf_62 ?_
    refine q_istore_n (lv' := [(3, .int v16), (0, .ref (vA V j 0)), (1, .int l1), (2, .int l2)]) Cx dX2_slackOf_63 rfl hl (by decide) rfl (fun ls hl => ?_)
    refine q_aload_n Cx dX2_slackOf_64 rfl (lv_at hl 1 rfl) ?_
    refine q_get (v := .ref (vA V j 20)) Cx hW (oM hj) ic2 8 (by decide) rfl wd_178 dX2_slackOf_65 ?_
    refine q_iload_n Cx dX2_slackOf_68 rfl (lv_at hl 0 rfl) ?_
    obtain ⟨h20, v19, e21, hF⟩ := ld_some hF
    refine qb_iald Cx hW (ai_20 hj) h20 e21 dX2_slackOf_69 ?_
    refine q_aload_n Cx dX2_slackOf_70 rfl (lv_at hl 1 rfl) ?_
    refine q_get (v := .ref (vA V j 1)) Cx hW (oM hj) ic2 0 (by decide) rfl wd_166 dX2_slackOf_71 ?_
    refine q_get (v := .ref (vA V j 4)) Cx hW (oP hj) ic4 2 (by decide) rfl wd_102 dX2_slackOf_74 ?_
    refine q_iload_n Cx dX2_slackOf_77 rfl (lv_at hl 0 rfl) ?_
    obtain ⟨h23, v22, e24, hF⟩ := ld_some hF
    refine qb_iald Cx hW (ai_4 hj) h23 e24 dX2_slackOf_78 ?_
    refine q_isub Cx dX2_slackOf_79 ?_
    obtain ⟨x25, e26, hF⟩ := lt1_some hF
    refine q_topi e26 ?_
    refine q_istore (lv' := [(4, .int x25), (3, .int v16), (0, .ref (vA V j 0)), (1, .int l1), (2, .int l2)]) Cx dX2_slackOf_80 hl (by decide) rfl (fun ls hl => ?_)
    refine q_aload_n Cx dX2_slackOf_82 rfl (lv_at hl 2 rfl) ?_
    refine q_aload_n Cx dX2_slackOf_83 rfl (lv_at hl 2 rfl) ?_
    refine q_get (v := .ref (vA V j 1)) Cx hW (oM hj) ic2 0 (by decide) rfl wd_166 dX2_slackOf_84 ?_
    refine q_iload_n Cx dX2_slackOf_87 rfl (lv_at hl 1 rfl) ?_
    obtain ⟨r27, e28, hF⟩ := c1_some hF
    refine q_callI (as := [.int v16]) (rest := [.ref (vA V j 0)]) Cx (kX4_inFrontOf hj e28) okX4_inFrontOf ovX4_inFrontOf wd_484 ⟨rfl, rfl, by decide, by decide⟩ hW (oP hj) ic4 rfl hl.1 (Nat.le_of_ble_eq_true rfl) rfl dX2_slackOf_88 (fun H locs hW => ?_)
    refine q_iload Cx dX2_slackOf_91 (lv_at hl 0 rfl) ?_
    obtain ⟨B31, e30, hF⟩ := c1_some hF
    refine q_callV (as := [.int r27, .int x25]) (rest := []) Cx (kX2_lowerLatestEnd hj e30) okX2_lowerLatestEnd ovX2_lowerLatestEnd wd_488 ⟨rfl, rfl, by decide, by decide⟩ hW (oM hj) ic2 rfl hl.1 (Nat.le_of_ble_eq_true rfl) rfl dX2_slackOf_93 (fun H locs hW => ?_)
    refine q_aload_n Cx dX2_slackOf_96 rfl (lv_at hl 2 rfl) ?_
    refine q_aload_n Cx dX2_slackOf_97 rfl (lv_at hl 2 rfl) ?_
    refine q_get (v := .ref (vA V j 1)) Cx hW (oM hj) ic2 0 (by decide) rfl wd_166 dX2_slackOf_98 ?_
    refine q_get (v := .ref (vA V j 5)) Cx hW (oP hj) ic4 3 (by decide) rfl wd_104 dX2_slackOf_101 ?_
    refine q_iload_n Cx dX2_slackOf_104 rfl (lv_at hl 1 rfl) ?_
    obtain ⟨h33, v32, e34, hF⟩ := ld_some hF
    refine qb_iald Cx hW (ai_5 hj) h33 e34 dX2_slackOf_105 ?_
    refine q_iload Cx dX2_slackOf_106 (lv_at hl 0 rfl) ?_
    obtain ⟨B37, e36, hF⟩ := c1_some hF
    refine q_callV (as := [.int v32, .int x25]) (rest := []) Cx (kX2_lowerLatestEnd hj e36) okX2_lowerLatestEnd ovX2_lowerLatestEnd wd_488 ⟨rfl, rfl, by decide, by decide⟩ hW (oM hj) ic2 rfl hl.1 (Nat.le_of_ble_eq_true rfl) rfl dX2_slackOf_108 (fun H locs hW => ?_)
    obtain ⟨x38, e39, hF⟩ := lt1_some hF
    refine q_iinc (k := 4) (v := x38) (lv' := [(2, .int x38), (4, .int x25), (3, .int v16), (0, .ref (vA V j 0)), (1, .int l1)]) Cx dX2_slackOf_111 hl rfl e39.symm (by decide) rfl (fun ls hl => ?_)
    refine q_goto (tgt := 50) Cx dX2_slackOf_114 (by decide) ?_
    exact hk50 hW (lv_sub hl [3, 4, 0] rfl) hF
def FX2_slackOf_50 : Nat → Int32 → Int32 → Blk → Option (Int32 × Blk)
  | 0 => fun _ _ _ => none
  | n + 1 => FX2_slackOf_50s (FX2_slackOf_50 n)
set_option maxRecDepth 100000 in
theorem wX2_slackOf_50 {E : WE} {V : VT} {A : Nat → Prop} {H0 : Heap} {M : Mem} {j : Nat} (hj : j < 11) (Cx : CX E RX2 cX2_slackOf 5 3 83) {r : Int32} {B' : Blk} (hret : RetI E V A H0 cX2_slackOf .int r (jb M j B')) : ∀ (n : Nat) {H : Heap} {locs : List Loc} {ls : Array Slot} {l1 : Int32} {l2 : Int32} {B : Blk}, Wd V A H0 (jb M j B) (eS E) H locs → lv_has ls 5 [(0, .ref (vA V j 0)), (1, .int l1), (2, .int l2)] → FX2_slackOf_50 n l1 l2 B = some (r, B') → Wq E H locs 50 ls [] := by
  intro n
  induction n with
  | zero => intro _ _ _ _ _ _ hW hl hF; cases hF
  | succ n ih => intro _ _ _ _ _ _ hW hl hF; exact wX2_slackOf_50s hj Cx hret ih hW hl hF
def FX2_slackOf_11s (k11 : Int32 → Int32 → Blk → Option (Int32 × Blk)) (l1 : Int32) (l2 : Int32) (B : Blk) : Option (Int32 × Blk) :=
  if ((B 1) 0) ≤ l2 then
    lt1 (((B 1) 0) - (1 : Int32)) fun x5 =>
    FX2_slackOf_50 fu l1 x5 B
  else
    ld (B 16) 24 l2 fun v40 =>
    stb B 20 24 l2 v40 fun B43 =>
    lt1 (l2 + (1 : Int32)) fun x46 =>
    k11 l1 x46 B43
set_option maxRecDepth 100000 in
set_option maxHeartbeats 4000000 in
theorem wX2_slackOf_11s {E : WE} {V : VT} {A : Nat → Prop} {H0 : Heap} {M : Mem} {j : Nat} (hj : j < 11) (Cx : CX E RX2 cX2_slackOf 5 3 83) {r : Int32} {B' : Blk} (hret : RetI E V A H0 cX2_slackOf .int r (jb M j B')) {k11 : Int32 → Int32 → Blk → Option (Int32 × Blk)} (hk11 : ∀ {H : Heap} {locs : List Loc} {ls : Array Slot} {B : Blk} {l1 : Int32} {l2 : Int32}, Wd V A H0 (jb M j B) (eS E) H locs → lv_has ls 5 [(0, .ref (vA V j 0)), (1, .int l1), (2, .int l2)] → k11 l1 l2 B = some (r, B') → Wq E H locs 11 ls []) {H : Heap} {locs : List Loc} {ls : Array Slot} {l1 : Int32} {l2 : Int32} {B : Blk} (hW : Wd V A H0 (jb M j B) (eS E) H locs) (hl : lv_has ls 5 [(0, .ref (vA V j 0)), (1, .int l1), (2, .int l2)]) (hF : FX2_slackOf_11s k11 l1 l2 B = some (r, B')) : Wq E H locs 11 ls [] := by
  unfold FX2_slackOf_11s at hF
  refine q_iload_n Cx dX2_slackOf_11 rfl (lv_at hl 2 rfl) ?_
  refine q_aload_n Cx dX2_slackOf_12 rfl (lv_at hl 0 rfl) ?_
  refine q_get (v := .ref (vA V j 1)) Cx hW (oM hj) ic2 0 (by decide) rfl wd_166 dX2_slackOf_13 ?_
  refine qb_get (v := .int ((B 1) 0)) Cx hW (oP hj) ic4 0 (by decide) rfl wd_97 dX2_slackOf_16 ?_
  refine q_icmp_ge (tgt := 40) Cx dX2_slackOf_19 (by decide) (fun c4 => ?_) (fun c4 => ?_)
  · have hF := (if_pos c4).symm.trans hF
    refine q_aload_n Cx dX2_slackOf_40 rfl (lv_at hl 0 rfl) ?_
    refine q_get (v := .ref (vA V j 1)) Cx hW (oM hj) ic2 0 (by decide) rfl wd_166 dX2_slackOf_41 ?_
    refine qb_get (v := .int ((B 1) 0)) Cx hW (oP hj) ic4 0 (by decide) rfl wd_97 dX2_slackOf_44 ?_
    refine q_iconst (v := (1 : Int32)) Cx dX2_slackOf_47 (by decide) ?_
    refine q_isub Cx dX2_slackOf_48 ?_
    obtain ⟨x5, e6, hF⟩ := lt1_some hF
    refine q_topi e6 ?_
    refine q_istore_n (lv' := [(2, .int x5), (0, .ref (vA V j 0)), (1, .int l1)]) Cx dX2_slackOf_49 rfl hl (by decide) rfl (fun ls hl => ?_)
    exact wX2_slackOf_50 hj Cx hret fu hW (lv_sub hl [1, 2, 0] rfl) hF
  · have hF := (if_neg c4).symm.trans hF
    refine q_aload_n Cx dX2_slackOf_22 rfl (lv_at hl 0 rfl) ?_
    refine q_get (v := .ref (vA V j 20)) Cx hW (oM hj) ic2 8 (by decide) rfl wd_178 dX2_slackOf_23 ?_
    refine q_iload_n Cx dX2_slackOf_26 rfl (lv_at hl 2 rfl) ?_
    refine q_aload_n Cx dX2_slackOf_27 rfl (lv_at hl 0 rfl) ?_
    refine q_get (v := .ref (vA V j 16)) Cx hW (oM hj) ic2 4 (by decide) rfl wd_172 dX2_slackOf_28 ?_
    refine q_iload_n Cx dX2_slackOf_31 rfl (lv_at hl 2 rfl) ?_
    obtain ⟨h41, v40, e42, hF⟩ := ld_some hF
    refine qb_iald Cx hW (ai_16 hj) h41 e42 dX2_slackOf_32 ?_
    obtain ⟨h44, B43, e45, hF⟩ := stb_some hF
    refine qb_iast Cx hW (ai_20 hj) h44 e45 dX2_slackOf_33 (fun H locs hW => ?_)
    obtain ⟨x46, e47, hF⟩ := lt1_some hF
    refine q_iinc (k := 2) (v := x46) (lv' := [(2, .int x46), (0, .ref (vA V j 0)), (1, .int l1)]) Cx dX2_slackOf_34 hl rfl e47.symm (by decide) rfl (fun ls hl => ?_)
    refine q_goto (tgt := 11) Cx dX2_slackOf_37 (by decide) ?_
    exact hk11 hW (lv_sub hl [1, 2, 0] rfl) hF
def FX2_slackOf_11 : Nat → Int32 → Int32 → Blk → Option (Int32 × Blk)
  | 0 => fun _ _ _ => none
  | n + 1 => FX2_slackOf_11s (FX2_slackOf_11 n)
set_option maxRecDepth 100000 in
theorem wX2_slackOf_11 {E : WE} {V : VT} {A : Nat → Prop} {H0 : Heap} {M : Mem} {j : Nat} (hj : j < 11) (Cx : CX E RX2 cX2_slackOf 5 3 83) {r : Int32} {B' : Blk} (hret : RetI E V A H0 cX2_slackOf .int r (jb M j B')) : ∀ (n : Nat) {H : Heap} {locs : List Loc} {ls : Array Slot} {l1 : Int32} {l2 : Int32} {B : Blk}, Wd V A H0 (jb M j B) (eS E) H locs → lv_has ls 5 [(0, .ref (vA V j 0)), (1, .int l1), (2, .int l2)] → FX2_slackOf_11 n l1 l2 B = some (r, B') → Wq E H locs 11 ls [] := by
  intro n
  induction n with
  | zero => intro _ _ _ _ _ _ hW hl hF; cases hF
  | succ n ih => intro _ _ _ _ _ _ hW hl hF; exact wX2_slackOf_11s hj Cx hret ih hW hl hF
def FX2_slackOf (B : Blk) (l1 : Int32) : Option (Int32 × Blk) :=
  c1 (FX2_lateTogether B) fun r1 =>
  if r1 ≤ 0 then
    FX2_slackOf_11 fu l1 (0 : Int32) B
  else
    some ((0 : Int32), B)
set_option maxRecDepth 100000 in
set_option maxHeartbeats 4000000 in
theorem wX2_slackOf {E : WE} {V : VT} {A : Nat → Prop} {H0 : Heap} {M : Mem} {j : Nat} (hj : j < 11) (Cx : CX E RX2 cX2_slackOf 5 3 83) {r : Int32} {B' : Blk} (hret : RetI E V A H0 cX2_slackOf .int r (jb M j B')) {H : Heap} {locs : List Loc} {ls : Array Slot} {l1 : Int32} {B : Blk} (hW : Wd V A H0 (jb M j B) (eS E) H locs) (hl : lv_has ls 5 [(0, .ref (vA V j 0)), (1, .int l1)]) (hF : FX2_slackOf B l1 = some (r, B')) : Wq E H locs 0 ls [] := by
  unfold FX2_slackOf at hF
  refine q_aload_n Cx dX2_slackOf_0 rfl (lv_at hl 0 rfl) ?_
  obtain ⟨r1, e2, hF⟩ := c1_some hF
  refine q_callI (as := []) (rest := []) Cx (kX2_lateTogether hj e2) okX2_lateTogether ovX2_lateTogether wd_480 ⟨rfl, rfl, by decide, by decide⟩ hW (oM hj) ic2 rfl hl.1 (Nat.le_of_ble_eq_true rfl) rfl dX2_slackOf_1 (fun H locs hW => ?_)
  refine q_if_le (tgt := 9) Cx dX2_slackOf_4 (by decide) (fun c3 => ?_) (fun c3 => ?_)
  · have hF := (if_pos c3).symm.trans hF
    refine q_iconst (v := (0 : Int32)) Cx dX2_slackOf_9 (by decide) ?_
    refine q_istore_n (lv' := [(2, .int (0 : Int32)), (0, .ref (vA V j 0)), (1, .int l1)]) Cx dX2_slackOf_10 rfl hl (by decide) rfl (fun ls hl => ?_)
    exact wX2_slackOf_11 hj Cx hret fu hW (lv_sub hl [1, 2, 0] rfl) hF
  · have hF := (if_neg c3).symm.trans hF
    refine q_iconst (v := (0 : Int32)) Cx dX2_slackOf_7 (by decide) ?_
    cases hF
    exact hret _ _ _ _ dX2_slackOf_8 (nI32 _) hW
set_option maxRecDepth 100000 in
theorem kX2_slackOf {l : Launch} {V : VT} {M : Mem} {j : Nat} (hj : j < 11) {B : Blk} {l1 : Int32} {r : Int32} {B' : Blk} (hF : FX2_slackOf B l1 = some (r, B')) : MetI l V yX2_slackOf cX2_slackOf 5 .int ({ frames := 3, cells := 0, slots := 0, locals := 83 } : Room) [.ref (vA V j 0), .int l1] r (jb M j B) (jb M j B') := metI_of (by decide) (Nat.le_of_ble_eq_true rfl) (fun E H0 _ Cx hret H locs ls hW hl => wX2_slackOf hj Cx hret hW hl hF)
theorem dX2_tellOfTask_0 : decode cX2_tellOfTask 0 = .ok (.aload_n 0, 1) := by decide +kernel
theorem dX2_tellOfTask_1 : decode cX2_tellOfTask 1 = .ok (.getfield 12, 3) := by decide +kernel
theorem dX2_tellOfTask_4 : decode cX2_tellOfTask 4 = .ok (.iload_n 1, 1) := by decide +kernel
theorem dX2_tellOfTask_5 : decode cX2_tellOfTask 5 = .ok (.invokevirtual 61, 3) := by decide +kernel
theorem dX2_tellOfTask_8 : decode cX2_tellOfTask 8 = .ok (.ifCond .ne 5, 3) := by decide +kernel
theorem dX2_tellOfTask_11 : decode cX2_tellOfTask 11 = .ok (.iconst (-1), 1) := by decide +kernel
theorem dX2_tellOfTask_12 : decode cX2_tellOfTask 12 = .ok (.ireturn, 1) := by decide +kernel
theorem dX2_tellOfTask_13 : decode cX2_tellOfTask 13 = .ok (.iload_n 2, 1) := by decide +kernel
theorem dX2_tellOfTask_14 : decode cX2_tellOfTask 14 = .ok (.tableswitch 186 0 13 #[70, 80, 90, 100, 109, 118, 127, 133, 139, 145, 152, 159, 168, 177], 70) := by decide +kernel
theorem dX2_tellOfTask_84 : decode cX2_tellOfTask 84 = .ok (.aload_n 0, 1) := by decide +kernel
theorem dX2_tellOfTask_85 : decode cX2_tellOfTask 85 = .ok (.getfield 12, 3) := by decide +kernel
theorem dX2_tellOfTask_88 : decode cX2_tellOfTask 88 = .ok (.getfield 83, 3) := by decide +kernel
theorem dX2_tellOfTask_91 : decode cX2_tellOfTask 91 = .ok (.iload_n 1, 1) := by decide +kernel
theorem dX2_tellOfTask_92 : decode cX2_tellOfTask 92 = .ok (.iaload, 1) := by decide +kernel
theorem dX2_tellOfTask_93 : decode cX2_tellOfTask 93 = .ok (.ireturn, 1) := by decide +kernel
theorem dX2_tellOfTask_94 : decode cX2_tellOfTask 94 = .ok (.aload_n 0, 1) := by decide +kernel
theorem dX2_tellOfTask_95 : decode cX2_tellOfTask 95 = .ok (.getfield 12, 3) := by decide +kernel
theorem dX2_tellOfTask_98 : decode cX2_tellOfTask 98 = .ok (.getfield 77, 3) := by decide +kernel
theorem dX2_tellOfTask_101 : decode cX2_tellOfTask 101 = .ok (.iload_n 1, 1) := by decide +kernel
theorem dX2_tellOfTask_102 : decode cX2_tellOfTask 102 = .ok (.iaload, 1) := by decide +kernel
theorem dX2_tellOfTask_103 : decode cX2_tellOfTask 103 = .ok (.ireturn, 1) := by decide +kernel
theorem dX2_tellOfTask_104 : decode cX2_tellOfTask 104 = .ok (.aload_n 0, 1) := by decide +kernel
theorem dX2_tellOfTask_105 : decode cX2_tellOfTask 105 = .ok (.getfield 12, 3) := by decide +kernel
theorem dX2_tellOfTask_108 : decode cX2_tellOfTask 108 = .ok (.getfield 177, 3) := by decide +kernel
theorem dX2_tellOfTask_111 : decode cX2_tellOfTask 111 = .ok (.iload_n 1, 1) := by decide +kernel
theorem dX2_tellOfTask_112 : decode cX2_tellOfTask 112 = .ok (.iaload, 1) := by decide +kernel
theorem dX2_tellOfTask_113 : decode cX2_tellOfTask 113 = .ok (.ireturn, 1) := by decide +kernel
theorem dX2_tellOfTask_114 : decode cX2_tellOfTask 114 = .ok (.aload_n 0, 1) := by decide +kernel
theorem dX2_tellOfTask_115 : decode cX2_tellOfTask 115 = .ok (.getfield 12, 3) := by decide +kernel
theorem dX2_tellOfTask_118 : decode cX2_tellOfTask 118 = .ok (.iload_n 1, 1) := by decide +kernel
theorem dX2_tellOfTask_119 : decode cX2_tellOfTask 119 = .ok (.invokevirtual 86, 3) := by decide +kernel
theorem dX2_tellOfTask_122 : decode cX2_tellOfTask 122 = .ok (.ireturn, 1) := by decide +kernel
theorem dX2_tellOfTask_123 : decode cX2_tellOfTask 123 = .ok (.aload_n 0, 1) := by decide +kernel
theorem dX2_tellOfTask_124 : decode cX2_tellOfTask 124 = .ok (.getfield 12, 3) := by decide +kernel
theorem dX2_tellOfTask_127 : decode cX2_tellOfTask 127 = .ok (.iload_n 1, 1) := by decide +kernel
theorem dX2_tellOfTask_128 : decode cX2_tellOfTask 128 = .ok (.invokevirtual 180, 3) := by decide +kernel
theorem dX2_tellOfTask_131 : decode cX2_tellOfTask 131 = .ok (.ireturn, 1) := by decide +kernel
theorem dX2_tellOfTask_132 : decode cX2_tellOfTask 132 = .ok (.aload_n 0, 1) := by decide +kernel
theorem dX2_tellOfTask_133 : decode cX2_tellOfTask 133 = .ok (.getfield 12, 3) := by decide +kernel
theorem dX2_tellOfTask_136 : decode cX2_tellOfTask 136 = .ok (.iload_n 1, 1) := by decide +kernel
theorem dX2_tellOfTask_137 : decode cX2_tellOfTask 137 = .ok (.invokevirtual 183, 3) := by decide +kernel
theorem dX2_tellOfTask_140 : decode cX2_tellOfTask 140 = .ok (.ireturn, 1) := by decide +kernel
theorem dX2_tellOfTask_141 : decode cX2_tellOfTask 141 = .ok (.aload_n 0, 1) := by decide +kernel
theorem dX2_tellOfTask_142 : decode cX2_tellOfTask 142 = .ok (.iload_n 1, 1) := by decide +kernel
theorem dX2_tellOfTask_143 : decode cX2_tellOfTask 143 = .ok (.invokevirtual 125, 3) := by decide +kernel
theorem dX2_tellOfTask_146 : decode cX2_tellOfTask 146 = .ok (.ireturn, 1) := by decide +kernel
theorem dX2_tellOfTask_147 : decode cX2_tellOfTask 147 = .ok (.aload_n 0, 1) := by decide +kernel
theorem dX2_tellOfTask_148 : decode cX2_tellOfTask 148 = .ok (.iload_n 1, 1) := by decide +kernel
theorem dX2_tellOfTask_149 : decode cX2_tellOfTask 149 = .ok (.invokevirtual 150, 3) := by decide +kernel
theorem dX2_tellOfTask_152 : decode cX2_tellOfTask 152 = .ok (.ireturn, 1) := by decide +kernel
theorem dX2_tellOfTask_153 : decode cX2_tellOfTask 153 = .ok (.aload_n 0, 1) := by decide +kernel
theorem dX2_tellOfTask_154 : decode cX2_tellOfTask 154 = .ok (.iload_n 1, 1) := by decide +kernel
theorem dX2_tellOfTask_155 : decode cX2_tellOfTask 155 = .ok (.invokevirtual 186, 3) := by decide +kernel
theorem dX2_tellOfTask_158 : decode cX2_tellOfTask 158 = .ok (.ireturn, 1) := by decide +kernel
theorem dX2_tellOfTask_159 : decode cX2_tellOfTask 159 = .ok (.aload_n 0, 1) := by decide +kernel
theorem dX2_tellOfTask_160 : decode cX2_tellOfTask 160 = .ok (.getfield 39, 3) := by decide +kernel
theorem dX2_tellOfTask_163 : decode cX2_tellOfTask 163 = .ok (.iload_n 1, 1) := by decide +kernel
theorem dX2_tellOfTask_164 : decode cX2_tellOfTask 164 = .ok (.iaload, 1) := by decide +kernel
theorem dX2_tellOfTask_165 : decode cX2_tellOfTask 165 = .ok (.ireturn, 1) := by decide +kernel
theorem dX2_tellOfTask_166 : decode cX2_tellOfTask 166 = .ok (.aload_n 0, 1) := by decide +kernel
theorem dX2_tellOfTask_167 : decode cX2_tellOfTask 167 = .ok (.getfield 42, 3) := by decide +kernel
theorem dX2_tellOfTask_170 : decode cX2_tellOfTask 170 = .ok (.iload_n 1, 1) := by decide +kernel
theorem dX2_tellOfTask_171 : decode cX2_tellOfTask 171 = .ok (.iaload, 1) := by decide +kernel
theorem dX2_tellOfTask_172 : decode cX2_tellOfTask 172 = .ok (.ireturn, 1) := by decide +kernel
theorem dX2_tellOfTask_173 : decode cX2_tellOfTask 173 = .ok (.aload_n 0, 1) := by decide +kernel
theorem dX2_tellOfTask_174 : decode cX2_tellOfTask 174 = .ok (.getfield 21, 3) := by decide +kernel
theorem dX2_tellOfTask_177 : decode cX2_tellOfTask 177 = .ok (.iload_n 1, 1) := by decide +kernel
theorem dX2_tellOfTask_178 : decode cX2_tellOfTask 178 = .ok (.invokevirtual 189, 3) := by decide +kernel
theorem dX2_tellOfTask_181 : decode cX2_tellOfTask 181 = .ok (.ireturn, 1) := by decide +kernel
theorem dX2_tellOfTask_182 : decode cX2_tellOfTask 182 = .ok (.aload_n 0, 1) := by decide +kernel
theorem dX2_tellOfTask_183 : decode cX2_tellOfTask 183 = .ok (.getfield 21, 3) := by decide +kernel
theorem dX2_tellOfTask_186 : decode cX2_tellOfTask 186 = .ok (.iload_n 1, 1) := by decide +kernel
theorem dX2_tellOfTask_187 : decode cX2_tellOfTask 187 = .ok (.invokevirtual 192, 3) := by decide +kernel
theorem dX2_tellOfTask_190 : decode cX2_tellOfTask 190 = .ok (.ireturn, 1) := by decide +kernel
theorem dX2_tellOfTask_191 : decode cX2_tellOfTask 191 = .ok (.aload_n 0, 1) := by decide +kernel
theorem dX2_tellOfTask_192 : decode cX2_tellOfTask 192 = .ok (.getfield 12, 3) := by decide +kernel
theorem dX2_tellOfTask_195 : decode cX2_tellOfTask 195 = .ok (.iload_n 1, 1) := by decide +kernel
theorem dX2_tellOfTask_196 : decode cX2_tellOfTask 196 = .ok (.invokevirtual 195, 3) := by decide +kernel
theorem dX2_tellOfTask_199 : decode cX2_tellOfTask 199 = .ok (.ireturn, 1) := by decide +kernel
theorem dX2_tellOfTask_200 : decode cX2_tellOfTask 200 = .ok (.bipush (-2), 2) := by decide +kernel
theorem dX2_tellOfTask_202 : decode cX2_tellOfTask 202 = .ok (.ireturn, 1) := by decide +kernel
theorem okX2_tellOfTask : CalOK yX2_tellOfTask cX2_tellOfTask 3 (some .int) 2 := ⟨wd_68, wd_470, by decide +kernel⟩
theorem ovX2_tellOfTask : VirOK yX2_tellOfTask := ⟨wd_468, wd_469⟩
def FX2_tellOfTask (B : Blk) (l1 : Int32) (l2 : Int32) : Option (Int32 × Blk) :=
  c1 (FX4_has B l1) fun r1 =>
  if r1 = 0 then
    some ((-1 : Int32), B)
  else
    if l2 = (0 : Int32) then
      ld (B 3) 24 l1 fun v5 =>
      some (v5, B)
    else
      if l2 = (1 : Int32) then
        ld (B 4) 24 l1 fun v9 =>
        some (v9, B)
      else
        if l2 = (2 : Int32) then
          ld (B 5) 24 l1 fun v13 =>
          some (v13, B)
        else
          if l2 = (3 : Int32) then
            c1 (FX4_placeOf B l1) fun r17 =>
            some (r17, B)
          else
            if l2 = (4 : Int32) then
              c1 (FX4_startOf B l1) fun r20 =>
              some (r20, B)
            else
              if l2 = (5 : Int32) then
                c1 (FX4_endOf B l1) fun r23 =>
                some (r23, B)
              else
                if l2 = (6 : Int32) then
                  c1 (FX2_lateOf B l1) fun r26 =>
                  some (r26, B)
                else
                  if l2 = (7 : Int32) then
                    c1 (FX2_spareOf B l1) fun r29 =>
                    some (r29, B)
                  else
                    if l2 = (8 : Int32) then
                      c2 (FX2_slackOf B l1) fun r32 B34 =>
                      some (r32, B34)
                    else
                      if l2 = (9 : Int32) then
                        ld (B 18) 24 l1 fun v36 =>
                        some (v36, B)
                      else
                        if l2 = (10 : Int32) then
                          ld (B 19) 24 l1 fun v40 =>
                          some (v40, B)
                        else
                          if l2 = (11 : Int32) then
                            c1 (FX0_soldBy B l1) fun r44 =>
                            some (r44, B)
                          else
                            if l2 = (12 : Int32) then
                              c1 (FX0_boughtBy B l1) fun r47 =>
                              some (r47, B)
                            else
                              if l2 = (13 : Int32) then
                                c1 (FX4_followersOf B l1) fun r50 =>
                                some (r50, B)
                              else
                                some ((-2 : Int32), B)
set_option maxRecDepth 100000 in
set_option maxHeartbeats 4000000 in
theorem wX2_tellOfTask {E : WE} {V : VT} {A : Nat → Prop} {H0 : Heap} {M : Mem} {j : Nat} (hj : j < 11) (Cx : CX E RX2 cX2_tellOfTask 3 4 107) {r : Int32} {B' : Blk} (hret : RetI E V A H0 cX2_tellOfTask .int r (jb M j B')) {H : Heap} {locs : List Loc} {ls : Array Slot} {l1 : Int32} {l2 : Int32} {B : Blk} (hW : Wd V A H0 (jb M j B) (eS E) H locs) (hl : lv_has ls 3 [(0, .ref (vA V j 0)), (1, .int l1), (2, .int l2)]) (hF : FX2_tellOfTask B l1 l2 = some (r, B')) : Wq E H locs 0 ls [] := by
  unfold FX2_tellOfTask at hF
  refine q_aload_n Cx dX2_tellOfTask_0 rfl (lv_at hl 0 rfl) ?_
  refine q_get (v := .ref (vA V j 1)) Cx hW (oM hj) ic2 0 (by decide) rfl wd_166 dX2_tellOfTask_1 ?_
  refine q_iload_n Cx dX2_tellOfTask_4 rfl (lv_at hl 1 rfl) ?_
  obtain ⟨r1, e2, hF⟩ := c1_some hF
  refine q_callI (as := [.int l1]) (rest := []) Cx (kX4_has hj e2) okX4_has ovX4_has wd_308 ⟨rfl, rfl, by decide, by decide⟩ hW (oP hj) ic4 rfl hl.1 (Nat.le_of_ble_eq_true rfl) rfl dX2_tellOfTask_5 (fun H locs hW => ?_)
  refine q_if_ne (tgt := 13) Cx dX2_tellOfTask_8 (by decide) (fun c3 => ?_) (fun c3 => ?_)
  · have hF := (if_neg c3).symm.trans hF
    refine q_iload_n Cx dX2_tellOfTask_13 rfl (lv_at hl 2 rfl) ?_
    by_cases c4 : l2 = (0 : Int32)
    · have hF := (if_pos c4).symm.trans hF
      refine q_tableIn (tgt := 84) Cx dX2_tellOfTask_14 (by rw [c4]; decide) (by rw [c4]; decide) (ho := by rw [c4]; rfl) (by decide) ?_
      refine q_aload_n Cx dX2_tellOfTask_84 rfl (lv_at hl 0 rfl) ?_
      refine q_get (v := .ref (vA V j 1)) Cx hW (oM hj) ic2 0 (by decide) rfl wd_166 dX2_tellOfTask_85 ?_
      refine q_get (v := .ref (vA V j 3)) Cx hW (oP hj) ic4 1 (by decide) rfl wd_100 dX2_tellOfTask_88 ?_
      refine q_iload_n Cx dX2_tellOfTask_91 rfl (lv_at hl 1 rfl) ?_
      obtain ⟨h6, v5, e7, hF⟩ := ld_some hF
      refine qb_iald Cx hW (ai_3 hj) h6 e7 dX2_tellOfTask_92 ?_
      cases hF
      exact hret _ _ _ _ dX2_tellOfTask_93 (nI32 _) hW
    · have hF := (if_neg c4).symm.trans hF
      by_cases c8 : l2 = (1 : Int32)
      · have hF := (if_pos c8).symm.trans hF
        refine q_tableIn (tgt := 94) Cx dX2_tellOfTask_14 (by rw [c8]; decide) (by rw [c8]; decide) (ho := by rw [c8]; rfl) (by decide) ?_
        refine q_aload_n Cx dX2_tellOfTask_94 rfl (lv_at hl 0 rfl) ?_
        refine q_get (v := .ref (vA V j 1)) Cx hW (oM hj) ic2 0 (by decide) rfl wd_166 dX2_tellOfTask_95 ?_
        refine q_get (v := .ref (vA V j 4)) Cx hW (oP hj) ic4 2 (by decide) rfl wd_102 dX2_tellOfTask_98 ?_
        refine q_iload_n Cx dX2_tellOfTask_101 rfl (lv_at hl 1 rfl) ?_
        obtain ⟨h10, v9, e11, hF⟩ := ld_some hF
        refine qb_iald Cx hW (ai_4 hj) h10 e11 dX2_tellOfTask_102 ?_
        cases hF
        exact hret _ _ _ _ dX2_tellOfTask_103 (nI32 _) hW
      · have hF := (if_neg c8).symm.trans hF
        by_cases c12 : l2 = (2 : Int32)
        · have hF := (if_pos c12).symm.trans hF
          refine q_tableIn (tgt := 104) Cx dX2_tellOfTask_14 (by rw [c12]; decide) (by rw [c12]; decide) (ho := by rw [c12]; rfl) (by decide) ?_
          refine q_aload_n Cx dX2_tellOfTask_104 rfl (lv_at hl 0 rfl) ?_
          refine q_get (v := .ref (vA V j 1)) Cx hW (oM hj) ic2 0 (by decide) rfl wd_166 dX2_tellOfTask_105 ?_
          refine q_get (v := .ref (vA V j 5)) Cx hW (oP hj) ic4 3 (by decide) rfl wd_104 dX2_tellOfTask_108 ?_
          refine q_iload_n Cx dX2_tellOfTask_111 rfl (lv_at hl 1 rfl) ?_
          obtain ⟨h14, v13, e15, hF⟩ := ld_some hF
          refine qb_iald Cx hW (ai_5 hj) h14 e15 dX2_tellOfTask_112 ?_
          cases hF
          exact hret _ _ _ _ dX2_tellOfTask_113 (nI32 _) hW
        · have hF := (if_neg c12).symm.trans hF
          by_cases c16 : l2 = (3 : Int32)
          · have hF := (if_pos c16).symm.trans hF
            refine q_tableIn (tgt := 114) Cx dX2_tellOfTask_14 (by rw [c16]; decide) (by rw [c16]; decide) (ho := by rw [c16]; rfl) (by decide) ?_
            refine q_aload_n Cx dX2_tellOfTask_114 rfl (lv_at hl 0 rfl) ?_
            refine q_get (v := .ref (vA V j 1)) Cx hW (oM hj) ic2 0 (by decide) rfl wd_166 dX2_tellOfTask_115 ?_
            refine q_iload_n Cx dX2_tellOfTask_118 rfl (lv_at hl 1 rfl) ?_
            obtain ⟨r17, e18, hF⟩ := c1_some hF
            refine q_callI (as := [.int l1]) (rest := []) Cx (kX4_placeOf hj e18) okX4_placeOf ovX4_placeOf wd_353 ⟨rfl, rfl, by decide, by decide⟩ hW (oP hj) ic4 rfl hl.1 (Nat.le_of_ble_eq_true rfl) rfl dX2_tellOfTask_119 (fun H locs hW => ?_)
            cases hF
            exact hret _ _ _ _ dX2_tellOfTask_122 (nI32 _) hW
          · have hF := (if_neg c16).symm.trans hF
            by_cases c19 : l2 = (4 : Int32)
            · have hF := (if_pos c19).symm.trans hF
              refine q_tableIn (tgt := 123) Cx dX2_tellOfTask_14 (by rw [c19]; decide) (by rw [c19]; decide) (ho := by rw [c19]; rfl) (by decide) ?_
              refine q_aload_n Cx dX2_tellOfTask_123 rfl (lv_at hl 0 rfl) ?_
              refine q_get (v := .ref (vA V j 1)) Cx hW (oM hj) ic2 0 (by decide) rfl wd_166 dX2_tellOfTask_124 ?_
              refine q_iload_n Cx dX2_tellOfTask_127 rfl (lv_at hl 1 rfl) ?_
              obtain ⟨r20, e21, hF⟩ := c1_some hF
              refine q_callI (as := [.int l1]) (rest := []) Cx (kX4_startOf hj e21) okX4_startOf ovX4_startOf wd_471 ⟨rfl, rfl, by decide, by decide⟩ hW (oP hj) ic4 rfl hl.1 (Nat.le_of_ble_eq_true rfl) rfl dX2_tellOfTask_128 (fun H locs hW => ?_)
              cases hF
              exact hret _ _ _ _ dX2_tellOfTask_131 (nI32 _) hW
            · have hF := (if_neg c19).symm.trans hF
              by_cases c22 : l2 = (5 : Int32)
              · have hF := (if_pos c22).symm.trans hF
                refine q_tableIn (tgt := 132) Cx dX2_tellOfTask_14 (by rw [c22]; decide) (by rw [c22]; decide) (ho := by rw [c22]; rfl) (by decide) ?_
                refine q_aload_n Cx dX2_tellOfTask_132 rfl (lv_at hl 0 rfl) ?_
                refine q_get (v := .ref (vA V j 1)) Cx hW (oM hj) ic2 0 (by decide) rfl wd_166 dX2_tellOfTask_133 ?_
                refine q_iload_n Cx dX2_tellOfTask_136 rfl (lv_at hl 1 rfl) ?_
                obtain ⟨r23, e24, hF⟩ := c1_some hF
                refine q_callI (as := [.int l1]) (rest := []) Cx (kX4_endOf hj e24) okX4_endOf ovX4_endOf wd_475 ⟨rfl, rfl, by decide, by decide⟩ hW (oP hj) ic4 rfl hl.1 (Nat.le_of_ble_eq_true rfl) rfl dX2_tellOfTask_137 (fun H locs hW => ?_)
                cases hF
                exact hret _ _ _ _ dX2_tellOfTask_140 (nI32 _) hW
              · have hF := (if_neg c22).symm.trans hF
                by_cases c25 : l2 = (6 : Int32)
                · have hF := (if_pos c25).symm.trans hF
                  refine q_tableIn (tgt := 141) Cx dX2_tellOfTask_14 (by rw [c25]; decide) (by rw [c25]; decide) (ho := by rw [c25]; rfl) (by decide) ?_
                  refine q_aload_n Cx dX2_tellOfTask_141 rfl (lv_at hl 0 rfl) ?_
                  refine q_iload_n Cx dX2_tellOfTask_142 rfl (lv_at hl 1 rfl) ?_
                  obtain ⟨r26, e27, hF⟩ := c1_some hF
                  refine q_callI (as := [.int l1]) (rest := []) Cx (kX2_lateOf hj e27) okX2_lateOf ovX2_lateOf wd_386 ⟨rfl, rfl, by decide, by decide⟩ hW (oM hj) ic2 rfl hl.1 (Nat.le_of_ble_eq_true rfl) rfl dX2_tellOfTask_143 (fun H locs hW => ?_)
                  cases hF
                  exact hret _ _ _ _ dX2_tellOfTask_146 (nI32 _) hW
                · have hF := (if_neg c25).symm.trans hF
                  by_cases c28 : l2 = (7 : Int32)
                  · have hF := (if_pos c28).symm.trans hF
                    refine q_tableIn (tgt := 147) Cx dX2_tellOfTask_14 (by rw [c28]; decide) (by rw [c28]; decide) (ho := by rw [c28]; rfl) (by decide) ?_
                    refine q_aload_n Cx dX2_tellOfTask_147 rfl (lv_at hl 0 rfl) ?_
                    refine q_iload_n Cx dX2_tellOfTask_148 rfl (lv_at hl 1 rfl) ?_
                    obtain ⟨r29, e30, hF⟩ := c1_some hF
                    refine q_callI (as := [.int l1]) (rest := []) Cx (kX2_spareOf hj e30) okX2_spareOf ovX2_spareOf wd_423 ⟨rfl, rfl, by decide, by decide⟩ hW (oM hj) ic2 rfl hl.1 (Nat.le_of_ble_eq_true rfl) rfl dX2_tellOfTask_149 (fun H locs hW => ?_)
                    cases hF
                    exact hret _ _ _ _ dX2_tellOfTask_152 (nI32 _) hW
                  · have hF := (if_neg c28).symm.trans hF
                    by_cases c31 : l2 = (8 : Int32)
                    · have hF := (if_pos c31).symm.trans hF
                      refine q_tableIn (tgt := 153) Cx dX2_tellOfTask_14 (by rw [c31]; decide) (by rw [c31]; decide) (ho := by rw [c31]; rfl) (by decide) ?_
                      refine q_aload_n Cx dX2_tellOfTask_153 rfl (lv_at hl 0 rfl) ?_
                      refine q_iload_n Cx dX2_tellOfTask_154 rfl (lv_at hl 1 rfl) ?_
                      obtain ⟨r32, B34, e33, hF⟩ := c2_some hF
                      refine q_callI (as := [.int l1]) (rest := []) Cx (kX2_slackOf hj e33) okX2_slackOf ovX2_slackOf wd_476 ⟨rfl, rfl, by decide, by decide⟩ hW (oM hj) ic2 rfl hl.1 (Nat.le_of_ble_eq_true rfl) rfl dX2_tellOfTask_155 (fun H locs hW => ?_)
                      cases hF
                      exact hret _ _ _ _ dX2_tellOfTask_158 (nI32 _) hW
                    · have hF := (if_neg c31).symm.trans hF
                      by_cases c35 : l2 = (9 : Int32)
                      · have hF := (if_pos c35).symm.trans hF
                        refine q_tableIn (tgt := 159) Cx dX2_tellOfTask_14 (by rw [c35]; decide) (by rw [c35]; decide) (ho := by rw [c35]; rfl) (by decide) ?_
                        refine q_aload_n Cx dX2_tellOfTask_159 rfl (lv_at hl 0 rfl) ?_
                        refine q_get (v := .ref (vA V j 18)) Cx hW (oM hj) ic2 6 (by decide) rfl wd_176 dX2_tellOfTask_160 ?_
                        refine q_iload_n Cx dX2_tellOfTask_163 rfl (lv_at hl 1 rfl) ?_
                        obtain ⟨h37, v36, e38, hF⟩ := ld_some hF
                        refine qb_iald Cx hW (ai_18 hj) h37 e38 dX2_tellOfTask_164 ?_
                        cases hF
                        exact hret _ _ _ _ dX2_tellOfTask_165 (nI32 _) hW
                      · have hF := (if_neg c35).symm.trans hF
                        by_cases c39 : l2 = (10 : Int32)
                        · have hF := (if_pos c39).symm.trans hF
                          refine q_tableIn (tgt := 166) Cx dX2_tellOfTask_14 (by rw [c39]; decide) (by rw [c39]; decide) (ho := by rw [c39]; rfl) (by decide) ?_
                          refine q_aload_n Cx dX2_tellOfTask_166 rfl (lv_at hl 0 rfl) ?_
                          refine q_get (v := .ref (vA V j 19)) Cx hW (oM hj) ic2 7 (by decide) rfl wd_177 dX2_tellOfTask_167 ?_
                          refine q_iload_n Cx dX2_tellOfTask_170 rfl (lv_at hl 1 rfl) ?_
                          obtain ⟨h41, v40, e42, hF⟩ := ld_some hF
                          refine qb_iald Cx hW (ai_19 hj) h41 e42 dX2_tellOfTask_171 ?_
                          cases hF
                          exact hret _ _ _ _ dX2_tellOfTask_172 (nI32 _) hW
                        · have hF := (if_neg c39).symm.trans hF
                          by_cases c43 : l2 = (11 : Int32)
                          · have hF := (if_pos c43).symm.trans hF
                            refine q_tableIn (tgt := 173) Cx dX2_tellOfTask_14 (by rw [c43]; decide) (by rw [c43]; decide) (ho := by rw [c43]; rfl) (by decide) ?_
                            refine q_aload_n Cx dX2_tellOfTask_173 rfl (lv_at hl 0 rfl) ?_
                            refine q_get (v := .ref (vA V j 2)) Cx hW (oM hj) ic2 1 (by decide) rfl wd_168 dX2_tellOfTask_174 ?_
                            refine q_iload_n Cx dX2_tellOfTask_177 rfl (lv_at hl 1 rfl) ?_
                            obtain ⟨r44, e45, hF⟩ := c1_some hF
                            refine q_callI (as := [.int l1]) (rest := []) Cx (kX0_soldBy hj e45) okX0_soldBy ovX0_soldBy wd_492 ⟨rfl, rfl, by decide, by decide⟩ hW (oC hj) ic0 rfl hl.1 (Nat.le_of_ble_eq_true rfl) rfl dX2_tellOfTask_178 (fun H locs hW => ?_)
                            cases hF
                            exact hret _ _ _ _ dX2_tellOfTask_181 (nI32 _) hW
                          · have hF := (if_neg c43).symm.trans hF
                            by_cases c46 : l2 = (12 : Int32)
                            · have hF := (if_pos c46).symm.trans hF
                              refine q_tableIn (tgt := 182) Cx dX2_tellOfTask_14 (by rw [c46]; decide) (by rw [c46]; decide) (ho := by rw [c46]; rfl) (by decide) ?_
                              refine q_aload_n Cx dX2_tellOfTask_182 rfl (lv_at hl 0 rfl) ?_
                              refine q_get (v := .ref (vA V j 2)) Cx hW (oM hj) ic2 1 (by decide) rfl wd_168 dX2_tellOfTask_183 ?_
                              refine q_iload_n Cx dX2_tellOfTask_186 rfl (lv_at hl 1 rfl) ?_
                              obtain ⟨r47, e48, hF⟩ := c1_some hF
                              refine q_callI (as := [.int l1]) (rest := []) Cx (kX0_boughtBy hj e48) okX0_boughtBy ovX0_boughtBy wd_496 ⟨rfl, rfl, by decide, by decide⟩ hW (oC hj) ic0 rfl hl.1 (Nat.le_of_ble_eq_true rfl) rfl dX2_tellOfTask_187 (fun H locs hW => ?_)
                              cases hF
                              exact hret _ _ _ _ dX2_tellOfTask_190 (nI32 _) hW
                            · have hF := (if_neg c46).symm.trans hF
                              by_cases c49 : l2 = (13 : Int32)
                              · have hF := (if_pos c49).symm.trans hF
                                refine q_tableIn (tgt := 191) Cx dX2_tellOfTask_14 (by rw [c49]; decide) (by rw [c49]; decide) (ho := by rw [c49]; rfl) (by decide) ?_
                                refine q_aload_n Cx dX2_tellOfTask_191 rfl (lv_at hl 0 rfl) ?_
                                refine q_get (v := .ref (vA V j 1)) Cx hW (oM hj) ic2 0 (by decide) rfl wd_166 dX2_tellOfTask_192 ?_
                                refine q_iload_n Cx dX2_tellOfTask_195 rfl (lv_at hl 1 rfl) ?_
                                obtain ⟨r50, e51, hF⟩ := c1_some hF
                                refine q_callI (as := [.int l1]) (rest := []) Cx (kX4_followersOf hj e51) okX4_followersOf ovX4_followersOf wd_500 ⟨rfl, rfl, by decide, by decide⟩ hW (oP hj) ic4 rfl hl.1 (Nat.le_of_ble_eq_true rfl) rfl dX2_tellOfTask_196 (fun H locs hW => ?_)
                                cases hF
                                exact hret _ _ _ _ dX2_tellOfTask_199 (nI32 _) hW
                              · have hF := (if_neg c49).symm.trans hF
                                refine q_tableOut (tgt := 200) Cx dX2_tellOfTask_14 (tbl_out (tbl_cons (k := (0 : Int32)) (l1 := 1) (by decide) (by decide) c4 (tbl_cons (k := (1 : Int32)) (l1 := 2) (by decide) (by decide) c8 (tbl_cons (k := (2 : Int32)) (l1 := 3) (by decide) (by decide) c12 (tbl_cons (k := (3 : Int32)) (l1 := 4) (by decide) (by decide) c16 (tbl_cons (k := (4 : Int32)) (l1 := 5) (by decide) (by decide) c19 (tbl_cons (k := (5 : Int32)) (l1 := 6) (by decide) (by decide) c22 (tbl_cons (k := (6 : Int32)) (l1 := 7) (by decide) (by decide) c25 (tbl_cons (k := (7 : Int32)) (l1 := 8) (by decide) (by decide) c28 (tbl_cons (k := (8 : Int32)) (l1 := 9) (by decide) (by decide) c31 (tbl_cons (k := (9 : Int32)) (l1 := 10) (by decide) (by decide) c35 (tbl_cons (k := (10 : Int32)) (l1 := 11) (by decide) (by decide) c39 (tbl_cons (k := (11 : Int32)) (l1 := 12) (by decide) (by decide) c43 (tbl_cons (k := (12 : Int32)) (l1 := 13) (by decide) (by decide) c46 (tbl_cons (k := (13 : Int32)) (l1 := 14) (by decide) (by decide) c49 (tbl_nil (by decide))))))))))))))))) (by decide) ?_
                                refine q_bipush (v := (-2 : Int32)) Cx dX2_tellOfTask_200 (by decide) ?_
                                cases hF
                                exact hret _ _ _ _ dX2_tellOfTask_202 (nI32 _) hW
  · have hF := (if_pos c3).symm.trans hF
    refine q_iconst (v := (-1 : Int32)) Cx dX2_tellOfTask_11 (by decide) ?_
    cases hF
    exact hret _ _ _ _ dX2_tellOfTask_12 (nI32 _) hW
set_option maxRecDepth 100000 in
theorem kX2_tellOfTask {l : Launch} {V : VT} {M : Mem} {j : Nat} (hj : j < 11) {B : Blk} {l1 : Int32} {l2 : Int32} {r : Int32} {B' : Blk} (hF : FX2_tellOfTask B l1 l2 = some (r, B')) : MetI l V yX2_tellOfTask cX2_tellOfTask 3 .int ({ frames := 4, cells := 0, slots := 0, locals := 107 } : Room) [.ref (vA V j 0), .int l1, .int l2] r (jb M j B) (jb M j B') := metI_of (by decide) (Nat.le_of_ble_eq_true rfl) (fun E H0 _ Cx hret H locs ls hW hl => wX2_tellOfTask hj Cx hret hW hl hF)
theorem dX2_offers_0 : decode cX2_offers 0 = .ok (.iconst 0, 1) := by decide +kernel
theorem dX2_offers_1 : decode cX2_offers 1 = .ok (.istore_n 1, 1) := by decide +kernel
theorem dX2_offers_2 : decode cX2_offers 2 = .ok (.iconst 0, 1) := by decide +kernel
theorem dX2_offers_3 : decode cX2_offers 3 = .ok (.istore_n 2, 1) := by decide +kernel
theorem dX2_offers_4 : decode cX2_offers 4 = .ok (.iload_n 2, 1) := by decide +kernel
theorem dX2_offers_5 : decode cX2_offers 5 = .ok (.aload_n 0, 1) := by decide +kernel
theorem dX2_offers_6 : decode cX2_offers 6 = .ok (.getfield 12, 3) := by decide +kernel
theorem dX2_offers_9 : decode cX2_offers 9 = .ok (.getfield 66, 3) := by decide +kernel
theorem dX2_offers_12 : decode cX2_offers 12 = .ok (.if_icmp .ge 26, 3) := by decide +kernel
theorem dX2_offers_15 : decode cX2_offers 15 = .ok (.iload_n 1, 1) := by decide +kernel
theorem dX2_offers_16 : decode cX2_offers 16 = .ok (.aload_n 0, 1) := by decide +kernel
theorem dX2_offers_17 : decode cX2_offers 17 = .ok (.getfield 39, 3) := by decide +kernel
theorem dX2_offers_20 : decode cX2_offers 20 = .ok (.iload_n 2, 1) := by decide +kernel
theorem dX2_offers_21 : decode cX2_offers 21 = .ok (.iaload, 1) := by decide +kernel
theorem dX2_offers_22 : decode cX2_offers 22 = .ok (.ifCond .le 7, 3) := by decide +kernel
theorem dX2_offers_25 : decode cX2_offers 25 = .ok (.iconst 1, 1) := by decide +kernel
theorem dX2_offers_26 : decode cX2_offers 26 = .ok (.goto 4, 3) := by decide +kernel
theorem dX2_offers_29 : decode cX2_offers 29 = .ok (.iconst 0, 1) := by decide +kernel
theorem dX2_offers_30 : decode cX2_offers 30 = .ok (.iadd, 1) := by decide +kernel
theorem dX2_offers_31 : decode cX2_offers 31 = .ok (.istore_n 1, 1) := by decide +kernel
theorem dX2_offers_32 : decode cX2_offers 32 = .ok (.iinc 2 1, 3) := by decide +kernel
theorem dX2_offers_35 : decode cX2_offers 35 = .ok (.goto (-31), 3) := by decide +kernel
theorem dX2_offers_38 : decode cX2_offers 38 = .ok (.iload_n 1, 1) := by decide +kernel
theorem dX2_offers_39 : decode cX2_offers 39 = .ok (.ireturn, 1) := by decide +kernel
theorem okX2_offers : CalOK yX2_offers cX2_offers 3 (some .int) 0 := ⟨wd_68, wd_539, by decide +kernel⟩
theorem ovX2_offers : VirOK yX2_offers := ⟨wd_538, wd_11⟩
def FX2_offers_30 (B : Blk) (k4 : Int32 → Int32 → Option Int32) (l2 : Int32) (s0 : Int32) (s1 : Int32) : Option Int32 :=
  lt1 (s1 + s0) fun x6 =>
  lt1 (l2 + (1 : Int32)) fun x8 =>
  k4 x6 x8
set_option maxRecDepth 100000 in
set_option maxHeartbeats 4000000 in
theorem wX2_offers_30 {E : WE} {V : VT} {A : Nat → Prop} {H0 : Heap} {M : Mem} {j : Nat} (hj : j < 11) (Cx : CX E RX2 cX2_offers 3 0 0) {r : Int32} {B : Blk} (hret : RetI E V A H0 cX2_offers .int r (jb M j B)) {k4 : Int32 → Int32 → Option Int32} (hk4 : ∀ {H : Heap} {locs : List Loc} {ls : Array Slot} {l1 : Int32} {l2 : Int32}, Wd V A H0 (jb M j B) (eS E) H locs → lv_has ls 3 [(0, .ref (vA V j 0)), (1, .int l1), (2, .int l2)] → k4 l1 l2 = some r → Wq E H locs 4 ls []) {H : Heap} {locs : List Loc} {ls : Array Slot} {l2 : Int32} {s0 : Int32} {s1 : Int32} (hW : Wd V A H0 (jb M j B) (eS E) H locs) (hl : lv_has ls 3 [(0, .ref (vA V j 0)), (2, .int l2)]) (hF : FX2_offers_30 B k4 l2 s0 s1 = some r) : Wq E H locs 30 ls [.int s0, .int s1] := by
  unfold FX2_offers_30 at hF
  refine q_iadd Cx dX2_offers_30 ?_
  obtain ⟨x6, e7, hF⟩ := lt1_some hF
  refine q_topi e7 ?_
  refine q_istore_n (lv' := [(1, .int x6), (0, .ref (vA V j 0)), (2, .int l2)]) Cx dX2_offers_31 rfl hl (by decide) rfl (fun ls hl => ?_)
  obtain ⟨x8, e9, hF⟩ := lt1_some hF
  refine q_iinc (k := 2) (v := x8) (lv' := [(2, .int x8), (1, .int x6), (0, .ref (vA V j 0))]) Cx dX2_offers_32 hl rfl e9.symm (by decide) rfl (fun ls hl => ?_)
  refine q_goto (tgt := 4) Cx dX2_offers_35 (by decide) ?_
  exact hk4 hW (lv_sub hl [2, 1, 0] rfl) hF
def FX2_offers_4s (B : Blk) (k4 : Int32 → Int32 → Option Int32) (l1 : Int32) (l2 : Int32) : Option Int32 :=
  if ((B 1) 0) ≤ l2 then
    some l1
  else
    ld (B 18) 24 l2 fun v2 =>
    if v2 ≤ 0 then
      FX2_offers_30 B k4 l2 (0 : Int32) l1
    else
      FX2_offers_30 B k4 l2 (1 : Int32) l1
set_option maxRecDepth 100000 in
set_option maxHeartbeats 4000000 in
theorem wX2_offers_4s {E : WE} {V : VT} {A : Nat → Prop} {H0 : Heap} {M : Mem} {j : Nat} (hj : j < 11) (Cx : CX E RX2 cX2_offers 3 0 0) {r : Int32} {B : Blk} (hret : RetI E V A H0 cX2_offers .int r (jb M j B)) {k4 : Int32 → Int32 → Option Int32} (hk4 : ∀ {H : Heap} {locs : List Loc} {ls : Array Slot} {l1 : Int32} {l2 : Int32}, Wd V A H0 (jb M j B) (eS E) H locs → lv_has ls 3 [(0, .ref (vA V j 0)), (1, .int l1), (2, .int l2)] → k4 l1 l2 = some r → Wq E H locs 4 ls []) {H : Heap} {locs : List Loc} {ls : Array Slot} {l1 : Int32} {l2 : Int32} (hW : Wd V A H0 (jb M j B) (eS E) H locs) (hl : lv_has ls 3 [(0, .ref (vA V j 0)), (1, .int l1), (2, .int l2)]) (hF : FX2_offers_4s B k4 l1 l2 = some r) : Wq E H locs 4 ls [] := by
  unfold FX2_offers_4s at hF
  refine q_iload_n Cx dX2_offers_4 rfl (lv_at hl 2 rfl) ?_
  refine q_aload_n Cx dX2_offers_5 rfl (lv_at hl 0 rfl) ?_
  refine q_get (v := .ref (vA V j 1)) Cx hW (oM hj) ic2 0 (by decide) rfl wd_166 dX2_offers_6 ?_
  refine qb_get (v := .int ((B 1) 0)) Cx hW (oP hj) ic4 0 (by decide) rfl wd_97 dX2_offers_9 ?_
  refine q_icmp_ge (tgt := 38) Cx dX2_offers_12 (by decide) (fun c1 => ?_) (fun c1 => ?_)
  · have hF := (if_pos c1).symm.trans hF
    refine q_iload_n Cx dX2_offers_38 rfl (lv_at hl 1 rfl) ?_
    cases hF
    exact hret _ _ _ _ dX2_offers_39 (nI32 _) hW
  · have hF := (if_neg c1).symm.trans hF
    refine q_iload_n Cx dX2_offers_15 rfl (lv_at hl 1 rfl) ?_
    refine q_aload_n Cx dX2_offers_16 rfl (lv_at hl 0 rfl) ?_
    refine q_get (v := .ref (vA V j 18)) Cx hW (oM hj) ic2 6 (by decide) rfl wd_176 dX2_offers_17 ?_
    refine q_iload_n Cx dX2_offers_20 rfl (lv_at hl 2 rfl) ?_
    obtain ⟨h3, v2, e4, hF⟩ := ld_some hF
    refine qb_iald Cx hW (ai_18 hj) h3 e4 dX2_offers_21 ?_
    refine q_if_le (tgt := 29) Cx dX2_offers_22 (by decide) (fun c5 => ?_) (fun c5 => ?_)
    · have hF := (if_pos c5).symm.trans hF
      refine q_iconst (v := (0 : Int32)) Cx dX2_offers_29 (by decide) ?_
      exact wX2_offers_30 hj Cx hret hk4 hW (lv_sub hl [0, 2] rfl) hF
    · have hF := (if_neg c5).symm.trans hF
      refine q_iconst (v := (1 : Int32)) Cx dX2_offers_25 (by decide) ?_
      refine q_goto (tgt := 30) Cx dX2_offers_26 (by decide) ?_
      exact wX2_offers_30 hj Cx hret hk4 hW (lv_sub hl [0, 2] rfl) hF
def FX2_offers_4 (B : Blk) : Nat → Int32 → Int32 → Option Int32
  | 0 => fun _ _ => none
  | n + 1 => FX2_offers_4s B (FX2_offers_4 B n)
set_option maxRecDepth 100000 in
theorem wX2_offers_4 {E : WE} {V : VT} {A : Nat → Prop} {H0 : Heap} {M : Mem} {j : Nat} (hj : j < 11) (Cx : CX E RX2 cX2_offers 3 0 0) {r : Int32} {B : Blk} (hret : RetI E V A H0 cX2_offers .int r (jb M j B)) : ∀ (n : Nat) {H : Heap} {locs : List Loc} {ls : Array Slot} {l1 : Int32} {l2 : Int32}, Wd V A H0 (jb M j B) (eS E) H locs → lv_has ls 3 [(0, .ref (vA V j 0)), (1, .int l1), (2, .int l2)] → FX2_offers_4 B n l1 l2 = some r → Wq E H locs 4 ls [] := by
  intro n
  induction n with
  | zero => intro _ _ _ _ _ hW hl hF; cases hF
  | succ n ih => intro _ _ _ _ _ hW hl hF; exact wX2_offers_4s hj Cx hret ih hW hl hF
def FX2_offers (B : Blk) : Option Int32 :=
  FX2_offers_4 B fu (0 : Int32) (0 : Int32)
set_option maxRecDepth 100000 in
set_option maxHeartbeats 4000000 in
theorem wX2_offers {E : WE} {V : VT} {A : Nat → Prop} {H0 : Heap} {M : Mem} {j : Nat} (hj : j < 11) (Cx : CX E RX2 cX2_offers 3 0 0) {r : Int32} {B : Blk} (hret : RetI E V A H0 cX2_offers .int r (jb M j B)) {H : Heap} {locs : List Loc} {ls : Array Slot} (hW : Wd V A H0 (jb M j B) (eS E) H locs) (hl : lv_has ls 3 [(0, .ref (vA V j 0))]) (hF : FX2_offers B = some r) : Wq E H locs 0 ls [] := by
  unfold FX2_offers at hF
  refine q_iconst (v := (0 : Int32)) Cx dX2_offers_0 (by decide) ?_
  refine q_istore_n (lv' := [(1, .int (0 : Int32)), (0, .ref (vA V j 0))]) Cx dX2_offers_1 rfl hl (by decide) rfl (fun ls hl => ?_)
  refine q_iconst (v := (0 : Int32)) Cx dX2_offers_2 (by decide) ?_
  refine q_istore_n (lv' := [(2, .int (0 : Int32)), (1, .int (0 : Int32)), (0, .ref (vA V j 0))]) Cx dX2_offers_3 rfl hl (by decide) rfl (fun ls hl => ?_)
  exact wX2_offers_4 hj Cx hret fu hW (lv_sub hl [2, 1, 0] rfl) hF
set_option maxRecDepth 100000 in
theorem kX2_offers {l : Launch} {V : VT} {M : Mem} {j : Nat} (hj : j < 11) {B : Blk} {r : Int32} (hF : FX2_offers B = some r) : MetI l V yX2_offers cX2_offers 3 .int ({ frames := 0, cells := 0, slots := 0, locals := 0 } : Room) [.ref (vA V j 0)] r (jb M j B) (jb M j B) := metI_of (by decide) (Nat.le_of_ble_eq_true rfl) (fun E H0 _ Cx hret H locs ls hW hl => wX2_offers hj Cx hret hW hl hF)
theorem dX2_lateTasks_0 : decode cX2_lateTasks 0 = .ok (.iconst 0, 1) := by decide +kernel
theorem dX2_lateTasks_1 : decode cX2_lateTasks 1 = .ok (.istore_n 1, 1) := by decide +kernel
theorem dX2_lateTasks_2 : decode cX2_lateTasks 2 = .ok (.iconst 0, 1) := by decide +kernel
theorem dX2_lateTasks_3 : decode cX2_lateTasks 3 = .ok (.istore_n 2, 1) := by decide +kernel
theorem dX2_lateTasks_4 : decode cX2_lateTasks 4 = .ok (.iload_n 2, 1) := by decide +kernel
theorem dX2_lateTasks_5 : decode cX2_lateTasks 5 = .ok (.aload_n 0, 1) := by decide +kernel
theorem dX2_lateTasks_6 : decode cX2_lateTasks 6 = .ok (.getfield 12, 3) := by decide +kernel
theorem dX2_lateTasks_9 : decode cX2_lateTasks 9 = .ok (.getfield 66, 3) := by decide +kernel
theorem dX2_lateTasks_12 : decode cX2_lateTasks 12 = .ok (.if_icmp .ge 27, 3) := by decide +kernel
theorem dX2_lateTasks_15 : decode cX2_lateTasks 15 = .ok (.iload_n 1, 1) := by decide +kernel
theorem dX2_lateTasks_16 : decode cX2_lateTasks 16 = .ok (.aload_n 0, 1) := by decide +kernel
theorem dX2_lateTasks_17 : decode cX2_lateTasks 17 = .ok (.iload_n 2, 1) := by decide +kernel
theorem dX2_lateTasks_18 : decode cX2_lateTasks 18 = .ok (.invokevirtual 125, 3) := by decide +kernel
theorem dX2_lateTasks_21 : decode cX2_lateTasks 21 = .ok (.ifCond .le 9, 3) := by decide +kernel
theorem dX2_lateTasks_24 : decode cX2_lateTasks 24 = .ok (.iconst 1, 1) := by decide +kernel
theorem dX2_lateTasks_25 : decode cX2_lateTasks 25 = .ok (.iload_n 2, 1) := by decide +kernel
theorem dX2_lateTasks_26 : decode cX2_lateTasks 26 = .ok (.ishl, 1) := by decide +kernel
theorem dX2_lateTasks_27 : decode cX2_lateTasks 27 = .ok (.goto 4, 3) := by decide +kernel
theorem dX2_lateTasks_30 : decode cX2_lateTasks 30 = .ok (.iconst 0, 1) := by decide +kernel
theorem dX2_lateTasks_31 : decode cX2_lateTasks 31 = .ok (.ior, 1) := by decide +kernel
theorem dX2_lateTasks_32 : decode cX2_lateTasks 32 = .ok (.istore_n 1, 1) := by decide +kernel
theorem dX2_lateTasks_33 : decode cX2_lateTasks 33 = .ok (.iinc 2 1, 3) := by decide +kernel
theorem dX2_lateTasks_36 : decode cX2_lateTasks 36 = .ok (.goto (-32), 3) := by decide +kernel
theorem dX2_lateTasks_39 : decode cX2_lateTasks 39 = .ok (.iload_n 1, 1) := by decide +kernel
theorem dX2_lateTasks_40 : decode cX2_lateTasks 40 = .ok (.ireturn, 1) := by decide +kernel
theorem okX2_lateTasks : CalOK yX2_lateTasks cX2_lateTasks 3 (some .int) 0 := ⟨wd_68, wd_543, by decide +kernel⟩
theorem ovX2_lateTasks : VirOK yX2_lateTasks := ⟨wd_542, wd_12⟩
def FX2_lateTasks_31 (B : Blk) (k4 : Int32 → Int32 → Option Int32) (l2 : Int32) (s0 : Int32) (s1 : Int32) : Option Int32 :=
  lt1 (s1 ||| s0) fun x5 =>
  lt1 (l2 + (1 : Int32)) fun x7 =>
  k4 x5 x7
set_option maxRecDepth 100000 in
set_option maxHeartbeats 4000000 in
theorem wX2_lateTasks_31 {E : WE} {V : VT} {A : Nat → Prop} {H0 : Heap} {M : Mem} {j : Nat} (hj : j < 11) (Cx : CX E RX2 cX2_lateTasks 3 2 61) {r : Int32} {B : Blk} (hret : RetI E V A H0 cX2_lateTasks .int r (jb M j B)) {k4 : Int32 → Int32 → Option Int32} (hk4 : ∀ {H : Heap} {locs : List Loc} {ls : Array Slot} {l1 : Int32} {l2 : Int32}, Wd V A H0 (jb M j B) (eS E) H locs → lv_has ls 3 [(0, .ref (vA V j 0)), (1, .int l1), (2, .int l2)] → k4 l1 l2 = some r → Wq E H locs 4 ls []) {H : Heap} {locs : List Loc} {ls : Array Slot} {l2 : Int32} {s0 : Int32} {s1 : Int32} (hW : Wd V A H0 (jb M j B) (eS E) H locs) (hl : lv_has ls 3 [(0, .ref (vA V j 0)), (2, .int l2)]) (hF : FX2_lateTasks_31 B k4 l2 s0 s1 = some r) : Wq E H locs 31 ls [.int s0, .int s1] := by
  unfold FX2_lateTasks_31 at hF
  refine q_ior Cx dX2_lateTasks_31 ?_
  obtain ⟨x5, e6, hF⟩ := lt1_some hF
  refine q_topi e6 ?_
  refine q_istore_n (lv' := [(1, .int x5), (0, .ref (vA V j 0)), (2, .int l2)]) Cx dX2_lateTasks_32 rfl hl (by decide) rfl (fun ls hl => ?_)
  obtain ⟨x7, e8, hF⟩ := lt1_some hF
  refine q_iinc (k := 2) (v := x7) (lv' := [(2, .int x7), (1, .int x5), (0, .ref (vA V j 0))]) Cx dX2_lateTasks_33 hl rfl e8.symm (by decide) rfl (fun ls hl => ?_)
  refine q_goto (tgt := 4) Cx dX2_lateTasks_36 (by decide) ?_
  exact hk4 hW (lv_sub hl [2, 1, 0] rfl) hF
def FX2_lateTasks_4s (B : Blk) (k4 : Int32 → Int32 → Option Int32) (l1 : Int32) (l2 : Int32) : Option Int32 :=
  if ((B 1) 0) ≤ l2 then
    some l1
  else
    c1 (FX2_lateOf B l2) fun r2 =>
    if r2 ≤ 0 then
      FX2_lateTasks_31 B k4 l2 (0 : Int32) l1
    else
      FX2_lateTasks_31 B k4 l2 ((1 : Int32) <<< (l2 &&& 31)) l1
set_option maxRecDepth 100000 in
set_option maxHeartbeats 4000000 in
theorem wX2_lateTasks_4s {E : WE} {V : VT} {A : Nat → Prop} {H0 : Heap} {M : Mem} {j : Nat} (hj : j < 11) (Cx : CX E RX2 cX2_lateTasks 3 2 61) {r : Int32} {B : Blk} (hret : RetI E V A H0 cX2_lateTasks .int r (jb M j B)) {k4 : Int32 → Int32 → Option Int32} (hk4 : ∀ {H : Heap} {locs : List Loc} {ls : Array Slot} {l1 : Int32} {l2 : Int32}, Wd V A H0 (jb M j B) (eS E) H locs → lv_has ls 3 [(0, .ref (vA V j 0)), (1, .int l1), (2, .int l2)] → k4 l1 l2 = some r → Wq E H locs 4 ls []) {H : Heap} {locs : List Loc} {ls : Array Slot} {l1 : Int32} {l2 : Int32} (hW : Wd V A H0 (jb M j B) (eS E) H locs) (hl : lv_has ls 3 [(0, .ref (vA V j 0)), (1, .int l1), (2, .int l2)]) (hF : FX2_lateTasks_4s B k4 l1 l2 = some r) : Wq E H locs 4 ls [] := by
  unfold FX2_lateTasks_4s at hF
  refine q_iload_n Cx dX2_lateTasks_4 rfl (lv_at hl 2 rfl) ?_
  refine q_aload_n Cx dX2_lateTasks_5 rfl (lv_at hl 0 rfl) ?_
  refine q_get (v := .ref (vA V j 1)) Cx hW (oM hj) ic2 0 (by decide) rfl wd_166 dX2_lateTasks_6 ?_
  refine qb_get (v := .int ((B 1) 0)) Cx hW (oP hj) ic4 0 (by decide) rfl wd_97 dX2_lateTasks_9 ?_
  refine q_icmp_ge (tgt := 39) Cx dX2_lateTasks_12 (by decide) (fun c1 => ?_) (fun c1 => ?_)
  · have hF := (if_pos c1).symm.trans hF
    refine q_iload_n Cx dX2_lateTasks_39 rfl (lv_at hl 1 rfl) ?_
    cases hF
    exact hret _ _ _ _ dX2_lateTasks_40 (nI32 _) hW
  · have hF := (if_neg c1).symm.trans hF
    refine q_iload_n Cx dX2_lateTasks_15 rfl (lv_at hl 1 rfl) ?_
    refine q_aload_n Cx dX2_lateTasks_16 rfl (lv_at hl 0 rfl) ?_
    refine q_iload_n Cx dX2_lateTasks_17 rfl (lv_at hl 2 rfl) ?_
    obtain ⟨r2, e3, hF⟩ := c1_some hF
    refine q_callI (as := [.int l2]) (rest := [.int l1]) Cx (kX2_lateOf hj e3) okX2_lateOf ovX2_lateOf wd_386 ⟨rfl, rfl, by decide, by decide⟩ hW (oM hj) ic2 rfl hl.1 (Nat.le_of_ble_eq_true rfl) rfl dX2_lateTasks_18 (fun H locs hW => ?_)
    refine q_if_le (tgt := 30) Cx dX2_lateTasks_21 (by decide) (fun c4 => ?_) (fun c4 => ?_)
    · have hF := (if_pos c4).symm.trans hF
      refine q_iconst (v := (0 : Int32)) Cx dX2_lateTasks_30 (by decide) ?_
      exact wX2_lateTasks_31 hj Cx hret hk4 hW (lv_sub hl [0, 2] rfl) hF
    · have hF := (if_neg c4).symm.trans hF
      refine q_iconst (v := (1 : Int32)) Cx dX2_lateTasks_24 (by decide) ?_
      refine q_iload_n Cx dX2_lateTasks_25 rfl (lv_at hl 2 rfl) ?_
      refine q_ishl Cx dX2_lateTasks_26 ?_
      refine q_goto (tgt := 31) Cx dX2_lateTasks_27 (by decide) ?_
      exact wX2_lateTasks_31 hj Cx hret hk4 hW (lv_sub hl [0, 2] rfl) hF
def FX2_lateTasks_4 (B : Blk) : Nat → Int32 → Int32 → Option Int32
  | 0 => fun _ _ => none
  | n + 1 => FX2_lateTasks_4s B (FX2_lateTasks_4 B n)
set_option maxRecDepth 100000 in
theorem wX2_lateTasks_4 {E : WE} {V : VT} {A : Nat → Prop} {H0 : Heap} {M : Mem} {j : Nat} (hj : j < 11) (Cx : CX E RX2 cX2_lateTasks 3 2 61) {r : Int32} {B : Blk} (hret : RetI E V A H0 cX2_lateTasks .int r (jb M j B)) : ∀ (n : Nat) {H : Heap} {locs : List Loc} {ls : Array Slot} {l1 : Int32} {l2 : Int32}, Wd V A H0 (jb M j B) (eS E) H locs → lv_has ls 3 [(0, .ref (vA V j 0)), (1, .int l1), (2, .int l2)] → FX2_lateTasks_4 B n l1 l2 = some r → Wq E H locs 4 ls [] := by
  intro n
  induction n with
  | zero => intro _ _ _ _ _ hW hl hF; cases hF
  | succ n ih => intro _ _ _ _ _ hW hl hF; exact wX2_lateTasks_4s hj Cx hret ih hW hl hF
def FX2_lateTasks (B : Blk) : Option Int32 :=
  FX2_lateTasks_4 B fu (0 : Int32) (0 : Int32)
set_option maxRecDepth 100000 in
set_option maxHeartbeats 4000000 in
theorem wX2_lateTasks {E : WE} {V : VT} {A : Nat → Prop} {H0 : Heap} {M : Mem} {j : Nat} (hj : j < 11) (Cx : CX E RX2 cX2_lateTasks 3 2 61) {r : Int32} {B : Blk} (hret : RetI E V A H0 cX2_lateTasks .int r (jb M j B)) {H : Heap} {locs : List Loc} {ls : Array Slot} (hW : Wd V A H0 (jb M j B) (eS E) H locs) (hl : lv_has ls 3 [(0, .ref (vA V j 0))]) (hF : FX2_lateTasks B = some r) : Wq E H locs 0 ls [] := by
  unfold FX2_lateTasks at hF
  refine q_iconst (v := (0 : Int32)) Cx dX2_lateTasks_0 (by decide) ?_
  refine q_istore_n (lv' := [(1, .int (0 : Int32)), (0, .ref (vA V j 0))]) Cx dX2_lateTasks_1 rfl hl (by decide) rfl (fun ls hl => ?_)
  refine q_iconst (v := (0 : Int32)) Cx dX2_lateTasks_2 (by decide) ?_
  refine q_istore_n (lv' := [(2, .int (0 : Int32)), (1, .int (0 : Int32)), (0, .ref (vA V j 0))]) Cx dX2_lateTasks_3 rfl hl (by decide) rfl (fun ls hl => ?_)
  exact wX2_lateTasks_4 hj Cx hret fu hW (lv_sub hl [2, 1, 0] rfl) hF
set_option maxRecDepth 100000 in
theorem kX2_lateTasks {l : Launch} {V : VT} {M : Mem} {j : Nat} (hj : j < 11) {B : Blk} {r : Int32} (hF : FX2_lateTasks B = some r) : MetI l V yX2_lateTasks cX2_lateTasks 3 .int ({ frames := 2, cells := 0, slots := 0, locals := 61 } : Room) [.ref (vA V j 0)] r (jb M j B) (jb M j B) := metI_of (by decide) (Nat.le_of_ble_eq_true rfl) (fun E H0 _ Cx hret H locs ls hW hl => wX2_lateTasks hj Cx hret hW hl hF)
theorem dX2_allMoney_0 : decode cX2_allMoney 0 = .ok (.iconst 0, 1) := by decide +kernel
theorem dX2_allMoney_1 : decode cX2_allMoney 1 = .ok (.istore_n 1, 1) := by decide +kernel
theorem dX2_allMoney_2 : decode cX2_allMoney 2 = .ok (.iconst 0, 1) := by decide +kernel
theorem dX2_allMoney_3 : decode cX2_allMoney 3 = .ok (.istore_n 2, 1) := by decide +kernel
theorem dX2_allMoney_4 : decode cX2_allMoney 4 = .ok (.iload_n 2, 1) := by decide +kernel
theorem dX2_allMoney_5 : decode cX2_allMoney 5 = .ok (.aload_n 0, 1) := by decide +kernel
theorem dX2_allMoney_6 : decode cX2_allMoney 6 = .ok (.getfield 12, 3) := by decide +kernel
theorem dX2_allMoney_9 : decode cX2_allMoney 9 = .ok (.getfield 66, 3) := by decide +kernel
theorem dX2_allMoney_12 : decode cX2_allMoney 12 = .ok (.if_icmp .ge 18, 3) := by decide +kernel
theorem dX2_allMoney_15 : decode cX2_allMoney 15 = .ok (.iload_n 1, 1) := by decide +kernel
theorem dX2_allMoney_16 : decode cX2_allMoney 16 = .ok (.aload_n 0, 1) := by decide +kernel
theorem dX2_allMoney_17 : decode cX2_allMoney 17 = .ok (.getfield 36, 3) := by decide +kernel
theorem dX2_allMoney_20 : decode cX2_allMoney 20 = .ok (.iload_n 2, 1) := by decide +kernel
theorem dX2_allMoney_21 : decode cX2_allMoney 21 = .ok (.iaload, 1) := by decide +kernel
theorem dX2_allMoney_22 : decode cX2_allMoney 22 = .ok (.iadd, 1) := by decide +kernel
theorem dX2_allMoney_23 : decode cX2_allMoney 23 = .ok (.istore_n 1, 1) := by decide +kernel
theorem dX2_allMoney_24 : decode cX2_allMoney 24 = .ok (.iinc 2 1, 3) := by decide +kernel
theorem dX2_allMoney_27 : decode cX2_allMoney 27 = .ok (.goto (-23), 3) := by decide +kernel
theorem dX2_allMoney_30 : decode cX2_allMoney 30 = .ok (.iload_n 1, 1) := by decide +kernel
theorem dX2_allMoney_31 : decode cX2_allMoney 31 = .ok (.ireturn, 1) := by decide +kernel
theorem okX2_allMoney : CalOK yX2_allMoney cX2_allMoney 3 (some .int) 0 := ⟨wd_68, wd_551, by decide +kernel⟩
theorem ovX2_allMoney : VirOK yX2_allMoney := ⟨wd_550, wd_13⟩
def FX2_allMoney_4s (B : Blk) (k4 : Int32 → Int32 → Option Int32) (l1 : Int32) (l2 : Int32) : Option Int32 :=
  if ((B 1) 0) ≤ l2 then
    some l1
  else
    ld (B 17) 24 l2 fun v2 =>
    lt1 (l1 + v2) fun x5 =>
    lt1 (l2 + (1 : Int32)) fun x7 =>
    k4 x5 x7
set_option maxRecDepth 100000 in
set_option maxHeartbeats 4000000 in
theorem wX2_allMoney_4s {E : WE} {V : VT} {A : Nat → Prop} {H0 : Heap} {M : Mem} {j : Nat} (hj : j < 11) (Cx : CX E RX2 cX2_allMoney 3 0 0) {r : Int32} {B : Blk} (hret : RetI E V A H0 cX2_allMoney .int r (jb M j B)) {k4 : Int32 → Int32 → Option Int32} (hk4 : ∀ {H : Heap} {locs : List Loc} {ls : Array Slot} {l1 : Int32} {l2 : Int32}, Wd V A H0 (jb M j B) (eS E) H locs → lv_has ls 3 [(0, .ref (vA V j 0)), (1, .int l1), (2, .int l2)] → k4 l1 l2 = some r → Wq E H locs 4 ls []) {H : Heap} {locs : List Loc} {ls : Array Slot} {l1 : Int32} {l2 : Int32} (hW : Wd V A H0 (jb M j B) (eS E) H locs) (hl : lv_has ls 3 [(0, .ref (vA V j 0)), (1, .int l1), (2, .int l2)]) (hF : FX2_allMoney_4s B k4 l1 l2 = some r) : Wq E H locs 4 ls [] := by
  unfold FX2_allMoney_4s at hF
  refine q_iload_n Cx dX2_allMoney_4 rfl (lv_at hl 2 rfl) ?_
  refine q_aload_n Cx dX2_allMoney_5 rfl (lv_at hl 0 rfl) ?_
  refine q_get (v := .ref (vA V j 1)) Cx hW (oM hj) ic2 0 (by decide) rfl wd_166 dX2_allMoney_6 ?_
  refine qb_get (v := .int ((B 1) 0)) Cx hW (oP hj) ic4 0 (by decide) rfl wd_97 dX2_allMoney_9 ?_
  refine q_icmp_ge (tgt := 30) Cx dX2_allMoney_12 (by decide) (fun c1 => ?_) (fun c1 => ?_)
  · have hF := (if_pos c1).symm.trans hF
    refine q_iload_n Cx dX2_allMoney_30 rfl (lv_at hl 1 rfl) ?_
    cases hF
    exact hret _ _ _ _ dX2_allMoney_31 (nI32 _) hW
  · have hF := (if_neg c1).symm.trans hF
    refine q_iload_n Cx dX2_allMoney_15 rfl (lv_at hl 1 rfl) ?_
    refine q_aload_n Cx dX2_allMoney_16 rfl (lv_at hl 0 rfl) ?_
    refine q_get (v := .ref (vA V j 17)) Cx hW (oM hj) ic2 5 (by decide) rfl wd_174 dX2_allMoney_17 ?_
    refine q_iload_n Cx dX2_allMoney_20 rfl (lv_at hl 2 rfl) ?_
    obtain ⟨h3, v2, e4, hF⟩ := ld_some hF
    refine qb_iald Cx hW (ai_17 hj) h3 e4 dX2_allMoney_21 ?_
    refine q_iadd Cx dX2_allMoney_22 ?_
    obtain ⟨x5, e6, hF⟩ := lt1_some hF
    refine q_topi e6 ?_
    refine q_istore_n (lv' := [(1, .int x5), (0, .ref (vA V j 0)), (2, .int l2)]) Cx dX2_allMoney_23 rfl hl (by decide) rfl (fun ls hl => ?_)
    obtain ⟨x7, e8, hF⟩ := lt1_some hF
    refine q_iinc (k := 2) (v := x7) (lv' := [(2, .int x7), (1, .int x5), (0, .ref (vA V j 0))]) Cx dX2_allMoney_24 hl rfl e8.symm (by decide) rfl (fun ls hl => ?_)
    refine q_goto (tgt := 4) Cx dX2_allMoney_27 (by decide) ?_
    exact hk4 hW (lv_sub hl [2, 1, 0] rfl) hF
def FX2_allMoney_4 (B : Blk) : Nat → Int32 → Int32 → Option Int32
  | 0 => fun _ _ => none
  | n + 1 => FX2_allMoney_4s B (FX2_allMoney_4 B n)
set_option maxRecDepth 100000 in
theorem wX2_allMoney_4 {E : WE} {V : VT} {A : Nat → Prop} {H0 : Heap} {M : Mem} {j : Nat} (hj : j < 11) (Cx : CX E RX2 cX2_allMoney 3 0 0) {r : Int32} {B : Blk} (hret : RetI E V A H0 cX2_allMoney .int r (jb M j B)) : ∀ (n : Nat) {H : Heap} {locs : List Loc} {ls : Array Slot} {l1 : Int32} {l2 : Int32}, Wd V A H0 (jb M j B) (eS E) H locs → lv_has ls 3 [(0, .ref (vA V j 0)), (1, .int l1), (2, .int l2)] → FX2_allMoney_4 B n l1 l2 = some r → Wq E H locs 4 ls [] := by
  intro n
  induction n with
  | zero => intro _ _ _ _ _ hW hl hF; cases hF
  | succ n ih => intro _ _ _ _ _ hW hl hF; exact wX2_allMoney_4s hj Cx hret ih hW hl hF
def FX2_allMoney (B : Blk) : Option Int32 :=
  FX2_allMoney_4 B fu (0 : Int32) (0 : Int32)
set_option maxRecDepth 100000 in
set_option maxHeartbeats 4000000 in
theorem wX2_allMoney {E : WE} {V : VT} {A : Nat → Prop} {H0 : Heap} {M : Mem} {j : Nat} (hj : j < 11) (Cx : CX E RX2 cX2_allMoney 3 0 0) {r : Int32} {B : Blk} (hret : RetI E V A H0 cX2_allMoney .int r (jb M j B)) {H : Heap} {locs : List Loc} {ls : Array Slot} (hW : Wd V A H0 (jb M j B) (eS E) H locs) (hl : lv_has ls 3 [(0, .ref (vA V j 0))]) (hF : FX2_allMoney B = some r) : Wq E H locs 0 ls [] := by
  unfold FX2_allMoney at hF
  refine q_iconst (v := (0 : Int32)) Cx dX2_allMoney_0 (by decide) ?_
  refine q_istore_n (lv' := [(1, .int (0 : Int32)), (0, .ref (vA V j 0))]) Cx dX2_allMoney_1 rfl hl (by decide) rfl (fun ls hl => ?_)
  refine q_iconst (v := (0 : Int32)) Cx dX2_allMoney_2 (by decide) ?_
  refine q_istore_n (lv' := [(2, .int (0 : Int32)), (1, .int (0 : Int32)), (0, .ref (vA V j 0))]) Cx dX2_allMoney_3 rfl hl (by decide) rfl (fun ls hl => ?_)
  exact wX2_allMoney_4 hj Cx hret fu hW (lv_sub hl [2, 1, 0] rfl) hF
set_option maxRecDepth 100000 in
theorem kX2_allMoney {l : Launch} {V : VT} {M : Mem} {j : Nat} (hj : j < 11) {B : Blk} {r : Int32} (hF : FX2_allMoney B = some r) : MetI l V yX2_allMoney cX2_allMoney 3 .int ({ frames := 0, cells := 0, slots := 0, locals := 0 } : Room) [.ref (vA V j 0)] r (jb M j B) (jb M j B) := metI_of (by decide) (Nat.le_of_ble_eq_true rfl) (fun E H0 _ Cx hret H locs ls hW hl => wX2_allMoney hj Cx hret hW hl hF)
theorem dX2_tellOfAll_0 : decode cX2_tellOfAll 0 = .ok (.iload_n 1, 1) := by decide +kernel
theorem dX2_tellOfAll_1 : decode cX2_tellOfAll 1 = .ok (.tableswitch 154 0 15 #[79, 87, 95, 100, 105, 110, 118, 123, 154, 154, 131, 136, 141, 141, 141, 141], 79) := by decide +kernel
theorem dX2_tellOfAll_80 : decode cX2_tellOfAll 80 = .ok (.aload_n 0, 1) := by decide +kernel
theorem dX2_tellOfAll_81 : decode cX2_tellOfAll 81 = .ok (.getfield 12, 3) := by decide +kernel
theorem dX2_tellOfAll_84 : decode cX2_tellOfAll 84 = .ok (.getfield 66, 3) := by decide +kernel
theorem dX2_tellOfAll_87 : decode cX2_tellOfAll 87 = .ok (.ireturn, 1) := by decide +kernel
theorem dX2_tellOfAll_88 : decode cX2_tellOfAll 88 = .ok (.aload_n 0, 1) := by decide +kernel
theorem dX2_tellOfAll_89 : decode cX2_tellOfAll 89 = .ok (.getfield 21, 3) := by decide +kernel
theorem dX2_tellOfAll_92 : decode cX2_tellOfAll 92 = .ok (.getfield 115, 3) := by decide +kernel
theorem dX2_tellOfAll_95 : decode cX2_tellOfAll 95 = .ok (.ireturn, 1) := by decide +kernel
theorem dX2_tellOfAll_96 : decode cX2_tellOfAll 96 = .ok (.aload_n 0, 1) := by decide +kernel
theorem dX2_tellOfAll_97 : decode cX2_tellOfAll 97 = .ok (.invokevirtual 198, 3) := by decide +kernel
theorem dX2_tellOfAll_100 : decode cX2_tellOfAll 100 = .ok (.ireturn, 1) := by decide +kernel
theorem dX2_tellOfAll_101 : decode cX2_tellOfAll 101 = .ok (.aload_n 0, 1) := by decide +kernel
theorem dX2_tellOfAll_102 : decode cX2_tellOfAll 102 = .ok (.invokevirtual 201, 3) := by decide +kernel
theorem dX2_tellOfAll_105 : decode cX2_tellOfAll 105 = .ok (.ireturn, 1) := by decide +kernel
theorem dX2_tellOfAll_106 : decode cX2_tellOfAll 106 = .ok (.aload_n 0, 1) := by decide +kernel
theorem dX2_tellOfAll_107 : decode cX2_tellOfAll 107 = .ok (.invokevirtual 164, 3) := by decide +kernel
theorem dX2_tellOfAll_110 : decode cX2_tellOfAll 110 = .ok (.ireturn, 1) := by decide +kernel
theorem dX2_tellOfAll_111 : decode cX2_tellOfAll 111 = .ok (.aload_n 0, 1) := by decide +kernel
theorem dX2_tellOfAll_112 : decode cX2_tellOfAll 112 = .ok (.getfield 12, 3) := by decide +kernel
theorem dX2_tellOfAll_115 : decode cX2_tellOfAll 115 = .ok (.invokevirtual 204, 3) := by decide +kernel
theorem dX2_tellOfAll_118 : decode cX2_tellOfAll 118 = .ok (.ireturn, 1) := by decide +kernel
theorem dX2_tellOfAll_119 : decode cX2_tellOfAll 119 = .ok (.aload_n 0, 1) := by decide +kernel
theorem dX2_tellOfAll_120 : decode cX2_tellOfAll 120 = .ok (.invokevirtual 207, 3) := by decide +kernel
theorem dX2_tellOfAll_123 : decode cX2_tellOfAll 123 = .ok (.ireturn, 1) := by decide +kernel
theorem dX2_tellOfAll_124 : decode cX2_tellOfAll 124 = .ok (.aload_n 0, 1) := by decide +kernel
theorem dX2_tellOfAll_125 : decode cX2_tellOfAll 125 = .ok (.getfield 21, 3) := by decide +kernel
theorem dX2_tellOfAll_128 : decode cX2_tellOfAll 128 = .ok (.invokevirtual 210, 3) := by decide +kernel
theorem dX2_tellOfAll_131 : decode cX2_tellOfAll 131 = .ok (.ireturn, 1) := by decide +kernel
theorem dX2_tellOfAll_132 : decode cX2_tellOfAll 132 = .ok (.aload_n 0, 1) := by decide +kernel
theorem dX2_tellOfAll_133 : decode cX2_tellOfAll 133 = .ok (.getfield 25, 3) := by decide +kernel
theorem dX2_tellOfAll_136 : decode cX2_tellOfAll 136 = .ok (.ireturn, 1) := by decide +kernel
theorem dX2_tellOfAll_137 : decode cX2_tellOfAll 137 = .ok (.aload_n 0, 1) := by decide +kernel
theorem dX2_tellOfAll_138 : decode cX2_tellOfAll 138 = .ok (.getfield 29, 3) := by decide +kernel
theorem dX2_tellOfAll_141 : decode cX2_tellOfAll 141 = .ok (.ireturn, 1) := by decide +kernel
theorem dX2_tellOfAll_142 : decode cX2_tellOfAll 142 = .ok (.aload_n 0, 1) := by decide +kernel
theorem dX2_tellOfAll_143 : decode cX2_tellOfAll 143 = .ok (.getfield 12, 3) := by decide +kernel
theorem dX2_tellOfAll_146 : decode cX2_tellOfAll 146 = .ok (.getfield 80, 3) := by decide +kernel
theorem dX2_tellOfAll_149 : decode cX2_tellOfAll 149 = .ok (.iload_n 1, 1) := by decide +kernel
theorem dX2_tellOfAll_150 : decode cX2_tellOfAll 150 = .ok (.bipush 12, 2) := by decide +kernel
theorem dX2_tellOfAll_152 : decode cX2_tellOfAll 152 = .ok (.isub, 1) := by decide +kernel
theorem dX2_tellOfAll_153 : decode cX2_tellOfAll 153 = .ok (.iaload, 1) := by decide +kernel
theorem dX2_tellOfAll_154 : decode cX2_tellOfAll 154 = .ok (.ireturn, 1) := by decide +kernel
theorem dX2_tellOfAll_155 : decode cX2_tellOfAll 155 = .ok (.bipush (-2), 2) := by decide +kernel
theorem dX2_tellOfAll_157 : decode cX2_tellOfAll 157 = .ok (.ireturn, 1) := by decide +kernel
theorem okX2_tellOfAll : CalOK yX2_tellOfAll cX2_tellOfAll 2 (some .int) 1 := ⟨wd_68, wd_535, by decide +kernel⟩
theorem ovX2_tellOfAll : VirOK yX2_tellOfAll := ⟨wd_533, wd_534⟩
def FX2_tellOfAll (B : Blk) (l1 : Int32) : Option Int32 :=
  if l1 = (0 : Int32) then
    some ((B 1) 0)
  else
    if l1 = (1 : Int32) then
      some ((B 2) 0)
    else
      if l1 = (2 : Int32) then
        c1 (FX2_offers B) fun r4 =>
        some r4
      else
        if l1 = (3 : Int32) then
          c1 (FX2_lateTasks B) fun r7 =>
          some r7
        else
          if l1 = (4 : Int32) then
            c1 (FX2_lateTogether B) fun r10 =>
            some r10
          else
            if l1 = (5 : Int32) then
              c1 (FX4_endOfAll B) fun r13 =>
              some r13
            else
              if l1 = (6 : Int32) then
                c1 (FX2_allMoney B) fun r16 =>
                some r16
              else
                if l1 = (7 : Int32) then
                  c1 (FX0_allHours B) fun r19 =>
                  some r19
                else
                  if l1 = (8 : Int32) then
                    some (-2 : Int32)
                  else
                    if l1 = (9 : Int32) then
                      some (-2 : Int32)
                    else
                      if l1 = (10 : Int32) then
                        some ((B 0) 2)
                      else
                        if l1 = (11 : Int32) then
                          some ((B 0) 3)
                        else
                          if l1 = (12 : Int32) then
                            ld (B 9) 4 (l1 - (12 : Int32)) fun v26 =>
                            some v26
                          else
                            if l1 = (13 : Int32) then
                              ld (B 9) 4 (l1 - (12 : Int32)) fun v30 =>
                              some v30
                            else
                              if l1 = (14 : Int32) then
                                ld (B 9) 4 (l1 - (12 : Int32)) fun v34 =>
                                some v34
                              else
                                if l1 = (15 : Int32) then
                                  ld (B 9) 4 (l1 - (12 : Int32)) fun v38 =>
                                  some v38
                                else
                                  some (-2 : Int32)
set_option maxRecDepth 100000 in
set_option maxHeartbeats 4000000 in
theorem wX2_tellOfAll {E : WE} {V : VT} {A : Nat → Prop} {H0 : Heap} {M : Mem} {j : Nat} (hj : j < 11) (Cx : CX E RX2 cX2_tellOfAll 2 3 83) {r : Int32} {B : Blk} (hret : RetI E V A H0 cX2_tellOfAll .int r (jb M j B)) {H : Heap} {locs : List Loc} {ls : Array Slot} {l1 : Int32} (hW : Wd V A H0 (jb M j B) (eS E) H locs) (hl : lv_has ls 2 [(0, .ref (vA V j 0)), (1, .int l1)]) (hF : FX2_tellOfAll B l1 = some r) : Wq E H locs 0 ls [] := by
  unfold FX2_tellOfAll at hF
  refine q_iload_n Cx dX2_tellOfAll_0 rfl (lv_at hl 1 rfl) ?_
  by_cases c1 : l1 = (0 : Int32)
  · have hF := (if_pos c1).symm.trans hF
    refine q_tableIn (tgt := 80) Cx dX2_tellOfAll_1 (by rw [c1]; decide) (by rw [c1]; decide) (ho := by rw [c1]; rfl) (by decide) ?_
    refine q_aload_n Cx dX2_tellOfAll_80 rfl (lv_at hl 0 rfl) ?_
    refine q_get (v := .ref (vA V j 1)) Cx hW (oM hj) ic2 0 (by decide) rfl wd_166 dX2_tellOfAll_81 ?_
    refine qb_get (v := .int ((B 1) 0)) Cx hW (oP hj) ic4 0 (by decide) rfl wd_97 dX2_tellOfAll_84 ?_
    cases hF
    exact hret _ _ _ _ dX2_tellOfAll_87 (nI32 _) hW
  · have hF := (if_neg c1).symm.trans hF
    by_cases c2 : l1 = (1 : Int32)
    · have hF := (if_pos c2).symm.trans hF
      refine q_tableIn (tgt := 88) Cx dX2_tellOfAll_1 (by rw [c2]; decide) (by rw [c2]; decide) (ho := by rw [c2]; rfl) (by decide) ?_
      refine q_aload_n Cx dX2_tellOfAll_88 rfl (lv_at hl 0 rfl) ?_
      refine q_get (v := .ref (vA V j 2)) Cx hW (oM hj) ic2 1 (by decide) rfl wd_168 dX2_tellOfAll_89 ?_
      refine qb_get (v := .int ((B 2) 0)) Cx hW (oC hj) ic0 0 (by decide) rfl wd_145 dX2_tellOfAll_92 ?_
      cases hF
      exact hret _ _ _ _ dX2_tellOfAll_95 (nI32 _) hW
    · have hF := (if_neg c2).symm.trans hF
      by_cases c3 : l1 = (2 : Int32)
      · have hF := (if_pos c3).symm.trans hF
        refine q_tableIn (tgt := 96) Cx dX2_tellOfAll_1 (by rw [c3]; decide) (by rw [c3]; decide) (ho := by rw [c3]; rfl) (by decide) ?_
        refine q_aload_n Cx dX2_tellOfAll_96 rfl (lv_at hl 0 rfl) ?_
        obtain ⟨r4, e5, hF⟩ := c1_some hF
        refine q_callI (as := []) (rest := []) Cx (kX2_offers hj e5) okX2_offers ovX2_offers wd_536 ⟨rfl, rfl, by decide, by decide⟩ hW (oM hj) ic2 rfl hl.1 (Nat.le_of_ble_eq_true rfl) rfl dX2_tellOfAll_97 (fun H locs hW => ?_)
        cases hF
        exact hret _ _ _ _ dX2_tellOfAll_100 (nI32 _) hW
      · have hF := (if_neg c3).symm.trans hF
        by_cases c6 : l1 = (3 : Int32)
        · have hF := (if_pos c6).symm.trans hF
          refine q_tableIn (tgt := 101) Cx dX2_tellOfAll_1 (by rw [c6]; decide) (by rw [c6]; decide) (ho := by rw [c6]; rfl) (by decide) ?_
          refine q_aload_n Cx dX2_tellOfAll_101 rfl (lv_at hl 0 rfl) ?_
          obtain ⟨r7, e8, hF⟩ := c1_some hF
          refine q_callI (as := []) (rest := []) Cx (kX2_lateTasks hj e8) okX2_lateTasks ovX2_lateTasks wd_540 ⟨rfl, rfl, by decide, by decide⟩ hW (oM hj) ic2 rfl hl.1 (Nat.le_of_ble_eq_true rfl) rfl dX2_tellOfAll_102 (fun H locs hW => ?_)
          cases hF
          exact hret _ _ _ _ dX2_tellOfAll_105 (nI32 _) hW
        · have hF := (if_neg c6).symm.trans hF
          by_cases c9 : l1 = (4 : Int32)
          · have hF := (if_pos c9).symm.trans hF
            refine q_tableIn (tgt := 106) Cx dX2_tellOfAll_1 (by rw [c9]; decide) (by rw [c9]; decide) (ho := by rw [c9]; rfl) (by decide) ?_
            refine q_aload_n Cx dX2_tellOfAll_106 rfl (lv_at hl 0 rfl) ?_
            obtain ⟨r10, e11, hF⟩ := c1_some hF
            refine q_callI (as := []) (rest := []) Cx (kX2_lateTogether hj e11) okX2_lateTogether ovX2_lateTogether wd_480 ⟨rfl, rfl, by decide, by decide⟩ hW (oM hj) ic2 rfl hl.1 (Nat.le_of_ble_eq_true rfl) rfl dX2_tellOfAll_107 (fun H locs hW => ?_)
            cases hF
            exact hret _ _ _ _ dX2_tellOfAll_110 (nI32 _) hW
          · have hF := (if_neg c9).symm.trans hF
            by_cases c12 : l1 = (5 : Int32)
            · have hF := (if_pos c12).symm.trans hF
              refine q_tableIn (tgt := 111) Cx dX2_tellOfAll_1 (by rw [c12]; decide) (by rw [c12]; decide) (ho := by rw [c12]; rfl) (by decide) ?_
              refine q_aload_n Cx dX2_tellOfAll_111 rfl (lv_at hl 0 rfl) ?_
              refine q_get (v := .ref (vA V j 1)) Cx hW (oM hj) ic2 0 (by decide) rfl wd_166 dX2_tellOfAll_112 ?_
              obtain ⟨r13, e14, hF⟩ := c1_some hF
              refine q_callI (as := []) (rest := []) Cx (kX4_endOfAll hj e14) okX4_endOfAll ovX4_endOfAll wd_544 ⟨rfl, rfl, by decide, by decide⟩ hW (oP hj) ic4 rfl hl.1 (Nat.le_of_ble_eq_true rfl) rfl dX2_tellOfAll_115 (fun H locs hW => ?_)
              cases hF
              exact hret _ _ _ _ dX2_tellOfAll_118 (nI32 _) hW
            · have hF := (if_neg c12).symm.trans hF
              by_cases c15 : l1 = (6 : Int32)
              · have hF := (if_pos c15).symm.trans hF
                refine q_tableIn (tgt := 119) Cx dX2_tellOfAll_1 (by rw [c15]; decide) (by rw [c15]; decide) (ho := by rw [c15]; rfl) (by decide) ?_
                refine q_aload_n Cx dX2_tellOfAll_119 rfl (lv_at hl 0 rfl) ?_
                obtain ⟨r16, e17, hF⟩ := c1_some hF
                refine q_callI (as := []) (rest := []) Cx (kX2_allMoney hj e17) okX2_allMoney ovX2_allMoney wd_548 ⟨rfl, rfl, by decide, by decide⟩ hW (oM hj) ic2 rfl hl.1 (Nat.le_of_ble_eq_true rfl) rfl dX2_tellOfAll_120 (fun H locs hW => ?_)
                cases hF
                exact hret _ _ _ _ dX2_tellOfAll_123 (nI32 _) hW
              · have hF := (if_neg c15).symm.trans hF
                by_cases c18 : l1 = (7 : Int32)
                · have hF := (if_pos c18).symm.trans hF
                  refine q_tableIn (tgt := 124) Cx dX2_tellOfAll_1 (by rw [c18]; decide) (by rw [c18]; decide) (ho := by rw [c18]; rfl) (by decide) ?_
                  refine q_aload_n Cx dX2_tellOfAll_124 rfl (lv_at hl 0 rfl) ?_
                  refine q_get (v := .ref (vA V j 2)) Cx hW (oM hj) ic2 1 (by decide) rfl wd_168 dX2_tellOfAll_125 ?_
                  obtain ⟨r19, e20, hF⟩ := c1_some hF
                  refine q_callI (as := []) (rest := []) Cx (kX0_allHours hj e20) okX0_allHours ovX0_allHours wd_552 ⟨rfl, rfl, by decide, by decide⟩ hW (oC hj) ic0 rfl hl.1 (Nat.le_of_ble_eq_true rfl) rfl dX2_tellOfAll_128 (fun H locs hW => ?_)
                  cases hF
                  exact hret _ _ _ _ dX2_tellOfAll_131 (nI32 _) hW
                · have hF := (if_neg c18).symm.trans hF
                  by_cases c21 : l1 = (8 : Int32)
                  · have hF := (if_pos c21).symm.trans hF
                    refine q_tableIn (tgt := 155) Cx dX2_tellOfAll_1 (by rw [c21]; decide) (by rw [c21]; decide) (ho := by rw [c21]; rfl) (by decide) ?_
                    refine q_bipush (v := (-2 : Int32)) Cx dX2_tellOfAll_155 (by decide) ?_
                    cases hF
                    exact hret _ _ _ _ dX2_tellOfAll_157 (nI32 _) hW
                  · have hF := (if_neg c21).symm.trans hF
                    by_cases c22 : l1 = (9 : Int32)
                    · have hF := (if_pos c22).symm.trans hF
                      refine q_tableIn (tgt := 155) Cx dX2_tellOfAll_1 (by rw [c22]; decide) (by rw [c22]; decide) (ho := by rw [c22]; rfl) (by decide) ?_
                      refine q_bipush (v := (-2 : Int32)) Cx dX2_tellOfAll_155 (by decide) ?_
                      cases hF
                      exact hret _ _ _ _ dX2_tellOfAll_157 (nI32 _) hW
                    · have hF := (if_neg c22).symm.trans hF
                      by_cases c23 : l1 = (10 : Int32)
                      · have hF := (if_pos c23).symm.trans hF
                        refine q_tableIn (tgt := 132) Cx dX2_tellOfAll_1 (by rw [c23]; decide) (by rw [c23]; decide) (ho := by rw [c23]; rfl) (by decide) ?_
                        refine q_aload_n Cx dX2_tellOfAll_132 rfl (lv_at hl 0 rfl) ?_
                        refine qb_get (v := .int ((B 0) 2)) Cx hW (oM hj) ic2 2 (by decide) rfl wd_170 dX2_tellOfAll_133 ?_
                        cases hF
                        exact hret _ _ _ _ dX2_tellOfAll_136 (nI32 _) hW
                      · have hF := (if_neg c23).symm.trans hF
                        by_cases c24 : l1 = (11 : Int32)
                        · have hF := (if_pos c24).symm.trans hF
                          refine q_tableIn (tgt := 137) Cx dX2_tellOfAll_1 (by rw [c24]; decide) (by rw [c24]; decide) (ho := by rw [c24]; rfl) (by decide) ?_
                          refine q_aload_n Cx dX2_tellOfAll_137 rfl (lv_at hl 0 rfl) ?_
                          refine qb_get (v := .int ((B 0) 3)) Cx hW (oM hj) ic2 3 (by decide) rfl wd_171 dX2_tellOfAll_138 ?_
                          cases hF
                          exact hret _ _ _ _ dX2_tellOfAll_141 (nI32 _) hW
                        · have hF := (if_neg c24).symm.trans hF
                          by_cases c25 : l1 = (12 : Int32)
                          · have hF := (if_pos c25).symm.trans hF
                            refine q_tableIn (tgt := 142) Cx dX2_tellOfAll_1 (by rw [c25]; decide) (by rw [c25]; decide) (ho := by rw [c25]; rfl) (by decide) ?_
                            refine q_aload_n Cx dX2_tellOfAll_142 rfl (lv_at hl 0 rfl) ?_
                            refine q_get (v := .ref (vA V j 1)) Cx hW (oM hj) ic2 0 (by decide) rfl wd_166 dX2_tellOfAll_143 ?_
                            refine q_get (v := .ref (vA V j 9)) Cx hW (oP hj) ic4 7 (by decide) rfl wd_111 dX2_tellOfAll_146 ?_
                            refine q_iload_n Cx dX2_tellOfAll_149 rfl (lv_at hl 1 rfl) ?_
                            refine q_bipush (v := (12 : Int32)) Cx dX2_tellOfAll_150 (by decide) ?_
                            refine q_isub Cx dX2_tellOfAll_152 ?_
                            obtain ⟨h27, v26, e28, hF⟩ := ld_some hF
                            refine qb_iald Cx hW (ai_9 hj) h27 e28 dX2_tellOfAll_153 ?_
                            cases hF
                            exact hret _ _ _ _ dX2_tellOfAll_154 (nI32 _) hW
                          · have hF := (if_neg c25).symm.trans hF
                            by_cases c29 : l1 = (13 : Int32)
                            · have hF := (if_pos c29).symm.trans hF
                              refine q_tableIn (tgt := 142) Cx dX2_tellOfAll_1 (by rw [c29]; decide) (by rw [c29]; decide) (ho := by rw [c29]; rfl) (by decide) ?_
                              refine q_aload_n Cx dX2_tellOfAll_142 rfl (lv_at hl 0 rfl) ?_
                              refine q_get (v := .ref (vA V j 1)) Cx hW (oM hj) ic2 0 (by decide) rfl wd_166 dX2_tellOfAll_143 ?_
                              refine q_get (v := .ref (vA V j 9)) Cx hW (oP hj) ic4 7 (by decide) rfl wd_111 dX2_tellOfAll_146 ?_
                              refine q_iload_n Cx dX2_tellOfAll_149 rfl (lv_at hl 1 rfl) ?_
                              refine q_bipush (v := (12 : Int32)) Cx dX2_tellOfAll_150 (by decide) ?_
                              refine q_isub Cx dX2_tellOfAll_152 ?_
                              obtain ⟨h31, v30, e32, hF⟩ := ld_some hF
                              refine qb_iald Cx hW (ai_9 hj) h31 e32 dX2_tellOfAll_153 ?_
                              cases hF
                              exact hret _ _ _ _ dX2_tellOfAll_154 (nI32 _) hW
                            · have hF := (if_neg c29).symm.trans hF
                              by_cases c33 : l1 = (14 : Int32)
                              · have hF := (if_pos c33).symm.trans hF
                                refine q_tableIn (tgt := 142) Cx dX2_tellOfAll_1 (by rw [c33]; decide) (by rw [c33]; decide) (ho := by rw [c33]; rfl) (by decide) ?_
                                refine q_aload_n Cx dX2_tellOfAll_142 rfl (lv_at hl 0 rfl) ?_
                                refine q_get (v := .ref (vA V j 1)) Cx hW (oM hj) ic2 0 (by decide) rfl wd_166 dX2_tellOfAll_143 ?_
                                refine q_get (v := .ref (vA V j 9)) Cx hW (oP hj) ic4 7 (by decide) rfl wd_111 dX2_tellOfAll_146 ?_
                                refine q_iload_n Cx dX2_tellOfAll_149 rfl (lv_at hl 1 rfl) ?_
                                refine q_bipush (v := (12 : Int32)) Cx dX2_tellOfAll_150 (by decide) ?_
                                refine q_isub Cx dX2_tellOfAll_152 ?_
                                obtain ⟨h35, v34, e36, hF⟩ := ld_some hF
                                refine qb_iald Cx hW (ai_9 hj) h35 e36 dX2_tellOfAll_153 ?_
                                cases hF
                                exact hret _ _ _ _ dX2_tellOfAll_154 (nI32 _) hW
                              · have hF := (if_neg c33).symm.trans hF
                                by_cases c37 : l1 = (15 : Int32)
                                · have hF := (if_pos c37).symm.trans hF
                                  refine q_tableIn (tgt := 142) Cx dX2_tellOfAll_1 (by rw [c37]; decide) (by rw [c37]; decide) (ho := by rw [c37]; rfl) (by decide) ?_
                                  refine q_aload_n Cx dX2_tellOfAll_142 rfl (lv_at hl 0 rfl) ?_
                                  refine q_get (v := .ref (vA V j 1)) Cx hW (oM hj) ic2 0 (by decide) rfl wd_166 dX2_tellOfAll_143 ?_
                                  refine q_get (v := .ref (vA V j 9)) Cx hW (oP hj) ic4 7 (by decide) rfl wd_111 dX2_tellOfAll_146 ?_
                                  refine q_iload_n Cx dX2_tellOfAll_149 rfl (lv_at hl 1 rfl) ?_
                                  refine q_bipush (v := (12 : Int32)) Cx dX2_tellOfAll_150 (by decide) ?_
                                  refine q_isub Cx dX2_tellOfAll_152 ?_
                                  obtain ⟨h39, v38, e40, hF⟩ := ld_some hF
                                  refine qb_iald Cx hW (ai_9 hj) h39 e40 dX2_tellOfAll_153 ?_
                                  cases hF
                                  exact hret _ _ _ _ dX2_tellOfAll_154 (nI32 _) hW
                                · have hF := (if_neg c37).symm.trans hF
                                  refine q_tableOut (tgt := 155) Cx dX2_tellOfAll_1 (tbl_out (tbl_cons (k := (0 : Int32)) (l1 := 1) (by decide) (by decide) c1 (tbl_cons (k := (1 : Int32)) (l1 := 2) (by decide) (by decide) c2 (tbl_cons (k := (2 : Int32)) (l1 := 3) (by decide) (by decide) c3 (tbl_cons (k := (3 : Int32)) (l1 := 4) (by decide) (by decide) c6 (tbl_cons (k := (4 : Int32)) (l1 := 5) (by decide) (by decide) c9 (tbl_cons (k := (5 : Int32)) (l1 := 6) (by decide) (by decide) c12 (tbl_cons (k := (6 : Int32)) (l1 := 7) (by decide) (by decide) c15 (tbl_cons (k := (7 : Int32)) (l1 := 8) (by decide) (by decide) c18 (tbl_cons (k := (8 : Int32)) (l1 := 9) (by decide) (by decide) c21 (tbl_cons (k := (9 : Int32)) (l1 := 10) (by decide) (by decide) c22 (tbl_cons (k := (10 : Int32)) (l1 := 11) (by decide) (by decide) c23 (tbl_cons (k := (11 : Int32)) (l1 := 12) (by decide) (by decide) c24 (tbl_cons (k := (12 : Int32)) (l1 := 13) (by decide) (by decide) c25 (tbl_cons (k := (13 : Int32)) (l1 := 14) (by decide) (by decide) c29 (tbl_cons (k := (14 : Int32)) (l1 := 15) (by decide) (by decide) c33 (tbl_cons (k := (15 : Int32)) (l1 := 16) (by decide) (by decide) c37 (tbl_nil (by decide))))))))))))))))))) (by decide) ?_
                                  refine q_bipush (v := (-2 : Int32)) Cx dX2_tellOfAll_155 (by decide) ?_
                                  cases hF
                                  exact hret _ _ _ _ dX2_tellOfAll_157 (nI32 _) hW
set_option maxRecDepth 100000 in
theorem kX2_tellOfAll {l : Launch} {V : VT} {M : Mem} {j : Nat} (hj : j < 11) {B : Blk} {l1 : Int32} {r : Int32} (hF : FX2_tellOfAll B l1 = some r) : MetI l V yX2_tellOfAll cX2_tellOfAll 2 .int ({ frames := 3, cells := 0, slots := 0, locals := 83 } : Room) [.ref (vA V j 0), .int l1] r (jb M j B) (jb M j B) := metI_of (by decide) (Nat.le_of_ble_eq_true rfl) (fun E H0 _ Cx hret H locs ls hW hl => wX2_tellOfAll hj Cx hret hW hl hF)
theorem dX2_findBestPlace_0 : decode cX2_findBestPlace 0 = .ok (.bipush (-6), 2) := by decide +kernel
theorem dX2_findBestPlace_2 : decode cX2_findBestPlace 2 = .ok (.istore_n 2, 1) := by decide +kernel
theorem dX2_findBestPlace_3 : decode cX2_findBestPlace 3 = .ok (.iconst 0, 1) := by decide +kernel
theorem dX2_findBestPlace_4 : decode cX2_findBestPlace 4 = .ok (.istore_n 3, 1) := by decide +kernel
theorem dX2_findBestPlace_5 : decode cX2_findBestPlace 5 = .ok (.iconst 0, 1) := by decide +kernel
theorem dX2_findBestPlace_6 : decode cX2_findBestPlace 6 = .ok (.istore 4, 2) := by decide +kernel
theorem dX2_findBestPlace_8 : decode cX2_findBestPlace 8 = .ok (.iload 4, 2) := by decide +kernel
theorem dX2_findBestPlace_10 : decode cX2_findBestPlace 10 = .ok (.aload_n 0, 1) := by decide +kernel
theorem dX2_findBestPlace_11 : decode cX2_findBestPlace 11 = .ok (.getfield 12, 3) := by decide +kernel
theorem dX2_findBestPlace_14 : decode cX2_findBestPlace 14 = .ok (.getfield 80, 3) := by decide +kernel
theorem dX2_findBestPlace_17 : decode cX2_findBestPlace 17 = .ok (.aload_n 0, 1) := by decide +kernel
theorem dX2_findBestPlace_18 : decode cX2_findBestPlace 18 = .ok (.getfield 12, 3) := by decide +kernel
theorem dX2_findBestPlace_21 : decode cX2_findBestPlace 21 = .ok (.getfield 83, 3) := by decide +kernel
theorem dX2_findBestPlace_24 : decode cX2_findBestPlace 24 = .ok (.iload_n 1, 1) := by decide +kernel
theorem dX2_findBestPlace_25 : decode cX2_findBestPlace 25 = .ok (.iaload, 1) := by decide +kernel
theorem dX2_findBestPlace_26 : decode cX2_findBestPlace 26 = .ok (.iaload, 1) := by decide +kernel
theorem dX2_findBestPlace_27 : decode cX2_findBestPlace 27 = .ok (.if_icmp .ge 51, 3) := by decide +kernel
theorem dX2_findBestPlace_30 : decode cX2_findBestPlace 30 = .ok (.aload_n 0, 1) := by decide +kernel
theorem dX2_findBestPlace_31 : decode cX2_findBestPlace 31 = .ok (.getfield 12, 3) := by decide +kernel
theorem dX2_findBestPlace_34 : decode cX2_findBestPlace 34 = .ok (.iload_n 1, 1) := by decide +kernel
theorem dX2_findBestPlace_35 : decode cX2_findBestPlace 35 = .ok (.iload 4, 2) := by decide +kernel
theorem dX2_findBestPlace_37 : decode cX2_findBestPlace 37 = .ok (.invokevirtual 90, 3) := by decide +kernel
theorem dX2_findBestPlace_40 : decode cX2_findBestPlace 40 = .ok (.aload_n 0, 1) := by decide +kernel
theorem dX2_findBestPlace_41 : decode cX2_findBestPlace 41 = .ok (.getfield 12, 3) := by decide +kernel
theorem dX2_findBestPlace_44 : decode cX2_findBestPlace 44 = .ok (.invokevirtual 73, 3) := by decide +kernel
theorem dX2_findBestPlace_47 : decode cX2_findBestPlace 47 = .ok (.ifCond .eq 25, 3) := by decide +kernel
theorem dX2_findBestPlace_50 : decode cX2_findBestPlace 50 = .ok (.iload_n 2, 1) := by decide +kernel
theorem dX2_findBestPlace_51 : decode cX2_findBestPlace 51 = .ok (.bipush (-6), 2) := by decide +kernel
theorem dX2_findBestPlace_53 : decode cX2_findBestPlace 53 = .ok (.if_icmp .eq 11, 3) := by decide +kernel
theorem dX2_findBestPlace_56 : decode cX2_findBestPlace 56 = .ok (.aload_n 0, 1) := by decide +kernel
theorem dX2_findBestPlace_57 : decode cX2_findBestPlace 57 = .ok (.invokevirtual 164, 3) := by decide +kernel
theorem dX2_findBestPlace_60 : decode cX2_findBestPlace 60 = .ok (.iload_n 3, 1) := by decide +kernel
theorem dX2_findBestPlace_61 : decode cX2_findBestPlace 61 = .ok (.if_icmp .ge 11, 3) := by decide +kernel
theorem dX2_findBestPlace_64 : decode cX2_findBestPlace 64 = .ok (.iload 4, 2) := by decide +kernel
theorem dX2_findBestPlace_66 : decode cX2_findBestPlace 66 = .ok (.istore_n 2, 1) := by decide +kernel
theorem dX2_findBestPlace_67 : decode cX2_findBestPlace 67 = .ok (.aload_n 0, 1) := by decide +kernel
theorem dX2_findBestPlace_68 : decode cX2_findBestPlace 68 = .ok (.invokevirtual 164, 3) := by decide +kernel
theorem dX2_findBestPlace_71 : decode cX2_findBestPlace 71 = .ok (.istore_n 3, 1) := by decide +kernel
theorem dX2_findBestPlace_72 : decode cX2_findBestPlace 72 = .ok (.iinc 4 1, 3) := by decide +kernel
theorem dX2_findBestPlace_75 : decode cX2_findBestPlace 75 = .ok (.goto (-67), 3) := by decide +kernel
theorem dX2_findBestPlace_78 : decode cX2_findBestPlace 78 = .ok (.iload_n 2, 1) := by decide +kernel
theorem dX2_findBestPlace_79 : decode cX2_findBestPlace 79 = .ok (.ireturn, 1) := by decide +kernel
theorem okX2_findBestPlace : CalOK yX2_findBestPlace cX2_findBestPlace 5 (some .int) 1 := ⟨wd_68, wd_590, by decide +kernel⟩
theorem ovX2_findBestPlace : VirOK yX2_findBestPlace := ⟨wd_588, wd_589⟩
def FX2_findBestPlace_64 (k8 : Int32 → Int32 → Int32 → Int32 → Blk → Option (Int32 × Blk)) (l1 : Int32) (l4 : Int32) (B : Blk) : Option (Int32 × Blk) :=
  c1 (FX2_lateTogether B) fun r18 =>
  lt1 (l4 + (1 : Int32)) fun x20 =>
  k8 l1 l4 r18 x20 B
set_option maxRecDepth 100000 in
set_option maxHeartbeats 4000000 in
theorem wX2_findBestPlace_64 {E : WE} {V : VT} {A : Nat → Prop} {H0 : Heap} {M : Mem} {j : Nat} (hj : j < 11) (Cx : CX E RX2 cX2_findBestPlace 5 3 88) {r : Int32} {B' : Blk} (hret : RetI E V A H0 cX2_findBestPlace .int r (jb M j B')) {k8 : Int32 → Int32 → Int32 → Int32 → Blk → Option (Int32 × Blk)} (hk8 : ∀ {H : Heap} {locs : List Loc} {ls : Array Slot} {B : Blk} {l1 : Int32} {l2 : Int32} {l3 : Int32} {l4 : Int32}, Wd V A H0 (jb M j B) (eS E) H locs → lv_has ls 5 [(0, .ref (vA V j 0)), (1, .int l1), (2, .int l2), (3, .int l3), (4, .int l4)] → k8 l1 l2 l3 l4 B = some (r, B') → Wq E H locs 8 ls []) {H : Heap} {locs : List Loc} {ls : Array Slot} {l1 : Int32} {l4 : Int32} {B : Blk} (hW : Wd V A H0 (jb M j B) (eS E) H locs) (hl : lv_has ls 5 [(0, .ref (vA V j 0)), (1, .int l1), (4, .int l4)]) (hF : FX2_findBestPlace_64 k8 l1 l4 B = some (r, B')) : Wq E H locs 64 ls [] := by
  unfold FX2_findBestPlace_64 at hF
  refine q_iload Cx dX2_findBestPlace_64 (lv_at hl 2 rfl) ?_
  refine q_istore_n (lv' := [(2, .int l4), (0, .ref (vA V j 0)), (1, .int l1), (4, .int l4)]) Cx dX2_findBestPlace_66 rfl hl (by decide) rfl (fun ls hl => ?_)
  refine q_aload_n Cx dX2_findBestPlace_67 rfl (lv_at hl 1 rfl) ?_
  obtain ⟨r18, e19, hF⟩ := c1_some hF
  refine q_callI (as := []) (rest := []) Cx (kX2_lateTogether hj e19) okX2_lateTogether ovX2_lateTogether wd_480 ⟨rfl, rfl, by decide, by decide⟩ hW (oM hj) ic2 rfl hl.1 (Nat.le_of_ble_eq_true rfl) rfl dX2_findBestPlace_68 (fun H locs hW => ?_)
  refine q_istore_n (lv' := [(3, .int r18), (2, .int l4), (0, .ref (vA V j 0)), (1, .int l1), (4, .int l4)]) Cx dX2_findBestPlace_71 rfl hl (by decide) rfl (fun ls hl => ?_)
  obtain ⟨x20, e21, hF⟩ := lt1_some hF
  refine q_iinc (k := 4) (v := x20) (lv' := [(4, .int x20), (3, .int r18), (2, .int l4), (0, .ref (vA V j 0)), (1, .int l1)]) Cx dX2_findBestPlace_72 hl rfl e21.symm (by decide) rfl (fun ls hl => ?_)
  refine q_goto (tgt := 8) Cx dX2_findBestPlace_75 (by decide) ?_
  exact hk8 hW (lv_sub hl [3, 4, 2, 1, 0] rfl) hF
def FX2_findBestPlace_8s (k8 : Int32 → Int32 → Int32 → Int32 → Blk → Option (Int32 × Blk)) (l1 : Int32) (l2 : Int32) (l3 : Int32) (l4 : Int32) (B : Blk) : Option (Int32 × Blk) :=
  ld (B 3) 24 l1 fun v1 =>
  ld (B 9) 4 v1 fun v4 =>
  if v4 ≤ l4 then
    some (l2, B)
  else
    c1 (FX4_shift B l1 l4) fun B10 =>
    c2 (FX4_schedule B10) fun r11 B13 =>
    if r11 = 0 then
      lt1 (l4 + (1 : Int32)) fun x15 =>
      k8 l1 l2 l3 x15 B13
    else
      if l2 = (-6 : Int32) then
        FX2_findBestPlace_64 k8 l1 l4 B13
      else
        c1 (FX2_lateTogether B13) fun r22 =>
        if l3 ≤ r22 then
          lt1 (l4 + (1 : Int32)) fun x25 =>
          k8 l1 l2 l3 x25 B13
        else
          FX2_findBestPlace_64 k8 l1 l4 B13
set_option maxRecDepth 100000 in
set_option maxHeartbeats 4000000 in
theorem wX2_findBestPlace_8s {E : WE} {V : VT} {A : Nat → Prop} {H0 : Heap} {M : Mem} {j : Nat} (hj : j < 11) (Cx : CX E RX2 cX2_findBestPlace 5 3 88) {r : Int32} {B' : Blk} (hret : RetI E V A H0 cX2_findBestPlace .int r (jb M j B')) {k8 : Int32 → Int32 → Int32 → Int32 → Blk → Option (Int32 × Blk)} (hk8 : ∀ {H : Heap} {locs : List Loc} {ls : Array Slot} {B : Blk} {l1 : Int32} {l2 : Int32} {l3 : Int32} {l4 : Int32}, Wd V A H0 (jb M j B) (eS E) H locs → lv_has ls 5 [(0, .ref (vA V j 0)), (1, .int l1), (2, .int l2), (3, .int l3), (4, .int l4)] → k8 l1 l2 l3 l4 B = some (r, B') → Wq E H locs 8 ls []) {H : Heap} {locs : List Loc} {ls : Array Slot} {l1 : Int32} {l2 : Int32} {l3 : Int32} {l4 : Int32} {B : Blk} (hW : Wd V A H0 (jb M j B) (eS E) H locs) (hl : lv_has ls 5 [(0, .ref (vA V j 0)), (1, .int l1), (2, .int l2), (3, .int l3), (4, .int l4)]) (hF : FX2_findBestPlace_8s k8 l1 l2 l3 l4 B = some (r, B')) : Wq E H locs 8 ls [] := by
  unfold FX2_findBestPlace_8s at hF
  refine q_iload Cx dX2_findBestPlace_8 (lv_at hl 4 rfl) ?_
  refine q_aload_n Cx dX2_findBestPlace_10 rfl (lv_at hl 0 rfl) ?_
  refine q_get (v := .ref (vA V j 1)) Cx hW (oM hj) ic2 0 (by decide) rfl wd_166 dX2_findBestPlace_11 ?_
  refine q_get (v := .ref (vA V j 9)) Cx hW (oP hj) ic4 7 (by decide) rfl wd_111 dX2_findBestPlace_14 ?_
  refine q_aload_n Cx dX2_findBestPlace_17 rfl (lv_at hl 0 rfl) ?_
  refine q_get (v := .ref (vA V j 1)) Cx hW (oM hj) ic2 0 (by decide) rfl wd_166 dX2_findBestPlace_18 ?_
  refine q_get (v := .ref (vA V j 3)) Cx hW (oP hj) ic4 1 (by decide) rfl wd_100 dX2_findBestPlace_21 ?_
  refine q_iload_n Cx dX2_findBestPlace_24 rfl (lv_at hl 1 rfl) ?_
  obtain ⟨h2, v1, e3, hF⟩ := ld_some hF
  refine qb_iald Cx hW (ai_3 hj) h2 e3 dX2_findBestPlace_25 ?_
  obtain ⟨h5, v4, e6, hF⟩ := ld_some hF
  refine qb_iald Cx hW (ai_9 hj) h5 e6 dX2_findBestPlace_26 ?_
  refine q_icmp_ge (tgt := 78) Cx dX2_findBestPlace_27 (by decide) (fun c7 => ?_) (fun c7 => ?_)
  · have hF := (if_pos c7).symm.trans hF
    refine q_iload_n Cx dX2_findBestPlace_78 rfl (lv_at hl 2 rfl) ?_
    cases hF
    exact hret _ _ _ _ dX2_findBestPlace_79 (nI32 _) hW
  · have hF := (if_neg c7).symm.trans hF
    refine q_aload_n Cx dX2_findBestPlace_30 rfl (lv_at hl 0 rfl) ?_
    refine q_get (v := .ref (vA V j 1)) Cx hW (oM hj) ic2 0 (by decide) rfl wd_166 dX2_findBestPlace_31 ?_
    refine q_iload_n Cx dX2_findBestPlace_34 rfl (lv_at hl 1 rfl) ?_
    refine q_iload Cx dX2_findBestPlace_35 (lv_at hl 4 rfl) ?_
    obtain ⟨B10, e9, hF⟩ := c1_some hF
    refine q_callV (as := [.int l1, .int l4]) (rest := []) Cx (kX4_shift hj e9) okX4_shift ovX4_shift wd_357 ⟨rfl, rfl, by decide, by decide⟩ hW (oP hj) ic4 rfl hl.1 (Nat.le_of_ble_eq_true rfl) rfl dX2_findBestPlace_37 (fun H locs hW => ?_)
    refine q_aload_n Cx dX2_findBestPlace_40 rfl (lv_at hl 0 rfl) ?_
    refine q_get (v := .ref (vA V j 1)) Cx hW (oM hj) ic2 0 (by decide) rfl wd_166 dX2_findBestPlace_41 ?_
    obtain ⟨r11, B13, e12, hF⟩ := c2_some hF
    refine q_callI (as := []) (rest := []) Cx (kX4_schedule hj e12) okX4_schedule ovX4_schedule wd_317 ⟨rfl, rfl, by decide, by decide⟩ hW (oP hj) ic4 rfl hl.1 (Nat.le_of_ble_eq_true rfl) rfl dX2_findBestPlace_44 (fun H locs hW => ?_)
    refine q_if_eq (tgt := 72) Cx dX2_findBestPlace_47 (by decide) (fun c14 => ?_) (fun c14 => ?_)
    · have hF := (if_pos c14).symm.trans hF
      obtain ⟨x15, e16, hF⟩ := lt1_some hF
      refine q_iinc (k := 4) (v := x15) (lv' := [(4, .int x15), (0, .ref (vA V j 0)), (1, .int l1), (2, .int l2), (3, .int l3)]) Cx dX2_findBestPlace_72 hl rfl e16.symm (by decide) rfl (fun ls hl => ?_)
      refine q_goto (tgt := 8) Cx dX2_findBestPlace_75 (by decide) ?_
      exact hk8 hW (lv_sub hl [1, 2, 3, 4, 0] rfl) hF
    · have hF := (if_neg c14).symm.trans hF
      refine q_iload_n Cx dX2_findBestPlace_50 rfl (lv_at hl 2 rfl) ?_
      refine q_bipush (v := (-6 : Int32)) Cx dX2_findBestPlace_51 (by decide) ?_
      refine q_icmp_eq (tgt := 64) Cx dX2_findBestPlace_53 (by decide) (fun c17 => ?_) (fun c17 => ?_)
      · have hF := (if_pos c17).symm.trans hF
        exact wX2_findBestPlace_64 hj Cx hret hk8 hW (lv_sub hl [0, 1, 4] rfl) hF
      · have hF := (if_neg c17).symm.trans hF
        refine q_aload_n Cx dX2_findBestPlace_56 rfl (lv_at hl 0 rfl) ?_
        obtain ⟨r22, e23, hF⟩ := c1_some hF
        refine q_callI (as := []) (rest := []) Cx (kX2_lateTogether hj e23) okX2_lateTogether ovX2_lateTogether wd_480 ⟨rfl, rfl, by decide, by decide⟩ hW (oM hj) ic2 rfl hl.1 (Nat.le_of_ble_eq_true rfl) rfl dX2_findBestPlace_57 (fun H locs hW => ?_)
        refine q_iload_n Cx dX2_findBestPlace_60 rfl (lv_at hl 3 rfl) ?_
        refine q_icmp_ge (tgt := 72) Cx dX2_findBestPlace_61 (by decide) (fun c24 => ?_) (fun c24 => ?_)
        · have hF := (if_pos c24).symm.trans hF
          obtain ⟨x25, e26, hF⟩ := lt1_some hF
          refine q_iinc (k := 4) (v := x25) (lv' := [(4, .int x25), (0, .ref (vA V j 0)), (1, .int l1), (2, .int l2), (3, .int l3)]) Cx dX2_findBestPlace_72 hl rfl e26.symm (by decide) rfl (fun ls hl => ?_)
          refine q_goto (tgt := 8) Cx dX2_findBestPlace_75 (by decide) ?_
          exact hk8 hW (lv_sub hl [1, 2, 3, 4, 0] rfl) hF
        · have hF := (if_neg c24).symm.trans hF
          exact wX2_findBestPlace_64 hj Cx hret hk8 hW (lv_sub hl [0, 1, 4] rfl) hF
def FX2_findBestPlace_8 : Nat → Int32 → Int32 → Int32 → Int32 → Blk → Option (Int32 × Blk)
  | 0 => fun _ _ _ _ _ => none
  | n + 1 => FX2_findBestPlace_8s (FX2_findBestPlace_8 n)
set_option maxRecDepth 100000 in
theorem wX2_findBestPlace_8 {E : WE} {V : VT} {A : Nat → Prop} {H0 : Heap} {M : Mem} {j : Nat} (hj : j < 11) (Cx : CX E RX2 cX2_findBestPlace 5 3 88) {r : Int32} {B' : Blk} (hret : RetI E V A H0 cX2_findBestPlace .int r (jb M j B')) : ∀ (n : Nat) {H : Heap} {locs : List Loc} {ls : Array Slot} {l1 : Int32} {l2 : Int32} {l3 : Int32} {l4 : Int32} {B : Blk}, Wd V A H0 (jb M j B) (eS E) H locs → lv_has ls 5 [(0, .ref (vA V j 0)), (1, .int l1), (2, .int l2), (3, .int l3), (4, .int l4)] → FX2_findBestPlace_8 n l1 l2 l3 l4 B = some (r, B') → Wq E H locs 8 ls [] := by
  intro n
  induction n with
  | zero => intro _ _ _ _ _ _ _ _ hW hl hF; cases hF
  | succ n ih => intro _ _ _ _ _ _ _ _ hW hl hF; exact wX2_findBestPlace_8s hj Cx hret ih hW hl hF
def FX2_findBestPlace (B : Blk) (l1 : Int32) : Option (Int32 × Blk) :=
  FX2_findBestPlace_8 fu l1 (-6 : Int32) (0 : Int32) (0 : Int32) B
set_option maxRecDepth 100000 in
set_option maxHeartbeats 4000000 in
theorem wX2_findBestPlace {E : WE} {V : VT} {A : Nat → Prop} {H0 : Heap} {M : Mem} {j : Nat} (hj : j < 11) (Cx : CX E RX2 cX2_findBestPlace 5 3 88) {r : Int32} {B' : Blk} (hret : RetI E V A H0 cX2_findBestPlace .int r (jb M j B')) {H : Heap} {locs : List Loc} {ls : Array Slot} {l1 : Int32} {B : Blk} (hW : Wd V A H0 (jb M j B) (eS E) H locs) (hl : lv_has ls 5 [(0, .ref (vA V j 0)), (1, .int l1)]) (hF : FX2_findBestPlace B l1 = some (r, B')) : Wq E H locs 0 ls [] := by
  unfold FX2_findBestPlace at hF
  refine q_bipush (v := (-6 : Int32)) Cx dX2_findBestPlace_0 (by decide) ?_
  refine q_istore_n (lv' := [(2, .int (-6 : Int32)), (0, .ref (vA V j 0)), (1, .int l1)]) Cx dX2_findBestPlace_2 rfl hl (by decide) rfl (fun ls hl => ?_)
  refine q_iconst (v := (0 : Int32)) Cx dX2_findBestPlace_3 (by decide) ?_
  refine q_istore_n (lv' := [(3, .int (0 : Int32)), (2, .int (-6 : Int32)), (0, .ref (vA V j 0)), (1, .int l1)]) Cx dX2_findBestPlace_4 rfl hl (by decide) rfl (fun ls hl => ?_)
  refine q_iconst (v := (0 : Int32)) Cx dX2_findBestPlace_5 (by decide) ?_
  refine q_istore (lv' := [(4, .int (0 : Int32)), (3, .int (0 : Int32)), (2, .int (-6 : Int32)), (0, .ref (vA V j 0)), (1, .int l1)]) Cx dX2_findBestPlace_6 hl (by decide) rfl (fun ls hl => ?_)
  exact wX2_findBestPlace_8 hj Cx hret fu hW (lv_sub hl [3, 4, 2, 1, 0] rfl) hF
set_option maxRecDepth 100000 in
theorem kX2_findBestPlace {l : Launch} {V : VT} {M : Mem} {j : Nat} (hj : j < 11) {B : Blk} {l1 : Int32} {r : Int32} {B' : Blk} (hF : FX2_findBestPlace B l1 = some (r, B')) : MetI l V yX2_findBestPlace cX2_findBestPlace 5 .int ({ frames := 3, cells := 0, slots := 0, locals := 88 } : Room) [.ref (vA V j 0), .int l1] r (jb M j B) (jb M j B') := metI_of (by decide) (Nat.le_of_ble_eq_true rfl) (fun E H0 _ Cx hret H locs ls hW hl => wX2_findBestPlace hj Cx hret hW hl hF)
end
section
theorem dX3_append_0 : decode cX3_append 0 = .ok (.lload_n 1, 1) := by decide +kernel
theorem dX3_append_1 : decode cX3_append 1 = .ok (.lstore_n 3, 1) := by decide +kernel
theorem dX3_append_2 : decode cX3_append 2 = .ok (.iconst 0, 1) := by decide +kernel
theorem dX3_append_3 : decode cX3_append 3 = .ok (.istore 5, 2) := by decide +kernel
theorem dX3_append_5 : decode cX3_append 5 = .ok (.iload 5, 2) := by decide +kernel
theorem dX3_append_7 : decode cX3_append 7 = .ok (.bipush 8, 2) := by decide +kernel
theorem dX3_append_9 : decode cX3_append 9 = .ok (.if_icmp .ge 51, 3) := by decide +kernel
theorem dX3_append_12 : decode cX3_append 12 = .ok (.lload_n 3, 1) := by decide +kernel
theorem dX3_append_13 : decode cX3_append 13 = .ok (.ldc2_w 19, 3) := by decide +kernel
theorem dX3_append_16 : decode cX3_append 16 = .ok (.land, 1) := by decide +kernel
theorem dX3_append_17 : decode cX3_append 17 = .ok (.lconst 0, 1) := by decide +kernel
theorem dX3_append_18 : decode cX3_append 18 = .ok (.lcmp, 1) := by decide +kernel
theorem dX3_append_19 : decode cX3_append 19 = .ok (.ifCond .eq 41, 3) := by decide +kernel
theorem dX3_append_22 : decode cX3_append 22 = .ok (.lload_n 3, 1) := by decide +kernel
theorem dX3_append_23 : decode cX3_append 23 = .ok (.ldc2_w 19, 3) := by decide +kernel
theorem dX3_append_26 : decode cX3_append 26 = .ok (.land, 1) := by decide +kernel
theorem dX3_append_27 : decode cX3_append 27 = .ok (.ldc2_w 21, 3) := by decide +kernel
theorem dX3_append_30 : decode cX3_append 30 = .ok (.lcmp, 1) := by decide +kernel
theorem dX3_append_31 : decode cX3_append 31 = .ok (.ifCond .lt 15, 3) := by decide +kernel
theorem dX3_append_34 : decode cX3_append 34 = .ok (.lload_n 3, 1) := by decide +kernel
theorem dX3_append_35 : decode cX3_append 35 = .ok (.ldc2_w 19, 3) := by decide +kernel
theorem dX3_append_38 : decode cX3_append 38 = .ok (.land, 1) := by decide +kernel
theorem dX3_append_39 : decode cX3_append 39 = .ok (.ldc2_w 23, 3) := by decide +kernel
theorem dX3_append_42 : decode cX3_append 42 = .ok (.lcmp, 1) := by decide +kernel
theorem dX3_append_43 : decode cX3_append 43 = .ok (.ifCond .le 6, 3) := by decide +kernel
theorem dX3_append_46 : decode cX3_append 46 = .ok (.bipush (-2), 2) := by decide +kernel
theorem dX3_append_48 : decode cX3_append 48 = .ok (.ireturn, 1) := by decide +kernel
theorem dX3_append_49 : decode cX3_append 49 = .ok (.lload_n 3, 1) := by decide +kernel
theorem dX3_append_50 : decode cX3_append 50 = .ok (.bipush 8, 2) := by decide +kernel
theorem dX3_append_52 : decode cX3_append 52 = .ok (.lushr, 1) := by decide +kernel
theorem dX3_append_53 : decode cX3_append 53 = .ok (.lstore_n 3, 1) := by decide +kernel
theorem dX3_append_54 : decode cX3_append 54 = .ok (.iinc 5 1, 3) := by decide +kernel
theorem dX3_append_57 : decode cX3_append 57 = .ok (.goto (-52), 3) := by decide +kernel
theorem dX3_append_60 : decode cX3_append 60 = .ok (.iload 5, 2) := by decide +kernel
theorem dX3_append_62 : decode cX3_append 62 = .ok (.ifCond .eq 9, 3) := by decide +kernel
theorem dX3_append_65 : decode cX3_append 65 = .ok (.lload_n 3, 1) := by decide +kernel
theorem dX3_append_66 : decode cX3_append 66 = .ok (.lconst 0, 1) := by decide +kernel
theorem dX3_append_67 : decode cX3_append 67 = .ok (.lcmp, 1) := by decide +kernel
theorem dX3_append_68 : decode cX3_append 68 = .ok (.ifCond .eq 6, 3) := by decide +kernel
theorem dX3_append_71 : decode cX3_append 71 = .ok (.bipush (-2), 2) := by decide +kernel
theorem dX3_append_73 : decode cX3_append 73 = .ok (.ireturn, 1) := by decide +kernel
theorem dX3_append_74 : decode cX3_append 74 = .ok (.aload_n 0, 1) := by decide +kernel
theorem dX3_append_75 : decode cX3_append 75 = .ok (.getfield 25, 3) := by decide +kernel
theorem dX3_append_78 : decode cX3_append 78 = .ok (.iload 5, 2) := by decide +kernel
theorem dX3_append_80 : decode cX3_append 80 = .ok (.iadd, 1) := by decide +kernel
theorem dX3_append_81 : decode cX3_append 81 = .ok (.bipush 80, 2) := by decide +kernel
theorem dX3_append_83 : decode cX3_append 83 = .ok (.if_icmp .le 6, 3) := by decide +kernel
theorem dX3_append_86 : decode cX3_append 86 = .ok (.bipush (-4), 2) := by decide +kernel
theorem dX3_append_88 : decode cX3_append 88 = .ok (.ireturn, 1) := by decide +kernel
theorem dX3_append_89 : decode cX3_append 89 = .ok (.iconst 1, 1) := by decide +kernel
theorem dX3_append_90 : decode cX3_append 90 = .ok (.istore 6, 2) := by decide +kernel
theorem dX3_append_92 : decode cX3_append 92 = .ok (.iload 6, 2) := by decide +kernel
theorem dX3_append_94 : decode cX3_append 94 = .ok (.iload 5, 2) := by decide +kernel
theorem dX3_append_96 : decode cX3_append 96 = .ok (.if_icmp .gt 39, 3) := by decide +kernel
theorem dX3_append_99 : decode cX3_append 99 = .ok (.aload_n 0, 1) := by decide +kernel
theorem dX3_append_100 : decode cX3_append 100 = .ok (.getfield 9, 3) := by decide +kernel
theorem dX3_append_103 : decode cX3_append 103 = .ok (.aload_n 0, 1) := by decide +kernel
theorem dX3_append_104 : decode cX3_append 104 = .ok (.getfield 25, 3) := by decide +kernel
theorem dX3_append_107 : decode cX3_append 107 = .ok (.iload 5, 2) := by decide +kernel
theorem dX3_append_109 : decode cX3_append 109 = .ok (.iadd, 1) := by decide +kernel
theorem dX3_append_110 : decode cX3_append 110 = .ok (.iload 6, 2) := by decide +kernel
theorem dX3_append_112 : decode cX3_append 112 = .ok (.isub, 1) := by decide +kernel
theorem dX3_append_113 : decode cX3_append 113 = .ok (.lload_n 1, 1) := by decide +kernel
theorem dX3_append_114 : decode cX3_append 114 = .ok (.bipush 8, 2) := by decide +kernel
theorem dX3_append_116 : decode cX3_append 116 = .ok (.iload 6, 2) := by decide +kernel
theorem dX3_append_118 : decode cX3_append 118 = .ok (.iconst 1, 1) := by decide +kernel
theorem dX3_append_119 : decode cX3_append 119 = .ok (.isub, 1) := by decide +kernel
theorem dX3_append_120 : decode cX3_append 120 = .ok (.imul, 1) := by decide +kernel
theorem dX3_append_121 : decode cX3_append 121 = .ok (.lushr, 1) := by decide +kernel
theorem dX3_append_122 : decode cX3_append 122 = .ok (.ldc2_w 19, 3) := by decide +kernel
theorem dX3_append_125 : decode cX3_append 125 = .ok (.land, 1) := by decide +kernel
theorem dX3_append_126 : decode cX3_append 126 = .ok (.l2i, 1) := by decide +kernel
theorem dX3_append_127 : decode cX3_append 127 = .ok (.i2c, 1) := by decide +kernel
theorem dX3_append_128 : decode cX3_append 128 = .ok (.castore, 1) := by decide +kernel
theorem dX3_append_129 : decode cX3_append 129 = .ok (.iinc 6 1, 3) := by decide +kernel
theorem dX3_append_132 : decode cX3_append 132 = .ok (.goto (-40), 3) := by decide +kernel
theorem dX3_append_135 : decode cX3_append 135 = .ok (.aload_n 0, 1) := by decide +kernel
theorem dX3_append_136 : decode cX3_append 136 = .ok (.dup, 1) := by decide +kernel
theorem dX3_append_137 : decode cX3_append 137 = .ok (.getfield 25, 3) := by decide +kernel
theorem dX3_append_140 : decode cX3_append 140 = .ok (.iload 5, 2) := by decide +kernel
theorem dX3_append_142 : decode cX3_append 142 = .ok (.iadd, 1) := by decide +kernel
theorem dX3_append_143 : decode cX3_append 143 = .ok (.putfield 25, 3) := by decide +kernel
theorem dX3_append_146 : decode cX3_append 146 = .ok (.aload_n 0, 1) := by decide +kernel
theorem dX3_append_147 : decode cX3_append 147 = .ok (.getfield 25, 3) := by decide +kernel
theorem dX3_append_150 : decode cX3_append 150 = .ok (.ireturn, 1) := by decide +kernel
theorem okX3_append : CalOK yX3_append cX3_append 7 (some .int) 1 := ⟨wd_72, wd_618, by decide +kernel⟩
theorem ovX3_append : VirOK yX3_append := ⟨wd_616, wd_617⟩
def FX3_append_92s (k92 : Int64 → Int32 → Int32 → Blk → Option (Int32 × Blk)) (l1 : Int64) (l5 : Int32) (l6 : Int32) (B : Blk) : Option (Int32 × Blk) :=
  if l5 < l6 then
    lt1 (bs B 5 1 (((B 5) 1) + l5)) fun B6 =>
    some (((B6 5) 1), B6)
  else
    stb B 6 80 ((((B 5) 1) + l5) - l6) (vp_nar .char ((((((l1.toUInt64 >>> (((8 : Int32) * (l6 - (1 : Int32))).toInt64.toUInt64 &&& Int64.toUInt64 63)).toInt64) &&& (255 : Int64)).toInt32).toUInt32 % 65536).toInt32)) fun B8 =>
    lt1 (l6 + (1 : Int32)) fun x11 =>
    k92 l1 l5 x11 B8
set_option maxRecDepth 100000 in
set_option maxHeartbeats 4000000 in
theorem wX3_append_92s {E : WE} {V : VT} {A : Nat → Prop} {H0 : Heap} {M : Mem} (Cx : CX E RX3 cX3_append 7 0 0) {r : Int32} {B' : Blk} (hret : RetI E V A H0 cX3_append .int r (jb M 11 B')) {k92 : Int64 → Int32 → Int32 → Blk → Option (Int32 × Blk)} (hk92 : ∀ {H : Heap} {locs : List Loc} {ls : Array Slot} {B : Blk} {l1 : Int64} {l5 : Int32} {l6 : Int32}, Wd V A H0 (jb M 11 B) (eS E) H locs → lv_has ls 7 [(0, .ref (vA V 11 5)), (1, .long l1), (5, .int l5), (6, .int l6)] → k92 l1 l5 l6 B = some (r, B') → Wq E H locs 92 ls []) {H : Heap} {locs : List Loc} {ls : Array Slot} {l1 : Int64} {l5 : Int32} {l6 : Int32} {B : Blk} (hW : Wd V A H0 (jb M 11 B) (eS E) H locs) (hl : lv_has ls 7 [(0, .ref (vA V 11 5)), (1, .long l1), (5, .int l5), (6, .int l6)]) (hF : FX3_append_92s k92 l1 l5 l6 B = some (r, B')) : Wq E H locs 92 ls [] := by
  unfold FX3_append_92s at hF
  refine q_iload Cx dX3_append_92 (lv_at hl 3 rfl) ?_
  refine q_iload Cx dX3_append_94 (lv_at hl 2 rfl) ?_
  refine q_icmp_gt (tgt := 135) Cx dX3_append_96 (by decide) (fun c5 => ?_) (fun c5 => ?_)
  · have hF := (if_pos c5).symm.trans hF
    refine q_aload_n Cx dX3_append_135 rfl (lv_at hl 0 rfl) ?_
    refine q_dup Cx dX3_append_136 rfl ?_
    refine qb_get (v := .int ((B 5) 1)) Cx hW oQ ic3 1 (by decide) rfl wd_225 dX3_append_137 ?_
    refine q_iload Cx dX3_append_140 (lv_at hl 2 rfl) ?_
    refine q_iadd Cx dX3_append_142 ?_
    obtain ⟨B6, e7, hF⟩ := lt1_some hF
    refine qb_put Cx hW oQ ic3 1 (by decide) (Nat.le_of_ble_eq_true rfl) e7 rfl rfl ⟨nI32 _, rfl⟩ wd_225 dX3_append_143 (fun H locs hW => ?_)
    refine q_aload_n Cx dX3_append_146 rfl (lv_at hl 0 rfl) ?_
    refine qb_get (v := .int ((B6 5) 1)) Cx hW oQ ic3 1 (by decide) rfl wd_225 dX3_append_147 ?_
    cases hF
    exact hret _ _ _ _ dX3_append_150 (nI32 _) hW
  · have hF := (if_neg c5).symm.trans hF
    refine q_aload_n Cx dX3_append_99 rfl (lv_at hl 0 rfl) ?_
    refine q_get (v := .ref (vA V 11 6)) Cx hW oQ ic3 0 (by decide) rfl wd_224 dX3_append_100 ?_
    refine q_aload_n Cx dX3_append_103 rfl (lv_at hl 0 rfl) ?_
    refine qb_get (v := .int ((B 5) 1)) Cx hW oQ ic3 1 (by decide) rfl wd_225 dX3_append_104 ?_
    refine q_iload Cx dX3_append_107 (lv_at hl 2 rfl) ?_
    refine q_iadd Cx dX3_append_109 ?_
    refine q_iload Cx dX3_append_110 (lv_at hl 3 rfl) ?_
    refine q_isub Cx dX3_append_112 ?_
    refine q_lload_n Cx dX3_append_113 rfl (lv_at hl 1 rfl) ?_
    refine q_bipush (v := (8 : Int32)) Cx dX3_append_114 (by decide) ?_
    refine q_iload Cx dX3_append_116 (lv_at hl 3 rfl) ?_
    refine q_iconst (v := (1 : Int32)) Cx dX3_append_118 (by decide) ?_
    refine q_isub Cx dX3_append_119 ?_
    refine q_imul Cx dX3_append_120 ?_
    refine q_lushr Cx dX3_append_121 ?_
    refine q_ldc2 (v := (255 : Int64)) Cx dX3_append_122 wd_619 ?_
    refine q_land Cx dX3_append_125 ?_
    refine q_l2i Cx dX3_append_126 ?_
    refine q_i2c Cx dX3_append_127 ?_
    obtain ⟨h9, B8, e10, hF⟩ := stb_some hF
    refine qb_cast Cx hW ax_6 h9 e10 dX3_append_128 (fun H locs hW => ?_)
    obtain ⟨x11, e12, hF⟩ := lt1_some hF
    refine q_iinc (k := 3) (v := x11) (lv' := [(6, .int x11), (0, .ref (vA V 11 5)), (1, .long l1), (5, .int l5)]) Cx dX3_append_129 hl rfl e12.symm (by decide) rfl (fun ls hl => ?_)
    refine q_goto (tgt := 92) Cx dX3_append_132 (by decide) ?_
    exact hk92 hW (lv_sub hl [1, 2, 3, 0] rfl) hF
def FX3_append_92 : Nat → Int64 → Int32 → Int32 → Blk → Option (Int32 × Blk)
  | 0 => fun _ _ _ _ => none
  | n + 1 => FX3_append_92s (FX3_append_92 n)
set_option maxRecDepth 100000 in
theorem wX3_append_92 {E : WE} {V : VT} {A : Nat → Prop} {H0 : Heap} {M : Mem} (Cx : CX E RX3 cX3_append 7 0 0) {r : Int32} {B' : Blk} (hret : RetI E V A H0 cX3_append .int r (jb M 11 B')) : ∀ (n : Nat) {H : Heap} {locs : List Loc} {ls : Array Slot} {l1 : Int64} {l5 : Int32} {l6 : Int32} {B : Blk}, Wd V A H0 (jb M 11 B) (eS E) H locs → lv_has ls 7 [(0, .ref (vA V 11 5)), (1, .long l1), (5, .int l5), (6, .int l6)] → FX3_append_92 n l1 l5 l6 B = some (r, B') → Wq E H locs 92 ls [] := by
  intro n
  induction n with
  | zero => intro _ _ _ _ _ _ _ hW hl hF; cases hF
  | succ n ih => intro _ _ _ _ _ _ _ hW hl hF; exact wX3_append_92s Cx hret ih hW hl hF
def FX3_append_60 (l1 : Int64) (l3 : Int64) (l5 : Int32) (B : Blk) : Option (Int32 × Blk) :=
  if l5 = 0 then
    some ((-2 : Int32), B)
  else
    if (lg_cmp l3 (0 : Int64)) = 0 then
      if (((B 5) 1) + l5) ≤ (80 : Int32) then
        FX3_append_92 fu l1 l5 (1 : Int32) B
      else
        some ((-4 : Int32), B)
    else
      some ((-2 : Int32), B)
set_option maxRecDepth 100000 in
set_option maxHeartbeats 4000000 in
theorem wX3_append_60 {E : WE} {V : VT} {A : Nat → Prop} {H0 : Heap} {M : Mem} (Cx : CX E RX3 cX3_append 7 0 0) {r : Int32} {B' : Blk} (hret : RetI E V A H0 cX3_append .int r (jb M 11 B')) {H : Heap} {locs : List Loc} {ls : Array Slot} {l1 : Int64} {l3 : Int64} {l5 : Int32} {B : Blk} (hW : Wd V A H0 (jb M 11 B) (eS E) H locs) (hl : lv_has ls 7 [(0, .ref (vA V 11 5)), (1, .long l1), (3, .long l3), (5, .int l5)]) (hF : FX3_append_60 l1 l3 l5 B = some (r, B')) : Wq E H locs 60 ls [] := by
  unfold FX3_append_60 at hF
  refine q_iload Cx dX3_append_60 (lv_at hl 3 rfl) ?_
  refine q_if_eq (tgt := 71) Cx dX3_append_62 (by decide) (fun c2 => ?_) (fun c2 => ?_)
  · have hF := (if_pos c2).symm.trans hF
    refine q_bipush (v := (-2 : Int32)) Cx dX3_append_71 (by decide) ?_
    cases hF
    exact hret _ _ _ _ dX3_append_73 (nI32 _) hW
  · have hF := (if_neg c2).symm.trans hF
    refine q_lload_n Cx dX3_append_65 rfl (lv_at hl 2 rfl) ?_
    refine q_lconst (v := (0 : Int64)) Cx dX3_append_66 (by decide) ?_
    refine q_lcmp Cx dX3_append_67 ?_
    refine q_if_eq (tgt := 74) Cx dX3_append_68 (by decide) (fun c3 => ?_) (fun c3 => ?_)
    · have hF := (if_pos c3).symm.trans hF
      refine q_aload_n Cx dX3_append_74 rfl (lv_at hl 0 rfl) ?_
      refine qb_get (v := .int ((B 5) 1)) Cx hW oQ ic3 1 (by decide) rfl wd_225 dX3_append_75 ?_
      refine q_iload Cx dX3_append_78 (lv_at hl 3 rfl) ?_
      refine q_iadd Cx dX3_append_80 ?_
      refine q_bipush (v := (80 : Int32)) Cx dX3_append_81 (by decide) ?_
      refine q_icmp_le (tgt := 89) Cx dX3_append_83 (by decide) (fun c4 => ?_) (fun c4 => ?_)
      · have hF := (if_pos c4).symm.trans hF
        refine q_iconst (v := (1 : Int32)) Cx dX3_append_89 (by decide) ?_
        refine q_istore (lv' := [(6, .int (1 : Int32)), (0, .ref (vA V 11 5)), (1, .long l1), (3, .long l3), (5, .int l5)]) Cx dX3_append_90 hl (by decide) rfl (fun ls hl => ?_)
        exact wX3_append_92 Cx hret fu hW (lv_sub hl [1, 2, 4, 0] rfl) hF
      · have hF := (if_neg c4).symm.trans hF
        refine q_bipush (v := (-4 : Int32)) Cx dX3_append_86 (by decide) ?_
        cases hF
        exact hret _ _ _ _ dX3_append_88 (nI32 _) hW
    · have hF := (if_neg c3).symm.trans hF
      refine q_bipush (v := (-2 : Int32)) Cx dX3_append_71 (by decide) ?_
      cases hF
      exact hret _ _ _ _ dX3_append_73 (nI32 _) hW
def FX3_append_5s (k5 : Int64 → Int64 → Int32 → Blk → Option (Int32 × Blk)) (l1 : Int64) (l3 : Int64) (l5 : Int32) (B : Blk) : Option (Int32 × Blk) :=
  if (8 : Int32) ≤ l5 then
    FX3_append_60 l1 l3 l5 B
  else
    if (lg_cmp (l3 &&& (255 : Int64)) (0 : Int64)) = 0 then
      FX3_append_60 l1 l3 l5 B
    else
      if (lg_cmp (l3 &&& (255 : Int64)) (33 : Int64)) < 0 then
        some ((-2 : Int32), B)
      else
        if (lg_cmp (l3 &&& (255 : Int64)) (126 : Int64)) ≤ 0 then
          lt1 ((l3.toUInt64 >>> ((8 : Int32).toInt64.toUInt64 &&& Int64.toUInt64 63)).toInt64) fun x16 =>
          lt1 (l5 + (1 : Int32)) fun x18 =>
          k5 l1 x16 x18 B
        else
          some ((-2 : Int32), B)
set_option maxRecDepth 100000 in
set_option maxHeartbeats 4000000 in
theorem wX3_append_5s {E : WE} {V : VT} {A : Nat → Prop} {H0 : Heap} {M : Mem} (Cx : CX E RX3 cX3_append 7 0 0) {r : Int32} {B' : Blk} (hret : RetI E V A H0 cX3_append .int r (jb M 11 B')) {k5 : Int64 → Int64 → Int32 → Blk → Option (Int32 × Blk)} (hk5 : ∀ {H : Heap} {locs : List Loc} {ls : Array Slot} {B : Blk} {l1 : Int64} {l3 : Int64} {l5 : Int32}, Wd V A H0 (jb M 11 B) (eS E) H locs → lv_has ls 7 [(0, .ref (vA V 11 5)), (1, .long l1), (3, .long l3), (5, .int l5)] → k5 l1 l3 l5 B = some (r, B') → Wq E H locs 5 ls []) {H : Heap} {locs : List Loc} {ls : Array Slot} {l1 : Int64} {l3 : Int64} {l5 : Int32} {B : Blk} (hW : Wd V A H0 (jb M 11 B) (eS E) H locs) (hl : lv_has ls 7 [(0, .ref (vA V 11 5)), (1, .long l1), (3, .long l3), (5, .int l5)]) (hF : FX3_append_5s k5 l1 l3 l5 B = some (r, B')) : Wq E H locs 5 ls [] := by
  unfold FX3_append_5s at hF
  refine q_iload Cx dX3_append_5 (lv_at hl 3 rfl) ?_
  refine q_bipush (v := (8 : Int32)) Cx dX3_append_7 (by decide) ?_
  refine q_icmp_ge (tgt := 60) Cx dX3_append_9 (by decide) (fun c1 => ?_) (fun c1 => ?_)
  · have hF := (if_pos c1).symm.trans hF
    exact wX3_append_60 Cx hret hW (lv_sub hl [0, 1, 2, 3] rfl) hF
  · have hF := (if_neg c1).symm.trans hF
    refine q_lload_n Cx dX3_append_12 rfl (lv_at hl 2 rfl) ?_
    refine q_ldc2 (v := (255 : Int64)) Cx dX3_append_13 wd_619 ?_
    refine q_land Cx dX3_append_16 ?_
    refine q_lconst (v := (0 : Int64)) Cx dX3_append_17 (by decide) ?_
    refine q_lcmp Cx dX3_append_18 ?_
    refine q_if_eq (tgt := 60) Cx dX3_append_19 (by decide) (fun c13 => ?_) (fun c13 => ?_)
    · have hF := (if_pos c13).symm.trans hF
      exact wX3_append_60 Cx hret hW (lv_sub hl [0, 1, 2, 3] rfl) hF
    · have hF := (if_neg c13).symm.trans hF
      refine q_lload_n Cx dX3_append_22 rfl (lv_at hl 2 rfl) ?_
      refine q_ldc2 (v := (255 : Int64)) Cx dX3_append_23 wd_619 ?_
      refine q_land Cx dX3_append_26 ?_
      refine q_ldc2 (v := (33 : Int64)) Cx dX3_append_27 wd_620 ?_
      refine q_lcmp Cx dX3_append_30 ?_
      refine q_if_lt (tgt := 46) Cx dX3_append_31 (by decide) (fun c14 => ?_) (fun c14 => ?_)
      · have hF := (if_pos c14).symm.trans hF
        refine q_bipush (v := (-2 : Int32)) Cx dX3_append_46 (by decide) ?_
        cases hF
        exact hret _ _ _ _ dX3_append_48 (nI32 _) hW
      · have hF := (if_neg c14).symm.trans hF
        refine q_lload_n Cx dX3_append_34 rfl (lv_at hl 2 rfl) ?_
        refine q_ldc2 (v := (255 : Int64)) Cx dX3_append_35 wd_619 ?_
        refine q_land Cx dX3_append_38 ?_
        refine q_ldc2 (v := (126 : Int64)) Cx dX3_append_39 wd_621 ?_
        refine q_lcmp Cx dX3_append_42 ?_
        refine q_if_le (tgt := 49) Cx dX3_append_43 (by decide) (fun c15 => ?_) (fun c15 => ?_)
        · have hF := (if_pos c15).symm.trans hF
          refine q_lload_n Cx dX3_append_49 rfl (lv_at hl 2 rfl) ?_
          refine q_bipush (v := (8 : Int32)) Cx dX3_append_50 (by decide) ?_
          refine q_lushr Cx dX3_append_52 ?_
          obtain ⟨x16, e17, hF⟩ := lt1_some hF
          refine q_topl e17 ?_
          refine q_lstore_n (lv' := [(3, .long x16), (0, .ref (vA V 11 5)), (1, .long l1), (5, .int l5)]) Cx dX3_append_53 rfl hl (by decide) rfl (fun ls hl => ?_)
          obtain ⟨x18, e19, hF⟩ := lt1_some hF
          refine q_iinc (k := 3) (v := x18) (lv' := [(5, .int x18), (3, .long x16), (0, .ref (vA V 11 5)), (1, .long l1)]) Cx dX3_append_54 hl rfl e19.symm (by decide) rfl (fun ls hl => ?_)
          refine q_goto (tgt := 5) Cx dX3_append_57 (by decide) ?_
          exact hk5 hW (lv_sub hl [2, 3, 1, 0] rfl) hF
        · have hF := (if_neg c15).symm.trans hF
          refine q_bipush (v := (-2 : Int32)) Cx dX3_append_46 (by decide) ?_
          cases hF
          exact hret _ _ _ _ dX3_append_48 (nI32 _) hW
def FX3_append_5 : Nat → Int64 → Int64 → Int32 → Blk → Option (Int32 × Blk)
  | 0 => fun _ _ _ _ => none
  | n + 1 => FX3_append_5s (FX3_append_5 n)
set_option maxRecDepth 100000 in
theorem wX3_append_5 {E : WE} {V : VT} {A : Nat → Prop} {H0 : Heap} {M : Mem} (Cx : CX E RX3 cX3_append 7 0 0) {r : Int32} {B' : Blk} (hret : RetI E V A H0 cX3_append .int r (jb M 11 B')) : ∀ (n : Nat) {H : Heap} {locs : List Loc} {ls : Array Slot} {l1 : Int64} {l3 : Int64} {l5 : Int32} {B : Blk}, Wd V A H0 (jb M 11 B) (eS E) H locs → lv_has ls 7 [(0, .ref (vA V 11 5)), (1, .long l1), (3, .long l3), (5, .int l5)] → FX3_append_5 n l1 l3 l5 B = some (r, B') → Wq E H locs 5 ls [] := by
  intro n
  induction n with
  | zero => intro _ _ _ _ _ _ _ hW hl hF; cases hF
  | succ n ih => intro _ _ _ _ _ _ _ hW hl hF; exact wX3_append_5s Cx hret ih hW hl hF
def FX3_append (B : Blk) (l1 : Int64) : Option (Int32 × Blk) :=
  FX3_append_5 fu l1 l1 (0 : Int32) B
set_option maxRecDepth 100000 in
set_option maxHeartbeats 4000000 in
theorem wX3_append {E : WE} {V : VT} {A : Nat → Prop} {H0 : Heap} {M : Mem} (Cx : CX E RX3 cX3_append 7 0 0) {r : Int32} {B' : Blk} (hret : RetI E V A H0 cX3_append .int r (jb M 11 B')) {H : Heap} {locs : List Loc} {ls : Array Slot} {l1 : Int64} {B : Blk} (hW : Wd V A H0 (jb M 11 B) (eS E) H locs) (hl : lv_has ls 7 [(0, .ref (vA V 11 5)), (1, .long l1)]) (hF : FX3_append B l1 = some (r, B')) : Wq E H locs 0 ls [] := by
  unfold FX3_append at hF
  refine q_lload_n Cx dX3_append_0 rfl (lv_at hl 1 rfl) ?_
  refine q_lstore_n (lv' := [(3, .long l1), (0, .ref (vA V 11 5)), (1, .long l1)]) Cx dX3_append_1 rfl hl (by decide) rfl (fun ls hl => ?_)
  refine q_iconst (v := (0 : Int32)) Cx dX3_append_2 (by decide) ?_
  refine q_istore (lv' := [(5, .int (0 : Int32)), (3, .long l1), (0, .ref (vA V 11 5)), (1, .long l1)]) Cx dX3_append_3 hl (by decide) rfl (fun ls hl => ?_)
  exact wX3_append_5 Cx hret fu hW (lv_sub hl [2, 3, 1, 0] rfl) hF
set_option maxRecDepth 100000 in
theorem kX3_append {l : Launch} {V : VT} {M : Mem} {B : Blk} {l1 : Int64} {r : Int32} {B' : Blk} (hF : FX3_append B l1 = some (r, B')) : MetI l V yX3_append cX3_append 7 .int ({ frames := 0, cells := 0, slots := 0, locals := 0 } : Room) [.ref (vA V 11 5), .long l1] r (jb M 11 B) (jb M 11 B') := metI_of (by decide) (Nat.le_of_ble_eq_true rfl) (fun E H0 _ Cx hret H locs ls hW hl => wX3_append Cx hret hW hl hF)
theorem dX3_clear_0 : decode cX3_clear 0 = .ok (.aload_n 0, 1) := by decide +kernel
theorem dX3_clear_1 : decode cX3_clear 1 = .ok (.getfield 25, 3) := by decide +kernel
theorem dX3_clear_4 : decode cX3_clear 4 = .ok (.istore_n 1, 1) := by decide +kernel
theorem dX3_clear_5 : decode cX3_clear 5 = .ok (.aload_n 0, 1) := by decide +kernel
theorem dX3_clear_6 : decode cX3_clear 6 = .ok (.iconst 0, 1) := by decide +kernel
theorem dX3_clear_7 : decode cX3_clear 7 = .ok (.putfield 25, 3) := by decide +kernel
theorem dX3_clear_10 : decode cX3_clear 10 = .ok (.iload_n 1, 1) := by decide +kernel
theorem dX3_clear_11 : decode cX3_clear 11 = .ok (.ireturn, 1) := by decide +kernel
theorem okX3_clear : CalOK yX3_clear cX3_clear 2 (some .int) 0 := ⟨wd_72, wd_629, by decide +kernel⟩
theorem ovX3_clear : VirOK yX3_clear := ⟨wd_627, wd_628⟩
def FX3_clear (B : Blk) : Option (Int32 × Blk) :=
  lt1 ((B 5) 1) fun x1 =>
  lt1 (bs B 5 1 (0 : Int32)) fun B3 =>
  some (x1, B3)
set_option maxRecDepth 100000 in
set_option maxHeartbeats 4000000 in
theorem wX3_clear {E : WE} {V : VT} {A : Nat → Prop} {H0 : Heap} {M : Mem} (Cx : CX E RX3 cX3_clear 2 0 0) {r : Int32} {B' : Blk} (hret : RetI E V A H0 cX3_clear .int r (jb M 11 B')) {H : Heap} {locs : List Loc} {ls : Array Slot} {B : Blk} (hW : Wd V A H0 (jb M 11 B) (eS E) H locs) (hl : lv_has ls 2 [(0, .ref (vA V 11 5))]) (hF : FX3_clear B = some (r, B')) : Wq E H locs 0 ls [] := by
  unfold FX3_clear at hF
  refine q_aload_n Cx dX3_clear_0 rfl (lv_at hl 0 rfl) ?_
  refine qb_get (v := .int ((B 5) 1)) Cx hW oQ ic3 1 (by decide) rfl wd_225 dX3_clear_1 ?_
  obtain ⟨x1, e2, hF⟩ := lt1_some hF
  refine q_topi e2 ?_
  refine q_istore_n (lv' := [(1, .int x1), (0, .ref (vA V 11 5))]) Cx dX3_clear_4 rfl hl (by decide) rfl (fun ls hl => ?_)
  refine q_aload_n Cx dX3_clear_5 rfl (lv_at hl 1 rfl) ?_
  refine q_iconst (v := (0 : Int32)) Cx dX3_clear_6 (by decide) ?_
  obtain ⟨B3, e4, hF⟩ := lt1_some hF
  refine qb_put Cx hW oQ ic3 1 (by decide) (Nat.le_of_ble_eq_true rfl) e4 rfl rfl ⟨nI32 _, rfl⟩ wd_225 dX3_clear_7 (fun H locs hW => ?_)
  refine q_iload_n Cx dX3_clear_10 rfl (lv_at hl 0 rfl) ?_
  cases hF
  exact hret _ _ _ _ dX3_clear_11 (nI32 _) hW
set_option maxRecDepth 100000 in
theorem kX3_clear {l : Launch} {V : VT} {M : Mem} {B : Blk} {r : Int32} {B' : Blk} (hF : FX3_clear B = some (r, B')) : MetI l V yX3_clear cX3_clear 2 .int ({ frames := 0, cells := 0, slots := 0, locals := 0 } : Room) [.ref (vA V 11 5)] r (jb M 11 B) (jb M 11 B') := metI_of (by decide) (Nat.le_of_ble_eq_true rfl) (fun E H0 _ Cx hret H locs ls hW hl => wX3_clear Cx hret hW hl hF)
theorem dX3_toStart_0 : decode cX3_toStart 0 = .ok (.aload_n 0, 1) := by decide +kernel
theorem dX3_toStart_1 : decode cX3_toStart 1 = .ok (.iconst 0, 1) := by decide +kernel
theorem dX3_toStart_2 : decode cX3_toStart 2 = .ok (.putfield 29, 3) := by decide +kernel
theorem dX3_toStart_5 : decode cX3_toStart 5 = .ok (.return_, 1) := by decide +kernel
theorem okX3_toStart : CalOK yX3_toStart cX3_toStart 1 (none) 0 := ⟨wd_72, wd_641, by decide +kernel⟩
theorem ovX3_toStart : VirOK yX3_toStart := ⟨wd_639, wd_640⟩
def FX3_toStart (B : Blk) : Option Blk :=
  lt1 (bs B 5 2 (0 : Int32)) fun B1 =>
  some B1
set_option maxRecDepth 100000 in
set_option maxHeartbeats 4000000 in
theorem wX3_toStart {E : WE} {V : VT} {A : Nat → Prop} {H0 : Heap} {M : Mem} (Cx : CX E RX3 cX3_toStart 1 0 0) {B' : Blk} (hret : RetV E V A H0 cX3_toStart (jb M 11 B')) {H : Heap} {locs : List Loc} {ls : Array Slot} {B : Blk} (hW : Wd V A H0 (jb M 11 B) (eS E) H locs) (hl : lv_has ls 1 [(0, .ref (vA V 11 5))]) (hF : FX3_toStart B = some B') : Wq E H locs 0 ls [] := by
  unfold FX3_toStart at hF
  refine q_aload_n Cx dX3_toStart_0 rfl (lv_at hl 0 rfl) ?_
  refine q_iconst (v := (0 : Int32)) Cx dX3_toStart_1 (by decide) ?_
  obtain ⟨B1, e2, hF⟩ := lt1_some hF
  refine qb_put Cx hW oQ ic3 2 (by decide) (Nat.le_of_ble_eq_true rfl) e2 rfl rfl ⟨nI32 _, rfl⟩ wd_227 dX3_toStart_2 (fun H locs hW => ?_)
  cases hF
  exact hret _ _ _ _ dX3_toStart_5 hW
set_option maxRecDepth 100000 in
theorem kX3_toStart {l : Launch} {V : VT} {M : Mem} {B : Blk} {B' : Blk} (hF : FX3_toStart B = some B') : MetV l V yX3_toStart cX3_toStart 1 ({ frames := 0, cells := 0, slots := 0, locals := 0 } : Room) [.ref (vA V 11 5)] (jb M 11 B) (jb M 11 B') := metV_of (by decide) (Nat.le_of_ble_eq_true rfl) (fun E H0 _ Cx hret H locs ls hW hl => wX3_toStart Cx hret hW hl hF)
theorem dX3_here_0 : decode cX3_here 0 = .ok (.aload_n 0, 1) := by decide +kernel
theorem dX3_here_1 : decode cX3_here 1 = .ok (.getfield 29, 3) := by decide +kernel
theorem dX3_here_4 : decode cX3_here 4 = .ok (.ifCond .lt 26, 3) := by decide +kernel
theorem dX3_here_7 : decode cX3_here 7 = .ok (.aload_n 0, 1) := by decide +kernel
theorem dX3_here_8 : decode cX3_here 8 = .ok (.getfield 29, 3) := by decide +kernel
theorem dX3_here_11 : decode cX3_here 11 = .ok (.aload_n 0, 1) := by decide +kernel
theorem dX3_here_12 : decode cX3_here 12 = .ok (.getfield 25, 3) := by decide +kernel
theorem dX3_here_15 : decode cX3_here 15 = .ok (.if_icmp .ge 15, 3) := by decide +kernel
theorem dX3_here_18 : decode cX3_here 18 = .ok (.aload_n 0, 1) := by decide +kernel
theorem dX3_here_19 : decode cX3_here 19 = .ok (.getfield 9, 3) := by decide +kernel
theorem dX3_here_22 : decode cX3_here 22 = .ok (.aload_n 0, 1) := by decide +kernel
theorem dX3_here_23 : decode cX3_here 23 = .ok (.getfield 29, 3) := by decide +kernel
theorem dX3_here_26 : decode cX3_here 26 = .ok (.caload, 1) := by decide +kernel
theorem dX3_here_27 : decode cX3_here 27 = .ok (.goto 4, 3) := by decide +kernel
theorem dX3_here_30 : decode cX3_here 30 = .ok (.iconst 0, 1) := by decide +kernel
theorem dX3_here_31 : decode cX3_here 31 = .ok (.ireturn, 1) := by decide +kernel
theorem okX3_here : CalOK yX3_here cX3_here 1 (some .int) 0 := ⟨wd_72, wd_649, by decide +kernel⟩
theorem ovX3_here : VirOK yX3_here := ⟨wd_648, wd_15⟩
def FX3_here (B : Blk) : Option Int32 :=
  if ((B 5) 2) < 0 then
    some (0 : Int32)
  else
    if ((B 5) 1) ≤ ((B 5) 2) then
      some (0 : Int32)
    else
      ld (B 6) 80 ((B 5) 2) fun v3 =>
      some v3
set_option maxRecDepth 100000 in
set_option maxHeartbeats 4000000 in
theorem wX3_here {E : WE} {V : VT} {A : Nat → Prop} {H0 : Heap} {M : Mem} (Cx : CX E RX3 cX3_here 1 0 0) {r : Int32} {B : Blk} (hret : RetI E V A H0 cX3_here .int r (jb M 11 B)) {H : Heap} {locs : List Loc} {ls : Array Slot} (hW : Wd V A H0 (jb M 11 B) (eS E) H locs) (hl : lv_has ls 1 [(0, .ref (vA V 11 5))]) (hF : FX3_here B = some r) : Wq E H locs 0 ls [] := by
  unfold FX3_here at hF
  refine q_aload_n Cx dX3_here_0 rfl (lv_at hl 0 rfl) ?_
  refine qb_get (v := .int ((B 5) 2)) Cx hW oQ ic3 2 (by decide) rfl wd_227 dX3_here_1 ?_
  refine q_if_lt (tgt := 30) Cx dX3_here_4 (by decide) (fun c1 => ?_) (fun c1 => ?_)
  · have hF := (if_pos c1).symm.trans hF
    refine q_iconst (v := (0 : Int32)) Cx dX3_here_30 (by decide) ?_
    cases hF
    exact hret _ _ _ _ dX3_here_31 (nI32 _) hW
  · have hF := (if_neg c1).symm.trans hF
    refine q_aload_n Cx dX3_here_7 rfl (lv_at hl 0 rfl) ?_
    refine qb_get (v := .int ((B 5) 2)) Cx hW oQ ic3 2 (by decide) rfl wd_227 dX3_here_8 ?_
    refine q_aload_n Cx dX3_here_11 rfl (lv_at hl 0 rfl) ?_
    refine qb_get (v := .int ((B 5) 1)) Cx hW oQ ic3 1 (by decide) rfl wd_225 dX3_here_12 ?_
    refine q_icmp_ge (tgt := 30) Cx dX3_here_15 (by decide) (fun c2 => ?_) (fun c2 => ?_)
    · have hF := (if_pos c2).symm.trans hF
      refine q_iconst (v := (0 : Int32)) Cx dX3_here_30 (by decide) ?_
      cases hF
      exact hret _ _ _ _ dX3_here_31 (nI32 _) hW
    · have hF := (if_neg c2).symm.trans hF
      refine q_aload_n Cx dX3_here_18 rfl (lv_at hl 0 rfl) ?_
      refine q_get (v := .ref (vA V 11 6)) Cx hW oQ ic3 0 (by decide) rfl wd_224 dX3_here_19 ?_
      refine q_aload_n Cx dX3_here_22 rfl (lv_at hl 0 rfl) ?_
      refine qb_get (v := .int ((B 5) 2)) Cx hW oQ ic3 2 (by decide) rfl wd_227 dX3_here_23 ?_
      obtain ⟨h4, v3, e5, hF⟩ := ld_some hF
      refine qb_cald Cx hW ax_6 h4 e5 dX3_here_26 ?_
      refine q_goto (tgt := 31) Cx dX3_here_27 (by decide) ?_
      cases hF
      exact hret _ _ _ _ dX3_here_31 (nI32 _) hW
set_option maxRecDepth 100000 in
theorem kX3_here {l : Launch} {V : VT} {M : Mem} {B : Blk} {r : Int32} (hF : FX3_here B = some r) : MetI l V yX3_here cX3_here 1 .int ({ frames := 0, cells := 0, slots := 0, locals := 0 } : Room) [.ref (vA V 11 5)] r (jb M 11 B) (jb M 11 B) := metI_of (by decide) (Nat.le_of_ble_eq_true rfl) (fun E H0 _ Cx hret H locs ls hW hl => wX3_here Cx hret hW hl hF)
theorem dX3_readSign_0 : decode cX3_readSign 0 = .ok (.aload_n 0, 1) := by decide +kernel
theorem dX3_readSign_1 : decode cX3_readSign 1 = .ok (.invokevirtual 49, 3) := by decide +kernel
theorem dX3_readSign_4 : decode cX3_readSign 4 = .ok (.iload_n 1, 1) := by decide +kernel
theorem dX3_readSign_5 : decode cX3_readSign 5 = .ok (.if_icmp .eq 5, 3) := by decide +kernel
theorem dX3_readSign_8 : decode cX3_readSign 8 = .ok (.iconst 0, 1) := by decide +kernel
theorem dX3_readSign_9 : decode cX3_readSign 9 = .ok (.ireturn, 1) := by decide +kernel
theorem dX3_readSign_10 : decode cX3_readSign 10 = .ok (.aload_n 0, 1) := by decide +kernel
theorem dX3_readSign_11 : decode cX3_readSign 11 = .ok (.dup, 1) := by decide +kernel
theorem dX3_readSign_12 : decode cX3_readSign 12 = .ok (.getfield 29, 3) := by decide +kernel
theorem dX3_readSign_15 : decode cX3_readSign 15 = .ok (.iconst 1, 1) := by decide +kernel
theorem dX3_readSign_16 : decode cX3_readSign 16 = .ok (.iadd, 1) := by decide +kernel
theorem dX3_readSign_17 : decode cX3_readSign 17 = .ok (.putfield 29, 3) := by decide +kernel
theorem dX3_readSign_20 : decode cX3_readSign 20 = .ok (.iconst 1, 1) := by decide +kernel
theorem dX3_readSign_21 : decode cX3_readSign 21 = .ok (.ireturn, 1) := by decide +kernel
theorem okX3_readSign : CalOK yX3_readSign cX3_readSign 2 (some .boolean) 1 := ⟨wd_72, wd_653, by decide +kernel⟩
theorem ovX3_readSign : VirOK yX3_readSign := ⟨wd_652, wd_16⟩
def FX3_readSign (B : Blk) (l1 : Int32) : Option (Int32 × Blk) :=
  c1 (FX3_here B) fun r1 =>
  if r1 = l1 then
    lt1 (bs B 5 2 (((B 5) 2) + (1 : Int32))) fun B4 =>
    some ((1 : Int32), B4)
  else
    some ((0 : Int32), B)
set_option maxRecDepth 100000 in
set_option maxHeartbeats 4000000 in
theorem wX3_readSign {E : WE} {V : VT} {A : Nat → Prop} {H0 : Heap} {M : Mem} (Cx : CX E RX3 cX3_readSign 2 1 20) {r : Int32} {B' : Blk} (hret : RetI E V A H0 cX3_readSign .boolean r (jb M 11 B')) {H : Heap} {locs : List Loc} {ls : Array Slot} {l1 : Int32} {B : Blk} (hW : Wd V A H0 (jb M 11 B) (eS E) H locs) (hl : lv_has ls 2 [(0, .ref (vA V 11 5)), (1, .int l1)]) (hF : FX3_readSign B l1 = some (r, B')) : Wq E H locs 0 ls [] := by
  unfold FX3_readSign at hF
  refine q_aload_n Cx dX3_readSign_0 rfl (lv_at hl 0 rfl) ?_
  obtain ⟨r1, e2, hF⟩ := c1_some hF
  refine q_callI (as := []) (rest := []) Cx (kX3_here e2) okX3_here ovX3_here wd_646 ⟨rfl, rfl, by decide, by decide⟩ hW oQ ic3 rfl hl.1 (Nat.le_of_ble_eq_true rfl) rfl dX3_readSign_1 (fun H locs hW => ?_)
  refine q_iload_n Cx dX3_readSign_4 rfl (lv_at hl 1 rfl) ?_
  refine q_icmp_eq (tgt := 10) Cx dX3_readSign_5 (by decide) (fun c3 => ?_) (fun c3 => ?_)
  · have hF := (if_pos c3).symm.trans hF
    refine q_aload_n Cx dX3_readSign_10 rfl (lv_at hl 0 rfl) ?_
    refine q_dup Cx dX3_readSign_11 rfl ?_
    refine qb_get (v := .int ((B 5) 2)) Cx hW oQ ic3 2 (by decide) rfl wd_227 dX3_readSign_12 ?_
    refine q_iconst (v := (1 : Int32)) Cx dX3_readSign_15 (by decide) ?_
    refine q_iadd Cx dX3_readSign_16 ?_
    obtain ⟨B4, e5, hF⟩ := lt1_some hF
    refine qb_put Cx hW oQ ic3 2 (by decide) (Nat.le_of_ble_eq_true rfl) e5 rfl rfl ⟨nI32 _, rfl⟩ wd_227 dX3_readSign_17 (fun H locs hW => ?_)
    refine q_iconst (v := (1 : Int32)) Cx dX3_readSign_20 (by decide) ?_
    cases hF
    exact hret _ _ _ _ dX3_readSign_21 (by rfl) hW
  · have hF := (if_neg c3).symm.trans hF
    refine q_iconst (v := (0 : Int32)) Cx dX3_readSign_8 (by decide) ?_
    cases hF
    exact hret _ _ _ _ dX3_readSign_9 (by rfl) hW
set_option maxRecDepth 100000 in
theorem kX3_readSign {l : Launch} {V : VT} {M : Mem} {B : Blk} {l1 : Int32} {r : Int32} {B' : Blk} (hF : FX3_readSign B l1 = some (r, B')) : MetI l V yX3_readSign cX3_readSign 2 .boolean ({ frames := 1, cells := 0, slots := 0, locals := 20 } : Room) [.ref (vA V 11 5), .int l1] r (jb M 11 B) (jb M 11 B') := metI_of (by decide) (Nat.le_of_ble_eq_true rfl) (fun E H0 _ Cx hret H locs ls hW hl => wX3_readSign Cx hret hW hl hF)
theorem dX3_isDigit_0 : decode cX3_isDigit 0 = .ok (.aload_n 0, 1) := by decide +kernel
theorem dX3_isDigit_1 : decode cX3_isDigit 1 = .ok (.invokevirtual 49, 3) := by decide +kernel
theorem dX3_isDigit_4 : decode cX3_isDigit 4 = .ok (.bipush 48, 2) := by decide +kernel
theorem dX3_isDigit_6 : decode cX3_isDigit 6 = .ok (.if_icmp .lt 16, 3) := by decide +kernel
theorem dX3_isDigit_9 : decode cX3_isDigit 9 = .ok (.aload_n 0, 1) := by decide +kernel
theorem dX3_isDigit_10 : decode cX3_isDigit 10 = .ok (.invokevirtual 49, 3) := by decide +kernel
theorem dX3_isDigit_13 : decode cX3_isDigit 13 = .ok (.bipush 57, 2) := by decide +kernel
theorem dX3_isDigit_15 : decode cX3_isDigit 15 = .ok (.if_icmp .gt 7, 3) := by decide +kernel
theorem dX3_isDigit_18 : decode cX3_isDigit 18 = .ok (.iconst 1, 1) := by decide +kernel
theorem dX3_isDigit_19 : decode cX3_isDigit 19 = .ok (.goto 4, 3) := by decide +kernel
theorem dX3_isDigit_22 : decode cX3_isDigit 22 = .ok (.iconst 0, 1) := by decide +kernel
theorem dX3_isDigit_23 : decode cX3_isDigit 23 = .ok (.ireturn, 1) := by decide +kernel
theorem okX3_isDigit : CalOK yX3_isDigit cX3_isDigit 1 (some .boolean) 0 := ⟨wd_72, wd_665, by decide +kernel⟩
theorem ovX3_isDigit : VirOK yX3_isDigit := ⟨wd_664, wd_19⟩
def FX3_isDigit (B : Blk) : Option Int32 :=
  c1 (FX3_here B) fun r1 =>
  if r1 < (48 : Int32) then
    some (0 : Int32)
  else
    c1 (FX3_here B) fun r4 =>
    if (57 : Int32) < r4 then
      some (0 : Int32)
    else
      some (1 : Int32)
set_option maxRecDepth 100000 in
set_option maxHeartbeats 4000000 in
theorem wX3_isDigit {E : WE} {V : VT} {A : Nat → Prop} {H0 : Heap} {M : Mem} (Cx : CX E RX3 cX3_isDigit 1 1 20) {r : Int32} {B : Blk} (hret : RetI E V A H0 cX3_isDigit .boolean r (jb M 11 B)) {H : Heap} {locs : List Loc} {ls : Array Slot} (hW : Wd V A H0 (jb M 11 B) (eS E) H locs) (hl : lv_has ls 1 [(0, .ref (vA V 11 5))]) (hF : FX3_isDigit B = some r) : Wq E H locs 0 ls [] := by
  unfold FX3_isDigit at hF
  refine q_aload_n Cx dX3_isDigit_0 rfl (lv_at hl 0 rfl) ?_
  obtain ⟨r1, e2, hF⟩ := c1_some hF
  refine q_callI (as := []) (rest := []) Cx (kX3_here e2) okX3_here ovX3_here wd_646 ⟨rfl, rfl, by decide, by decide⟩ hW oQ ic3 rfl hl.1 (Nat.le_of_ble_eq_true rfl) rfl dX3_isDigit_1 (fun H locs hW => ?_)
  refine q_bipush (v := (48 : Int32)) Cx dX3_isDigit_4 (by decide) ?_
  refine q_icmp_lt (tgt := 22) Cx dX3_isDigit_6 (by decide) (fun c3 => ?_) (fun c3 => ?_)
  · have hF := (if_pos c3).symm.trans hF
    refine q_iconst (v := (0 : Int32)) Cx dX3_isDigit_22 (by decide) ?_
    cases hF
    exact hret _ _ _ _ dX3_isDigit_23 (by rfl) hW
  · have hF := (if_neg c3).symm.trans hF
    refine q_aload_n Cx dX3_isDigit_9 rfl (lv_at hl 0 rfl) ?_
    obtain ⟨r4, e5, hF⟩ := c1_some hF
    refine q_callI (as := []) (rest := []) Cx (kX3_here e5) okX3_here ovX3_here wd_646 ⟨rfl, rfl, by decide, by decide⟩ hW oQ ic3 rfl hl.1 (Nat.le_of_ble_eq_true rfl) rfl dX3_isDigit_10 (fun H locs hW => ?_)
    refine q_bipush (v := (57 : Int32)) Cx dX3_isDigit_13 (by decide) ?_
    refine q_icmp_gt (tgt := 22) Cx dX3_isDigit_15 (by decide) (fun c6 => ?_) (fun c6 => ?_)
    · have hF := (if_pos c6).symm.trans hF
      refine q_iconst (v := (0 : Int32)) Cx dX3_isDigit_22 (by decide) ?_
      cases hF
      exact hret _ _ _ _ dX3_isDigit_23 (by rfl) hW
    · have hF := (if_neg c6).symm.trans hF
      refine q_iconst (v := (1 : Int32)) Cx dX3_isDigit_18 (by decide) ?_
      refine q_goto (tgt := 23) Cx dX3_isDigit_19 (by decide) ?_
      cases hF
      exact hret _ _ _ _ dX3_isDigit_23 (by rfl) hW
set_option maxRecDepth 100000 in
theorem kX3_isDigit {l : Launch} {V : VT} {M : Mem} {B : Blk} {r : Int32} (hF : FX3_isDigit B = some r) : MetI l V yX3_isDigit cX3_isDigit 1 .boolean ({ frames := 1, cells := 0, slots := 0, locals := 20 } : Room) [.ref (vA V 11 5)] r (jb M 11 B) (jb M 11 B) := metI_of (by decide) (Nat.le_of_ble_eq_true rfl) (fun E H0 _ Cx hret H locs ls hW hl => wX3_isDigit Cx hret hW hl hF)
theorem dX3_keep_0 : decode cX3_keep 0 = .ok (.aload_n 0, 1) := by decide +kernel
theorem dX3_keep_1 : decode cX3_keep 1 = .ok (.getfield 46, 3) := by decide +kernel
theorem dX3_keep_4 : decode cX3_keep 4 = .ok (.aload_n 0, 1) := by decide +kernel
theorem dX3_keep_5 : decode cX3_keep 5 = .ok (.getfield 15, 3) := by decide +kernel
theorem dX3_keep_8 : decode cX3_keep 8 = .ok (.arraylength, 1) := by decide +kernel
theorem dX3_keep_9 : decode cX3_keep 9 = .ok (.if_icmp .lt 5, 3) := by decide +kernel
theorem dX3_keep_12 : decode cX3_keep 12 = .ok (.iconst 0, 1) := by decide +kernel
theorem dX3_keep_13 : decode cX3_keep 13 = .ok (.ireturn, 1) := by decide +kernel
theorem dX3_keep_14 : decode cX3_keep 14 = .ok (.aload_n 0, 1) := by decide +kernel
theorem dX3_keep_15 : decode cX3_keep 15 = .ok (.getfield 15, 3) := by decide +kernel
theorem dX3_keep_18 : decode cX3_keep 18 = .ok (.aload_n 0, 1) := by decide +kernel
theorem dX3_keep_19 : decode cX3_keep 19 = .ok (.getfield 46, 3) := by decide +kernel
theorem dX3_keep_22 : decode cX3_keep 22 = .ok (.iload_n 1, 1) := by decide +kernel
theorem dX3_keep_23 : decode cX3_keep 23 = .ok (.iastore, 1) := by decide +kernel
theorem dX3_keep_24 : decode cX3_keep 24 = .ok (.aload_n 0, 1) := by decide +kernel
theorem dX3_keep_25 : decode cX3_keep 25 = .ok (.dup, 1) := by decide +kernel
theorem dX3_keep_26 : decode cX3_keep 26 = .ok (.getfield 46, 3) := by decide +kernel
theorem dX3_keep_29 : decode cX3_keep 29 = .ok (.iconst 1, 1) := by decide +kernel
theorem dX3_keep_30 : decode cX3_keep 30 = .ok (.iadd, 1) := by decide +kernel
theorem dX3_keep_31 : decode cX3_keep 31 = .ok (.putfield 46, 3) := by decide +kernel
theorem dX3_keep_34 : decode cX3_keep 34 = .ok (.iconst 1, 1) := by decide +kernel
theorem dX3_keep_35 : decode cX3_keep 35 = .ok (.ireturn, 1) := by decide +kernel
theorem okX3_keep : CalOK yX3_keep cX3_keep 2 (some .boolean) 1 := ⟨wd_72, wd_669, by decide +kernel⟩
theorem ovX3_keep : VirOK yX3_keep := ⟨wd_668, wd_20⟩
def FX3_keep (B : Blk) (l1 : Int32) : Option (Int32 × Blk) :=
  if ((B 5) 5) < (5 : Int32) then
    stb B 7 5 ((B 5) 5) l1 fun B2 =>
    lt1 (bs B2 5 5 (((B2 5) 5) + (1 : Int32))) fun B5 =>
    some ((1 : Int32), B5)
  else
    some ((0 : Int32), B)
set_option maxRecDepth 100000 in
set_option maxHeartbeats 4000000 in
theorem wX3_keep {E : WE} {V : VT} {A : Nat → Prop} {H0 : Heap} {M : Mem} (Cx : CX E RX3 cX3_keep 2 0 0) {r : Int32} {B' : Blk} (hret : RetI E V A H0 cX3_keep .boolean r (jb M 11 B')) {H : Heap} {locs : List Loc} {ls : Array Slot} {l1 : Int32} {B : Blk} (hW : Wd V A H0 (jb M 11 B) (eS E) H locs) (hl : lv_has ls 2 [(0, .ref (vA V 11 5)), (1, .int l1)]) (hF : FX3_keep B l1 = some (r, B')) : Wq E H locs 0 ls [] := by
  unfold FX3_keep at hF
  refine q_aload_n Cx dX3_keep_0 rfl (lv_at hl 0 rfl) ?_
  refine qb_get (v := .int ((B 5) 5)) Cx hW oQ ic3 5 (by decide) rfl wd_232 dX3_keep_1 ?_
  refine q_aload_n Cx dX3_keep_4 rfl (lv_at hl 0 rfl) ?_
  refine q_get (v := .ref (vA V 11 7)) Cx hW oQ ic3 4 (by decide) rfl wd_230 dX3_keep_5 ?_
  refine q_alen (v := (5 : Int32)) Cx hW ax_7 (by decide) dX3_keep_8 ?_
  refine q_icmp_lt (tgt := 14) Cx dX3_keep_9 (by decide) (fun c1 => ?_) (fun c1 => ?_)
  · have hF := (if_pos c1).symm.trans hF
    refine q_aload_n Cx dX3_keep_14 rfl (lv_at hl 0 rfl) ?_
    refine q_get (v := .ref (vA V 11 7)) Cx hW oQ ic3 4 (by decide) rfl wd_230 dX3_keep_15 ?_
    refine q_aload_n Cx dX3_keep_18 rfl (lv_at hl 0 rfl) ?_
    refine qb_get (v := .int ((B 5) 5)) Cx hW oQ ic3 5 (by decide) rfl wd_232 dX3_keep_19 ?_
    refine q_iload_n Cx dX3_keep_22 rfl (lv_at hl 1 rfl) ?_
    obtain ⟨h3, B2, e4, hF⟩ := stb_some hF
    refine qb_iast Cx hW ax_7 h3 e4 dX3_keep_23 (fun H locs hW => ?_)
    refine q_aload_n Cx dX3_keep_24 rfl (lv_at hl 0 rfl) ?_
    refine q_dup Cx dX3_keep_25 rfl ?_
    refine qb_get (v := .int ((B2 5) 5)) Cx hW oQ ic3 5 (by decide) rfl wd_232 dX3_keep_26 ?_
    refine q_iconst (v := (1 : Int32)) Cx dX3_keep_29 (by decide) ?_
    refine q_iadd Cx dX3_keep_30 ?_
    obtain ⟨B5, e6, hF⟩ := lt1_some hF
    refine qb_put Cx hW oQ ic3 5 (by decide) (Nat.le_of_ble_eq_true rfl) e6 rfl rfl ⟨nI32 _, rfl⟩ wd_232 dX3_keep_31 (fun H locs hW => ?_)
    refine q_iconst (v := (1 : Int32)) Cx dX3_keep_34 (by decide) ?_
    cases hF
    exact hret _ _ _ _ dX3_keep_35 (by rfl) hW
  · have hF := (if_neg c1).symm.trans hF
    refine q_iconst (v := (0 : Int32)) Cx dX3_keep_12 (by decide) ?_
    cases hF
    exact hret _ _ _ _ dX3_keep_13 (by rfl) hW
set_option maxRecDepth 100000 in
theorem kX3_keep {l : Launch} {V : VT} {M : Mem} {B : Blk} {l1 : Int32} {r : Int32} {B' : Blk} (hF : FX3_keep B l1 = some (r, B')) : MetI l V yX3_keep cX3_keep 2 .boolean ({ frames := 0, cells := 0, slots := 0, locals := 0 } : Room) [.ref (vA V 11 5), .int l1] r (jb M 11 B) (jb M 11 B') := metI_of (by decide) (Nat.le_of_ble_eq_true rfl) (fun E H0 _ Cx hret H locs ls hW hl => wX3_keep Cx hret hW hl hF)
theorem dX3_readDigit_0 : decode cX3_readDigit 0 = .ok (.aload_n 0, 1) := by decide +kernel
theorem dX3_readDigit_1 : decode cX3_readDigit 1 = .ok (.invokevirtual 72, 3) := by decide +kernel
theorem dX3_readDigit_4 : decode cX3_readDigit 4 = .ok (.ifCond .ne 5, 3) := by decide +kernel
theorem dX3_readDigit_7 : decode cX3_readDigit 7 = .ok (.iconst 0, 1) := by decide +kernel
theorem dX3_readDigit_8 : decode cX3_readDigit 8 = .ok (.ireturn, 1) := by decide +kernel
theorem dX3_readDigit_9 : decode cX3_readDigit 9 = .ok (.aload_n 0, 1) := by decide +kernel
theorem dX3_readDigit_10 : decode cX3_readDigit 10 = .ok (.invokevirtual 49, 3) := by decide +kernel
theorem dX3_readDigit_13 : decode cX3_readDigit 13 = .ok (.bipush 48, 2) := by decide +kernel
theorem dX3_readDigit_15 : decode cX3_readDigit 15 = .ok (.isub, 1) := by decide +kernel
theorem dX3_readDigit_16 : decode cX3_readDigit 16 = .ok (.istore_n 1, 1) := by decide +kernel
theorem dX3_readDigit_17 : decode cX3_readDigit 17 = .ok (.aload_n 0, 1) := by decide +kernel
theorem dX3_readDigit_18 : decode cX3_readDigit 18 = .ok (.dup, 1) := by decide +kernel
theorem dX3_readDigit_19 : decode cX3_readDigit 19 = .ok (.getfield 29, 3) := by decide +kernel
theorem dX3_readDigit_22 : decode cX3_readDigit 22 = .ok (.iconst 1, 1) := by decide +kernel
theorem dX3_readDigit_23 : decode cX3_readDigit 23 = .ok (.iadd, 1) := by decide +kernel
theorem dX3_readDigit_24 : decode cX3_readDigit 24 = .ok (.putfield 29, 3) := by decide +kernel
theorem dX3_readDigit_27 : decode cX3_readDigit 27 = .ok (.aload_n 0, 1) := by decide +kernel
theorem dX3_readDigit_28 : decode cX3_readDigit 28 = .ok (.iload_n 1, 1) := by decide +kernel
theorem dX3_readDigit_29 : decode cX3_readDigit 29 = .ok (.invokevirtual 68, 3) := by decide +kernel
theorem dX3_readDigit_32 : decode cX3_readDigit 32 = .ok (.ireturn, 1) := by decide +kernel
theorem okX3_readDigit : CalOK yX3_readDigit cX3_readDigit 2 (some .boolean) 0 := ⟨wd_72, wd_661, by decide +kernel⟩
theorem ovX3_readDigit : VirOK yX3_readDigit := ⟨wd_660, wd_18⟩
def FX3_readDigit (B : Blk) : Option (Int32 × Blk) :=
  c1 (FX3_isDigit B) fun r1 =>
  if r1 = 0 then
    some ((0 : Int32), B)
  else
    c1 (FX3_here B) fun r4 =>
    lt1 (r4 - (48 : Int32)) fun x6 =>
    lt1 (bs B 5 2 (((B 5) 2) + (1 : Int32))) fun B8 =>
    c2 (FX3_keep B8 x6) fun r10 B12 =>
    rZ r10 (some (r10, B12))
set_option maxRecDepth 100000 in
set_option maxHeartbeats 4000000 in
theorem wX3_readDigit {E : WE} {V : VT} {A : Nat → Prop} {H0 : Heap} {M : Mem} (Cx : CX E RX3 cX3_readDigit 2 2 40) {r : Int32} {B' : Blk} (hret : RetI E V A H0 cX3_readDigit .boolean r (jb M 11 B')) {H : Heap} {locs : List Loc} {ls : Array Slot} {B : Blk} (hW : Wd V A H0 (jb M 11 B) (eS E) H locs) (hl : lv_has ls 2 [(0, .ref (vA V 11 5))]) (hF : FX3_readDigit B = some (r, B')) : Wq E H locs 0 ls [] := by
  unfold FX3_readDigit at hF
  refine q_aload_n Cx dX3_readDigit_0 rfl (lv_at hl 0 rfl) ?_
  obtain ⟨r1, e2, hF⟩ := c1_some hF
  refine q_callI (as := []) (rest := []) Cx (kX3_isDigit e2) okX3_isDigit ovX3_isDigit wd_662 ⟨rfl, rfl, by decide, by decide⟩ hW oQ ic3 rfl hl.1 (Nat.le_of_ble_eq_true rfl) rfl dX3_readDigit_1 (fun H locs hW => ?_)
  refine q_if_ne (tgt := 9) Cx dX3_readDigit_4 (by decide) (fun c3 => ?_) (fun c3 => ?_)
  · have hF := (if_neg c3).symm.trans hF
    refine q_aload_n Cx dX3_readDigit_9 rfl (lv_at hl 0 rfl) ?_
    obtain ⟨r4, e5, hF⟩ := c1_some hF
    refine q_callI (as := []) (rest := []) Cx (kX3_here e5) okX3_here ovX3_here wd_646 ⟨rfl, rfl, by decide, by decide⟩ hW oQ ic3 rfl hl.1 (Nat.le_of_ble_eq_true rfl) rfl dX3_readDigit_10 (fun H locs hW => ?_)
    refine q_bipush (v := (48 : Int32)) Cx dX3_readDigit_13 (by decide) ?_
    refine q_isub Cx dX3_readDigit_15 ?_
    obtain ⟨x6, e7, hF⟩ := lt1_some hF
    refine q_topi e7 ?_
    refine q_istore_n (lv' := [(1, .int x6), (0, .ref (vA V 11 5))]) Cx dX3_readDigit_16 rfl hl (by decide) rfl (fun ls hl => ?_)
    refine q_aload_n Cx dX3_readDigit_17 rfl (lv_at hl 1 rfl) ?_
    refine q_dup Cx dX3_readDigit_18 rfl ?_
    refine qb_get (v := .int ((B 5) 2)) Cx hW oQ ic3 2 (by decide) rfl wd_227 dX3_readDigit_19 ?_
    refine q_iconst (v := (1 : Int32)) Cx dX3_readDigit_22 (by decide) ?_
    refine q_iadd Cx dX3_readDigit_23 ?_
    obtain ⟨B8, e9, hF⟩ := lt1_some hF
    refine qb_put Cx hW oQ ic3 2 (by decide) (Nat.le_of_ble_eq_true rfl) e9 rfl rfl ⟨nI32 _, rfl⟩ wd_227 dX3_readDigit_24 (fun H locs hW => ?_)
    refine q_aload_n Cx dX3_readDigit_27 rfl (lv_at hl 1 rfl) ?_
    refine q_iload_n Cx dX3_readDigit_28 rfl (lv_at hl 0 rfl) ?_
    obtain ⟨r10, B12, e11, hF⟩ := c2_some hF
    refine q_callI (as := [.int x6]) (rest := []) Cx (kX3_keep e11) okX3_keep ovX3_keep wd_666 ⟨rfl, rfl, by decide, by decide⟩ hW oQ ic3 rfl hl.1 (Nat.le_of_ble_eq_true rfl) rfl dX3_readDigit_29 (fun H locs hW => ?_)
    obtain ⟨h13, hF⟩ := rZ_some hF
    cases hF
    exact hret _ _ _ _ dX3_readDigit_32 h13 hW
  · have hF := (if_pos c3).symm.trans hF
    refine q_iconst (v := (0 : Int32)) Cx dX3_readDigit_7 (by decide) ?_
    cases hF
    exact hret _ _ _ _ dX3_readDigit_8 (by rfl) hW
set_option maxRecDepth 100000 in
theorem kX3_readDigit {l : Launch} {V : VT} {M : Mem} {B : Blk} {r : Int32} {B' : Blk} (hF : FX3_readDigit B = some (r, B')) : MetI l V yX3_readDigit cX3_readDigit 2 .boolean ({ frames := 2, cells := 0, slots := 0, locals := 40 } : Room) [.ref (vA V 11 5)] r (jb M 11 B) (jb M 11 B') := metI_of (by decide) (Nat.le_of_ble_eq_true rfl) (fun E H0 _ Cx hret H locs ls hW hl => wX3_readDigit Cx hret hW hl hF)
theorem dX3_readNumber_0 : decode cX3_readNumber 0 = .ok (.aload_n 0, 1) := by decide +kernel
theorem dX3_readNumber_1 : decode cX3_readNumber 1 = .ok (.invokevirtual 72, 3) := by decide +kernel
theorem dX3_readNumber_4 : decode cX3_readNumber 4 = .ok (.ifCond .ne 5, 3) := by decide +kernel
theorem dX3_readNumber_7 : decode cX3_readNumber 7 = .ok (.iconst 0, 1) := by decide +kernel
theorem dX3_readNumber_8 : decode cX3_readNumber 8 = .ok (.ireturn, 1) := by decide +kernel
theorem dX3_readNumber_9 : decode cX3_readNumber 9 = .ok (.iconst 0, 1) := by decide +kernel
theorem dX3_readNumber_10 : decode cX3_readNumber 10 = .ok (.istore_n 1, 1) := by decide +kernel
theorem dX3_readNumber_11 : decode cX3_readNumber 11 = .ok (.iconst 0, 1) := by decide +kernel
theorem dX3_readNumber_12 : decode cX3_readNumber 12 = .ok (.istore_n 2, 1) := by decide +kernel
theorem dX3_readNumber_13 : decode cX3_readNumber 13 = .ok (.iload_n 2, 1) := by decide +kernel
theorem dX3_readNumber_14 : decode cX3_readNumber 14 = .ok (.iconst 5, 1) := by decide +kernel
theorem dX3_readNumber_15 : decode cX3_readNumber 15 = .ok (.if_icmp .ge 47, 3) := by decide +kernel
theorem dX3_readNumber_18 : decode cX3_readNumber 18 = .ok (.aload_n 0, 1) := by decide +kernel
theorem dX3_readNumber_19 : decode cX3_readNumber 19 = .ok (.invokevirtual 72, 3) := by decide +kernel
theorem dX3_readNumber_22 : decode cX3_readNumber 22 = .ok (.ifCond .eq 40, 3) := by decide +kernel
theorem dX3_readNumber_25 : decode cX3_readNumber 25 = .ok (.iload_n 2, 1) := by decide +kernel
theorem dX3_readNumber_26 : decode cX3_readNumber 26 = .ok (.ifCond .eq 7, 3) := by decide +kernel
theorem dX3_readNumber_29 : decode cX3_readNumber 29 = .ok (.iload_n 1, 1) := by decide +kernel
theorem dX3_readNumber_30 : decode cX3_readNumber 30 = .ok (.ifCond .le 32, 3) := by decide +kernel
theorem dX3_readNumber_33 : decode cX3_readNumber 33 = .ok (.iload_n 1, 1) := by decide +kernel
theorem dX3_readNumber_34 : decode cX3_readNumber 34 = .ok (.bipush 10, 2) := by decide +kernel
theorem dX3_readNumber_36 : decode cX3_readNumber 36 = .ok (.imul, 1) := by decide +kernel
theorem dX3_readNumber_37 : decode cX3_readNumber 37 = .ok (.aload_n 0, 1) := by decide +kernel
theorem dX3_readNumber_38 : decode cX3_readNumber 38 = .ok (.invokevirtual 49, 3) := by decide +kernel
theorem dX3_readNumber_41 : decode cX3_readNumber 41 = .ok (.iadd, 1) := by decide +kernel
theorem dX3_readNumber_42 : decode cX3_readNumber 42 = .ok (.bipush 48, 2) := by decide +kernel
theorem dX3_readNumber_44 : decode cX3_readNumber 44 = .ok (.isub, 1) := by decide +kernel
theorem dX3_readNumber_45 : decode cX3_readNumber 45 = .ok (.istore_n 1, 1) := by decide +kernel
theorem dX3_readNumber_46 : decode cX3_readNumber 46 = .ok (.aload_n 0, 1) := by decide +kernel
theorem dX3_readNumber_47 : decode cX3_readNumber 47 = .ok (.dup, 1) := by decide +kernel
theorem dX3_readNumber_48 : decode cX3_readNumber 48 = .ok (.getfield 29, 3) := by decide +kernel
theorem dX3_readNumber_51 : decode cX3_readNumber 51 = .ok (.iconst 1, 1) := by decide +kernel
theorem dX3_readNumber_52 : decode cX3_readNumber 52 = .ok (.iadd, 1) := by decide +kernel
theorem dX3_readNumber_53 : decode cX3_readNumber 53 = .ok (.putfield 29, 3) := by decide +kernel
theorem dX3_readNumber_56 : decode cX3_readNumber 56 = .ok (.iinc 2 1, 3) := by decide +kernel
theorem dX3_readNumber_59 : decode cX3_readNumber 59 = .ok (.goto (-46), 3) := by decide +kernel
theorem dX3_readNumber_62 : decode cX3_readNumber 62 = .ok (.aload_n 0, 1) := by decide +kernel
theorem dX3_readNumber_63 : decode cX3_readNumber 63 = .ok (.iload_n 1, 1) := by decide +kernel
theorem dX3_readNumber_64 : decode cX3_readNumber 64 = .ok (.invokevirtual 68, 3) := by decide +kernel
theorem dX3_readNumber_67 : decode cX3_readNumber 67 = .ok (.ireturn, 1) := by decide +kernel
theorem okX3_readNumber : CalOK yX3_readNumber cX3_readNumber 3 (some .boolean) 0 := ⟨wd_72, wd_673, by decide +kernel⟩
theorem ovX3_readNumber : VirOK yX3_readNumber := ⟨wd_672, wd_21⟩
def FX3_readNumber_62 (l1 : Int32) (B : Blk) : Option (Int32 × Blk) :=
  c2 (FX3_keep B l1) fun r5 B7 =>
  rZ r5 (some (r5, B7))
set_option maxRecDepth 100000 in
set_option maxHeartbeats 4000000 in
theorem wX3_readNumber_62 {E : WE} {V : VT} {A : Nat → Prop} {H0 : Heap} {M : Mem} (Cx : CX E RX3 cX3_readNumber 3 2 40) {r : Int32} {B' : Blk} (hret : RetI E V A H0 cX3_readNumber .boolean r (jb M 11 B')) {H : Heap} {locs : List Loc} {ls : Array Slot} {l1 : Int32} {B : Blk} (hW : Wd V A H0 (jb M 11 B) (eS E) H locs) (hl : lv_has ls 3 [(0, .ref (vA V 11 5)), (1, .int l1)]) (hF : FX3_readNumber_62 l1 B = some (r, B')) : Wq E H locs 62 ls [] := by
  unfold FX3_readNumber_62 at hF
  refine q_aload_n Cx dX3_readNumber_62 rfl (lv_at hl 0 rfl) ?_
  refine q_iload_n Cx dX3_readNumber_63 rfl (lv_at hl 1 rfl) ?_
  obtain ⟨r5, B7, e6, hF⟩ := c2_some hF
  refine q_callI (as := [.int l1]) (rest := []) Cx (kX3_keep e6) okX3_keep ovX3_keep wd_666 ⟨rfl, rfl, by decide, by decide⟩ hW oQ ic3 rfl hl.1 (Nat.le_of_ble_eq_true rfl) rfl dX3_readNumber_64 (fun H locs hW => ?_)
  obtain ⟨h8, hF⟩ := rZ_some hF
  cases hF
  exact hret _ _ _ _ dX3_readNumber_67 h8 hW
def FX3_readNumber_33 (k13 : Int32 → Int32 → Blk → Option (Int32 × Blk)) (l1 : Int32) (l2 : Int32) (B : Blk) : Option (Int32 × Blk) :=
  c1 (FX3_here B) fun r13 =>
  lt1 (((l1 * (10 : Int32)) + r13) - (48 : Int32)) fun x15 =>
  lt1 (bs B 5 2 (((B 5) 2) + (1 : Int32))) fun B17 =>
  lt1 (l2 + (1 : Int32)) fun x19 =>
  k13 x15 x19 B17
set_option maxRecDepth 100000 in
set_option maxHeartbeats 4000000 in
theorem wX3_readNumber_33 {E : WE} {V : VT} {A : Nat → Prop} {H0 : Heap} {M : Mem} (Cx : CX E RX3 cX3_readNumber 3 2 40) {r : Int32} {B' : Blk} (hret : RetI E V A H0 cX3_readNumber .boolean r (jb M 11 B')) {k13 : Int32 → Int32 → Blk → Option (Int32 × Blk)} (hk13 : ∀ {H : Heap} {locs : List Loc} {ls : Array Slot} {B : Blk} {l1 : Int32} {l2 : Int32}, Wd V A H0 (jb M 11 B) (eS E) H locs → lv_has ls 3 [(0, .ref (vA V 11 5)), (1, .int l1), (2, .int l2)] → k13 l1 l2 B = some (r, B') → Wq E H locs 13 ls []) {H : Heap} {locs : List Loc} {ls : Array Slot} {l1 : Int32} {l2 : Int32} {B : Blk} (hW : Wd V A H0 (jb M 11 B) (eS E) H locs) (hl : lv_has ls 3 [(0, .ref (vA V 11 5)), (1, .int l1), (2, .int l2)]) (hF : FX3_readNumber_33 k13 l1 l2 B = some (r, B')) : Wq E H locs 33 ls [] := by
  unfold FX3_readNumber_33 at hF
  refine q_iload_n Cx dX3_readNumber_33 rfl (lv_at hl 1 rfl) ?_
  refine q_bipush (v := (10 : Int32)) Cx dX3_readNumber_34 (by decide) ?_
  refine q_imul Cx dX3_readNumber_36 ?_
  refine q_aload_n Cx dX3_readNumber_37 rfl (lv_at hl 0 rfl) ?_
  obtain ⟨r13, e14, hF⟩ := c1_some hF
  refine q_callI (as := []) (rest := [.int (l1 * (10 : Int32))]) Cx (kX3_here e14) okX3_here ovX3_here wd_646 ⟨rfl, rfl, by decide, by decide⟩ hW oQ ic3 rfl hl.1 (Nat.le_of_ble_eq_true rfl) rfl dX3_readNumber_38 (fun H locs hW => ?_)
  refine q_iadd Cx dX3_readNumber_41 ?_
  refine q_bipush (v := (48 : Int32)) Cx dX3_readNumber_42 (by decide) ?_
  refine q_isub Cx dX3_readNumber_44 ?_
  obtain ⟨x15, e16, hF⟩ := lt1_some hF
  refine q_topi e16 ?_
  refine q_istore_n (lv' := [(1, .int x15), (0, .ref (vA V 11 5)), (2, .int l2)]) Cx dX3_readNumber_45 rfl hl (by decide) rfl (fun ls hl => ?_)
  refine q_aload_n Cx dX3_readNumber_46 rfl (lv_at hl 1 rfl) ?_
  refine q_dup Cx dX3_readNumber_47 rfl ?_
  refine qb_get (v := .int ((B 5) 2)) Cx hW oQ ic3 2 (by decide) rfl wd_227 dX3_readNumber_48 ?_
  refine q_iconst (v := (1 : Int32)) Cx dX3_readNumber_51 (by decide) ?_
  refine q_iadd Cx dX3_readNumber_52 ?_
  obtain ⟨B17, e18, hF⟩ := lt1_some hF
  refine qb_put Cx hW oQ ic3 2 (by decide) (Nat.le_of_ble_eq_true rfl) e18 rfl rfl ⟨nI32 _, rfl⟩ wd_227 dX3_readNumber_53 (fun H locs hW => ?_)
  obtain ⟨x19, e20, hF⟩ := lt1_some hF
  refine q_iinc (k := 2) (v := x19) (lv' := [(2, .int x19), (1, .int x15), (0, .ref (vA V 11 5))]) Cx dX3_readNumber_56 hl rfl e20.symm (by decide) rfl (fun ls hl => ?_)
  refine q_goto (tgt := 13) Cx dX3_readNumber_59 (by decide) ?_
  exact hk13 hW (lv_sub hl [2, 1, 0] rfl) hF
def FX3_readNumber_13s (k13 : Int32 → Int32 → Blk → Option (Int32 × Blk)) (l1 : Int32) (l2 : Int32) (B : Blk) : Option (Int32 × Blk) :=
  if (5 : Int32) ≤ l2 then
    FX3_readNumber_62 l1 B
  else
    c1 (FX3_isDigit B) fun r9 =>
    if r9 = 0 then
      FX3_readNumber_62 l1 B
    else
      if l2 = 0 then
        FX3_readNumber_33 k13 l1 l2 B
      else
        if l1 ≤ 0 then
          FX3_readNumber_62 l1 B
        else
          FX3_readNumber_33 k13 l1 l2 B
set_option maxRecDepth 100000 in
set_option maxHeartbeats 4000000 in
theorem wX3_readNumber_13s {E : WE} {V : VT} {A : Nat → Prop} {H0 : Heap} {M : Mem} (Cx : CX E RX3 cX3_readNumber 3 2 40) {r : Int32} {B' : Blk} (hret : RetI E V A H0 cX3_readNumber .boolean r (jb M 11 B')) {k13 : Int32 → Int32 → Blk → Option (Int32 × Blk)} (hk13 : ∀ {H : Heap} {locs : List Loc} {ls : Array Slot} {B : Blk} {l1 : Int32} {l2 : Int32}, Wd V A H0 (jb M 11 B) (eS E) H locs → lv_has ls 3 [(0, .ref (vA V 11 5)), (1, .int l1), (2, .int l2)] → k13 l1 l2 B = some (r, B') → Wq E H locs 13 ls []) {H : Heap} {locs : List Loc} {ls : Array Slot} {l1 : Int32} {l2 : Int32} {B : Blk} (hW : Wd V A H0 (jb M 11 B) (eS E) H locs) (hl : lv_has ls 3 [(0, .ref (vA V 11 5)), (1, .int l1), (2, .int l2)]) (hF : FX3_readNumber_13s k13 l1 l2 B = some (r, B')) : Wq E H locs 13 ls [] := by
  unfold FX3_readNumber_13s at hF
  refine q_iload_n Cx dX3_readNumber_13 rfl (lv_at hl 2 rfl) ?_
  refine q_iconst (v := (5 : Int32)) Cx dX3_readNumber_14 (by decide) ?_
  refine q_icmp_ge (tgt := 62) Cx dX3_readNumber_15 (by decide) (fun c4 => ?_) (fun c4 => ?_)
  · have hF := (if_pos c4).symm.trans hF
    exact wX3_readNumber_62 Cx hret hW (lv_sub hl [0, 1] rfl) hF
  · have hF := (if_neg c4).symm.trans hF
    refine q_aload_n Cx dX3_readNumber_18 rfl (lv_at hl 0 rfl) ?_
    obtain ⟨r9, e10, hF⟩ := c1_some hF
    refine q_callI (as := []) (rest := []) Cx (kX3_isDigit e10) okX3_isDigit ovX3_isDigit wd_662 ⟨rfl, rfl, by decide, by decide⟩ hW oQ ic3 rfl hl.1 (Nat.le_of_ble_eq_true rfl) rfl dX3_readNumber_19 (fun H locs hW => ?_)
    refine q_if_eq (tgt := 62) Cx dX3_readNumber_22 (by decide) (fun c11 => ?_) (fun c11 => ?_)
    · have hF := (if_pos c11).symm.trans hF
      exact wX3_readNumber_62 Cx hret hW (lv_sub hl [0, 1] rfl) hF
    · have hF := (if_neg c11).symm.trans hF
      refine q_iload_n Cx dX3_readNumber_25 rfl (lv_at hl 2 rfl) ?_
      refine q_if_eq (tgt := 33) Cx dX3_readNumber_26 (by decide) (fun c12 => ?_) (fun c12 => ?_)
      · have hF := (if_pos c12).symm.trans hF
        exact wX3_readNumber_33 Cx hret hk13 hW (lv_sub hl [0, 1, 2] rfl) hF
      · have hF := (if_neg c12).symm.trans hF
        refine q_iload_n Cx dX3_readNumber_29 rfl (lv_at hl 1 rfl) ?_
        refine q_if_le (tgt := 62) Cx dX3_readNumber_30 (by decide) (fun c21 => ?_) (fun c21 => ?_)
        · have hF := (if_pos c21).symm.trans hF
          exact wX3_readNumber_62 Cx hret hW (lv_sub hl [0, 1] rfl) hF
        · have hF := (if_neg c21).symm.trans hF
          exact wX3_readNumber_33 Cx hret hk13 hW (lv_sub hl [0, 1, 2] rfl) hF
def FX3_readNumber_13 : Nat → Int32 → Int32 → Blk → Option (Int32 × Blk)
  | 0 => fun _ _ _ => none
  | n + 1 => FX3_readNumber_13s (FX3_readNumber_13 n)
set_option maxRecDepth 100000 in
theorem wX3_readNumber_13 {E : WE} {V : VT} {A : Nat → Prop} {H0 : Heap} {M : Mem} (Cx : CX E RX3 cX3_readNumber 3 2 40) {r : Int32} {B' : Blk} (hret : RetI E V A H0 cX3_readNumber .boolean r (jb M 11 B')) : ∀ (n : Nat) {H : Heap} {locs : List Loc} {ls : Array Slot} {l1 : Int32} {l2 : Int32} {B : Blk}, Wd V A H0 (jb M 11 B) (eS E) H locs → lv_has ls 3 [(0, .ref (vA V 11 5)), (1, .int l1), (2, .int l2)] → FX3_readNumber_13 n l1 l2 B = some (r, B') → Wq E H locs 13 ls [] := by
  intro n
  induction n with
  | zero => intro _ _ _ _ _ _ hW hl hF; cases hF
  | succ n ih => intro _ _ _ _ _ _ hW hl hF; exact wX3_readNumber_13s Cx hret ih hW hl hF
def FX3_readNumber (B : Blk) : Option (Int32 × Blk) :=
  c1 (FX3_isDigit B) fun r1 =>
  if r1 = 0 then
    some ((0 : Int32), B)
  else
    FX3_readNumber_13 fu (0 : Int32) (0 : Int32) B
set_option maxRecDepth 100000 in
set_option maxHeartbeats 4000000 in
theorem wX3_readNumber {E : WE} {V : VT} {A : Nat → Prop} {H0 : Heap} {M : Mem} (Cx : CX E RX3 cX3_readNumber 3 2 40) {r : Int32} {B' : Blk} (hret : RetI E V A H0 cX3_readNumber .boolean r (jb M 11 B')) {H : Heap} {locs : List Loc} {ls : Array Slot} {B : Blk} (hW : Wd V A H0 (jb M 11 B) (eS E) H locs) (hl : lv_has ls 3 [(0, .ref (vA V 11 5))]) (hF : FX3_readNumber B = some (r, B')) : Wq E H locs 0 ls [] := by
  unfold FX3_readNumber at hF
  refine q_aload_n Cx dX3_readNumber_0 rfl (lv_at hl 0 rfl) ?_
  obtain ⟨r1, e2, hF⟩ := c1_some hF
  refine q_callI (as := []) (rest := []) Cx (kX3_isDigit e2) okX3_isDigit ovX3_isDigit wd_662 ⟨rfl, rfl, by decide, by decide⟩ hW oQ ic3 rfl hl.1 (Nat.le_of_ble_eq_true rfl) rfl dX3_readNumber_1 (fun H locs hW => ?_)
  refine q_if_ne (tgt := 9) Cx dX3_readNumber_4 (by decide) (fun c3 => ?_) (fun c3 => ?_)
  · have hF := (if_neg c3).symm.trans hF
    refine q_iconst (v := (0 : Int32)) Cx dX3_readNumber_9 (by decide) ?_
    refine q_istore_n (lv' := [(1, .int (0 : Int32)), (0, .ref (vA V 11 5))]) Cx dX3_readNumber_10 rfl hl (by decide) rfl (fun ls hl => ?_)
    refine q_iconst (v := (0 : Int32)) Cx dX3_readNumber_11 (by decide) ?_
    refine q_istore_n (lv' := [(2, .int (0 : Int32)), (1, .int (0 : Int32)), (0, .ref (vA V 11 5))]) Cx dX3_readNumber_12 rfl hl (by decide) rfl (fun ls hl => ?_)
    exact wX3_readNumber_13 Cx hret fu hW (lv_sub hl [2, 1, 0] rfl) hF
  · have hF := (if_pos c3).symm.trans hF
    refine q_iconst (v := (0 : Int32)) Cx dX3_readNumber_7 (by decide) ?_
    cases hF
    exact hret _ _ _ _ dX3_readNumber_8 (by rfl) hW
set_option maxRecDepth 100000 in
theorem kX3_readNumber {l : Launch} {V : VT} {M : Mem} {B : Blk} {r : Int32} {B' : Blk} (hF : FX3_readNumber B = some (r, B')) : MetI l V yX3_readNumber cX3_readNumber 3 .boolean ({ frames := 2, cells := 0, slots := 0, locals := 40 } : Room) [.ref (vA V 11 5)] r (jb M 11 B) (jb M 11 B') := metI_of (by decide) (Nat.le_of_ble_eq_true rfl) (fun E H0 _ Cx hret H locs ls hW hl => wX3_readNumber Cx hret hW hl hF)
theorem dX3_readTask_0 : decode cX3_readTask 0 = .ok (.aload_n 0, 1) := by decide +kernel
theorem dX3_readTask_1 : decode cX3_readTask 1 = .ok (.invokevirtual 49, 3) := by decide +kernel
theorem dX3_readTask_4 : decode cX3_readTask 4 = .ok (.bipush 51, 2) := by decide +kernel
theorem dX3_readTask_6 : decode cX3_readTask 6 = .ok (.if_icmp .gt 10, 3) := by decide +kernel
theorem dX3_readTask_9 : decode cX3_readTask 9 = .ok (.aload_n 0, 1) := by decide +kernel
theorem dX3_readTask_10 : decode cX3_readTask 10 = .ok (.invokevirtual 65, 3) := by decide +kernel
theorem dX3_readTask_13 : decode cX3_readTask 13 = .ok (.ifCond .ne 5, 3) := by decide +kernel
theorem dX3_readTask_16 : decode cX3_readTask 16 = .ok (.iconst 0, 1) := by decide +kernel
theorem dX3_readTask_17 : decode cX3_readTask 17 = .ok (.ireturn, 1) := by decide +kernel
theorem dX3_readTask_18 : decode cX3_readTask 18 = .ok (.aload_n 0, 1) := by decide +kernel
theorem dX3_readTask_19 : decode cX3_readTask 19 = .ok (.bipush 47, 2) := by decide +kernel
theorem dX3_readTask_21 : decode cX3_readTask 21 = .ok (.invokevirtual 42, 3) := by decide +kernel
theorem dX3_readTask_24 : decode cX3_readTask 24 = .ok (.ifCond .eq 46, 3) := by decide +kernel
theorem dX3_readTask_27 : decode cX3_readTask 27 = .ok (.aload_n 0, 1) := by decide +kernel
theorem dX3_readTask_28 : decode cX3_readTask 28 = .ok (.invokevirtual 62, 3) := by decide +kernel
theorem dX3_readTask_31 : decode cX3_readTask 31 = .ok (.ifCond .eq 39, 3) := by decide +kernel
theorem dX3_readTask_34 : decode cX3_readTask 34 = .ok (.aload_n 0, 1) := by decide +kernel
theorem dX3_readTask_35 : decode cX3_readTask 35 = .ok (.bipush 60, 2) := by decide +kernel
theorem dX3_readTask_37 : decode cX3_readTask 37 = .ok (.invokevirtual 42, 3) := by decide +kernel
theorem dX3_readTask_40 : decode cX3_readTask 40 = .ok (.ifCond .eq 30, 3) := by decide +kernel
theorem dX3_readTask_43 : decode cX3_readTask 43 = .ok (.aload_n 0, 1) := by decide +kernel
theorem dX3_readTask_44 : decode cX3_readTask 44 = .ok (.invokevirtual 62, 3) := by decide +kernel
theorem dX3_readTask_47 : decode cX3_readTask 47 = .ok (.ifCond .eq 23, 3) := by decide +kernel
theorem dX3_readTask_50 : decode cX3_readTask 50 = .ok (.aload_n 0, 1) := by decide +kernel
theorem dX3_readTask_51 : decode cX3_readTask 51 = .ok (.bipush 36, 2) := by decide +kernel
theorem dX3_readTask_53 : decode cX3_readTask 53 = .ok (.invokevirtual 42, 3) := by decide +kernel
theorem dX3_readTask_56 : decode cX3_readTask 56 = .ok (.ifCond .eq 14, 3) := by decide +kernel
theorem dX3_readTask_59 : decode cX3_readTask 59 = .ok (.aload_n 0, 1) := by decide +kernel
theorem dX3_readTask_60 : decode cX3_readTask 60 = .ok (.invokevirtual 62, 3) := by decide +kernel
theorem dX3_readTask_63 : decode cX3_readTask 63 = .ok (.ifCond .eq 7, 3) := by decide +kernel
theorem dX3_readTask_66 : decode cX3_readTask 66 = .ok (.iconst 1, 1) := by decide +kernel
theorem dX3_readTask_67 : decode cX3_readTask 67 = .ok (.goto 4, 3) := by decide +kernel
theorem dX3_readTask_70 : decode cX3_readTask 70 = .ok (.iconst 0, 1) := by decide +kernel
theorem dX3_readTask_71 : decode cX3_readTask 71 = .ok (.istore_n 1, 1) := by decide +kernel
theorem dX3_readTask_72 : decode cX3_readTask 72 = .ok (.iload_n 1, 1) := by decide +kernel
theorem dX3_readTask_73 : decode cX3_readTask 73 = .ok (.ifCond .eq 34, 3) := by decide +kernel
theorem dX3_readTask_76 : decode cX3_readTask 76 = .ok (.aload_n 0, 1) := by decide +kernel
theorem dX3_readTask_77 : decode cX3_readTask 77 = .ok (.invokevirtual 49, 3) := by decide +kernel
theorem dX3_readTask_80 : decode cX3_readTask 80 = .ok (.bipush 94, 2) := by decide +kernel
theorem dX3_readTask_82 : decode cX3_readTask 82 = .ok (.if_icmp .ne 25, 3) := by decide +kernel
theorem dX3_readTask_85 : decode cX3_readTask 85 = .ok (.aload_n 0, 1) := by decide +kernel
theorem dX3_readTask_86 : decode cX3_readTask 86 = .ok (.bipush 94, 2) := by decide +kernel
theorem dX3_readTask_88 : decode cX3_readTask 88 = .ok (.invokevirtual 42, 3) := by decide +kernel
theorem dX3_readTask_91 : decode cX3_readTask 91 = .ok (.ifCond .eq 14, 3) := by decide +kernel
theorem dX3_readTask_94 : decode cX3_readTask 94 = .ok (.aload_n 0, 1) := by decide +kernel
theorem dX3_readTask_95 : decode cX3_readTask 95 = .ok (.invokevirtual 62, 3) := by decide +kernel
theorem dX3_readTask_98 : decode cX3_readTask 98 = .ok (.ifCond .eq 7, 3) := by decide +kernel
theorem dX3_readTask_101 : decode cX3_readTask 101 = .ok (.iconst 1, 1) := by decide +kernel
theorem dX3_readTask_102 : decode cX3_readTask 102 = .ok (.goto 4, 3) := by decide +kernel
theorem dX3_readTask_105 : decode cX3_readTask 105 = .ok (.iconst 0, 1) := by decide +kernel
theorem dX3_readTask_106 : decode cX3_readTask 106 = .ok (.ireturn, 1) := by decide +kernel
theorem dX3_readTask_107 : decode cX3_readTask 107 = .ok (.iload_n 1, 1) := by decide +kernel
theorem dX3_readTask_108 : decode cX3_readTask 108 = .ok (.ifCond .eq 16, 3) := by decide +kernel
theorem dX3_readTask_111 : decode cX3_readTask 111 = .ok (.aload_n 0, 1) := by decide +kernel
theorem dX3_readTask_112 : decode cX3_readTask 112 = .ok (.bipush (-6), 2) := by decide +kernel
theorem dX3_readTask_114 : decode cX3_readTask 114 = .ok (.invokevirtual 68, 3) := by decide +kernel
theorem dX3_readTask_117 : decode cX3_readTask 117 = .ok (.ifCond .eq 7, 3) := by decide +kernel
theorem dX3_readTask_120 : decode cX3_readTask 120 = .ok (.iconst 1, 1) := by decide +kernel
theorem dX3_readTask_121 : decode cX3_readTask 121 = .ok (.goto 4, 3) := by decide +kernel
theorem dX3_readTask_124 : decode cX3_readTask 124 = .ok (.iconst 0, 1) := by decide +kernel
theorem dX3_readTask_125 : decode cX3_readTask 125 = .ok (.ireturn, 1) := by decide +kernel
theorem okX3_readTask : CalOK yX3_readTask cX3_readTask 2 (some .boolean) 0 := ⟨wd_72, wd_657, by decide +kernel⟩
theorem ovX3_readTask : VirOK yX3_readTask := ⟨wd_656, wd_17⟩
def FX3_readTask_107 (l1 : Int32) (B : Blk) : Option (Int32 × Blk) :=
  if l1 = 0 then
    some ((0 : Int32), B)
  else
    c2 (FX3_keep B (-6 : Int32)) fun r14 B16 =>
    if r14 = 0 then
      some ((0 : Int32), B16)
    else
      some ((1 : Int32), B16)
set_option maxRecDepth 100000 in
set_option maxHeartbeats 4000000 in
theorem wX3_readTask_107 {E : WE} {V : VT} {A : Nat → Prop} {H0 : Heap} {M : Mem} (Cx : CX E RX3 cX3_readTask 2 3 62) {r : Int32} {B' : Blk} (hret : RetI E V A H0 cX3_readTask .boolean r (jb M 11 B')) {H : Heap} {locs : List Loc} {ls : Array Slot} {l1 : Int32} {B : Blk} (hW : Wd V A H0 (jb M 11 B) (eS E) H locs) (hl : lv_has ls 2 [(0, .ref (vA V 11 5)), (1, .int l1)]) (hF : FX3_readTask_107 l1 B = some (r, B')) : Wq E H locs 107 ls [] := by
  unfold FX3_readTask_107 at hF
  refine q_iload_n Cx dX3_readTask_107 rfl (lv_at hl 1 rfl) ?_
  refine q_if_eq (tgt := 124) Cx dX3_readTask_108 (by decide) (fun c13 => ?_) (fun c13 => ?_)
  · have hF := (if_pos c13).symm.trans hF
    refine q_iconst (v := (0 : Int32)) Cx dX3_readTask_124 (by decide) ?_
    cases hF
    exact hret _ _ _ _ dX3_readTask_125 (by rfl) hW
  · have hF := (if_neg c13).symm.trans hF
    refine q_aload_n Cx dX3_readTask_111 rfl (lv_at hl 0 rfl) ?_
    refine q_bipush (v := (-6 : Int32)) Cx dX3_readTask_112 (by decide) ?_
    obtain ⟨r14, B16, e15, hF⟩ := c2_some hF
    refine q_callI (as := [.int (-6 : Int32)]) (rest := []) Cx (kX3_keep e15) okX3_keep ovX3_keep wd_666 ⟨rfl, rfl, by decide, by decide⟩ hW oQ ic3 rfl hl.1 (Nat.le_of_ble_eq_true rfl) rfl dX3_readTask_114 (fun H locs hW => ?_)
    refine q_if_eq (tgt := 124) Cx dX3_readTask_117 (by decide) (fun c17 => ?_) (fun c17 => ?_)
    · have hF := (if_pos c17).symm.trans hF
      refine q_iconst (v := (0 : Int32)) Cx dX3_readTask_124 (by decide) ?_
      cases hF
      exact hret _ _ _ _ dX3_readTask_125 (by rfl) hW
    · have hF := (if_neg c17).symm.trans hF
      refine q_iconst (v := (1 : Int32)) Cx dX3_readTask_120 (by decide) ?_
      refine q_goto (tgt := 125) Cx dX3_readTask_121 (by decide) ?_
      cases hF
      exact hret _ _ _ _ dX3_readTask_125 (by rfl) hW
def FX3_readTask_71 (s0 : Int32) (B : Blk) : Option (Int32 × Blk) :=
  if s0 = 0 then
    FX3_readTask_107 s0 B
  else
    c1 (FX3_here B) fun r18 =>
    if r18 = (94 : Int32) then
      c2 (FX3_readSign B (94 : Int32)) fun r21 B23 =>
      if r21 = 0 then
        some ((0 : Int32), B23)
      else
        c2 (FX3_readNumber B23) fun r25 B27 =>
        if r25 = 0 then
          some ((0 : Int32), B27)
        else
          some ((1 : Int32), B27)
    else
      FX3_readTask_107 s0 B
set_option maxRecDepth 100000 in
set_option maxHeartbeats 4000000 in
theorem wX3_readTask_71 {E : WE} {V : VT} {A : Nat → Prop} {H0 : Heap} {M : Mem} (Cx : CX E RX3 cX3_readTask 2 3 62) {r : Int32} {B' : Blk} (hret : RetI E V A H0 cX3_readTask .boolean r (jb M 11 B')) {H : Heap} {locs : List Loc} {ls : Array Slot} {s0 : Int32} {B : Blk} (hW : Wd V A H0 (jb M 11 B) (eS E) H locs) (hl : lv_has ls 2 [(0, .ref (vA V 11 5))]) (hF : FX3_readTask_71 s0 B = some (r, B')) : Wq E H locs 71 ls [.int s0] := by
  unfold FX3_readTask_71 at hF
  refine q_istore_n (lv' := [(1, .int s0), (0, .ref (vA V 11 5))]) Cx dX3_readTask_71 rfl hl (by decide) rfl (fun ls hl => ?_)
  refine q_iload_n Cx dX3_readTask_72 rfl (lv_at hl 0 rfl) ?_
  refine q_if_eq (tgt := 107) Cx dX3_readTask_73 (by decide) (fun c12 => ?_) (fun c12 => ?_)
  · have hF := (if_pos c12).symm.trans hF
    exact wX3_readTask_107 Cx hret hW (lv_sub hl [1, 0] rfl) hF
  · have hF := (if_neg c12).symm.trans hF
    refine q_aload_n Cx dX3_readTask_76 rfl (lv_at hl 1 rfl) ?_
    obtain ⟨r18, e19, hF⟩ := c1_some hF
    refine q_callI (as := []) (rest := []) Cx (kX3_here e19) okX3_here ovX3_here wd_646 ⟨rfl, rfl, by decide, by decide⟩ hW oQ ic3 rfl hl.1 (Nat.le_of_ble_eq_true rfl) rfl dX3_readTask_77 (fun H locs hW => ?_)
    refine q_bipush (v := (94 : Int32)) Cx dX3_readTask_80 (by decide) ?_
    refine q_icmp_ne (tgt := 107) Cx dX3_readTask_82 (by decide) (fun c20 => ?_) (fun c20 => ?_)
    · have hF := (if_neg c20).symm.trans hF
      exact wX3_readTask_107 Cx hret hW (lv_sub hl [1, 0] rfl) hF
    · have hF := (if_pos c20).symm.trans hF
      refine q_aload_n Cx dX3_readTask_85 rfl (lv_at hl 1 rfl) ?_
      refine q_bipush (v := (94 : Int32)) Cx dX3_readTask_86 (by decide) ?_
      obtain ⟨r21, B23, e22, hF⟩ := c2_some hF
      refine q_callI (as := [.int (94 : Int32)]) (rest := []) Cx (kX3_readSign e22) okX3_readSign ovX3_readSign wd_650 ⟨rfl, rfl, by decide, by decide⟩ hW oQ ic3 rfl hl.1 (Nat.le_of_ble_eq_true rfl) rfl dX3_readTask_88 (fun H locs hW => ?_)
      refine q_if_eq (tgt := 105) Cx dX3_readTask_91 (by decide) (fun c24 => ?_) (fun c24 => ?_)
      · have hF := (if_pos c24).symm.trans hF
        refine q_iconst (v := (0 : Int32)) Cx dX3_readTask_105 (by decide) ?_
        cases hF
        exact hret _ _ _ _ dX3_readTask_106 (by rfl) hW
      · have hF := (if_neg c24).symm.trans hF
        refine q_aload_n Cx dX3_readTask_94 rfl (lv_at hl 1 rfl) ?_
        obtain ⟨r25, B27, e26, hF⟩ := c2_some hF
        refine q_callI (as := []) (rest := []) Cx (kX3_readNumber e26) okX3_readNumber ovX3_readNumber wd_670 ⟨rfl, rfl, by decide, by decide⟩ hW oQ ic3 rfl hl.1 (Nat.le_of_ble_eq_true rfl) rfl dX3_readTask_95 (fun H locs hW => ?_)
        refine q_if_eq (tgt := 105) Cx dX3_readTask_98 (by decide) (fun c28 => ?_) (fun c28 => ?_)
        · have hF := (if_pos c28).symm.trans hF
          refine q_iconst (v := (0 : Int32)) Cx dX3_readTask_105 (by decide) ?_
          cases hF
          exact hret _ _ _ _ dX3_readTask_106 (by rfl) hW
        · have hF := (if_neg c28).symm.trans hF
          refine q_iconst (v := (1 : Int32)) Cx dX3_readTask_101 (by decide) ?_
          refine q_goto (tgt := 106) Cx dX3_readTask_102 (by decide) ?_
          cases hF
          exact hret _ _ _ _ dX3_readTask_106 (by rfl) hW
def FX3_readTask_70 (B : Blk) : Option (Int32 × Blk) :=
  FX3_readTask_71 (0 : Int32) B
set_option maxRecDepth 100000 in
set_option maxHeartbeats 4000000 in
theorem wX3_readTask_70 {E : WE} {V : VT} {A : Nat → Prop} {H0 : Heap} {M : Mem} (Cx : CX E RX3 cX3_readTask 2 3 62) {r : Int32} {B' : Blk} (hret : RetI E V A H0 cX3_readTask .boolean r (jb M 11 B')) {H : Heap} {locs : List Loc} {ls : Array Slot} {B : Blk} (hW : Wd V A H0 (jb M 11 B) (eS E) H locs) (hl : lv_has ls 2 [(0, .ref (vA V 11 5))]) (hF : FX3_readTask_70 B = some (r, B')) : Wq E H locs 70 ls [] := by
  unfold FX3_readTask_70 at hF
  refine q_iconst (v := (0 : Int32)) Cx dX3_readTask_70 (by decide) ?_
  exact wX3_readTask_71 Cx hret hW (lv_sub hl [0] rfl) hF
def FX3_readTask (B : Blk) : Option (Int32 × Blk) :=
  c1 (FX3_here B) fun r1 =>
  if (51 : Int32) < r1 then
    some ((0 : Int32), B)
  else
    c2 (FX3_readDigit B) fun r4 B6 =>
    if r4 = 0 then
      some ((0 : Int32), B6)
    else
      c2 (FX3_readSign B6 (47 : Int32)) fun r8 B10 =>
      if r8 = 0 then
        FX3_readTask_70 B10
      else
        c2 (FX3_readNumber B10) fun r29 B31 =>
        if r29 = 0 then
          FX3_readTask_70 B31
        else
          c2 (FX3_readSign B31 (60 : Int32)) fun r33 B35 =>
          if r33 = 0 then
            FX3_readTask_70 B35
          else
            c2 (FX3_readNumber B35) fun r37 B39 =>
            if r37 = 0 then
              FX3_readTask_70 B39
            else
              c2 (FX3_readSign B39 (36 : Int32)) fun r41 B43 =>
              if r41 = 0 then
                FX3_readTask_70 B43
              else
                c2 (FX3_readNumber B43) fun r45 B47 =>
                if r45 = 0 then
                  FX3_readTask_70 B47
                else
                  FX3_readTask_71 (1 : Int32) B47
set_option maxRecDepth 100000 in
set_option maxHeartbeats 4000000 in
theorem wX3_readTask {E : WE} {V : VT} {A : Nat → Prop} {H0 : Heap} {M : Mem} (Cx : CX E RX3 cX3_readTask 2 3 62) {r : Int32} {B' : Blk} (hret : RetI E V A H0 cX3_readTask .boolean r (jb M 11 B')) {H : Heap} {locs : List Loc} {ls : Array Slot} {B : Blk} (hW : Wd V A H0 (jb M 11 B) (eS E) H locs) (hl : lv_has ls 2 [(0, .ref (vA V 11 5))]) (hF : FX3_readTask B = some (r, B')) : Wq E H locs 0 ls [] := by
  unfold FX3_readTask at hF
  refine q_aload_n Cx dX3_readTask_0 rfl (lv_at hl 0 rfl) ?_
  obtain ⟨r1, e2, hF⟩ := c1_some hF
  refine q_callI (as := []) (rest := []) Cx (kX3_here e2) okX3_here ovX3_here wd_646 ⟨rfl, rfl, by decide, by decide⟩ hW oQ ic3 rfl hl.1 (Nat.le_of_ble_eq_true rfl) rfl dX3_readTask_1 (fun H locs hW => ?_)
  refine q_bipush (v := (51 : Int32)) Cx dX3_readTask_4 (by decide) ?_
  refine q_icmp_gt (tgt := 16) Cx dX3_readTask_6 (by decide) (fun c3 => ?_) (fun c3 => ?_)
  · have hF := (if_pos c3).symm.trans hF
    refine q_iconst (v := (0 : Int32)) Cx dX3_readTask_16 (by decide) ?_
    cases hF
    exact hret _ _ _ _ dX3_readTask_17 (by rfl) hW
  · have hF := (if_neg c3).symm.trans hF
    refine q_aload_n Cx dX3_readTask_9 rfl (lv_at hl 0 rfl) ?_
    obtain ⟨r4, B6, e5, hF⟩ := c2_some hF
    refine q_callI (as := []) (rest := []) Cx (kX3_readDigit e5) okX3_readDigit ovX3_readDigit wd_658 ⟨rfl, rfl, by decide, by decide⟩ hW oQ ic3 rfl hl.1 (Nat.le_of_ble_eq_true rfl) rfl dX3_readTask_10 (fun H locs hW => ?_)
    refine q_if_ne (tgt := 18) Cx dX3_readTask_13 (by decide) (fun c7 => ?_) (fun c7 => ?_)
    · have hF := (if_neg c7).symm.trans hF
      refine q_aload_n Cx dX3_readTask_18 rfl (lv_at hl 0 rfl) ?_
      refine q_bipush (v := (47 : Int32)) Cx dX3_readTask_19 (by decide) ?_
      obtain ⟨r8, B10, e9, hF⟩ := c2_some hF
      refine q_callI (as := [.int (47 : Int32)]) (rest := []) Cx (kX3_readSign e9) okX3_readSign ovX3_readSign wd_650 ⟨rfl, rfl, by decide, by decide⟩ hW oQ ic3 rfl hl.1 (Nat.le_of_ble_eq_true rfl) rfl dX3_readTask_21 (fun H locs hW => ?_)
      refine q_if_eq (tgt := 70) Cx dX3_readTask_24 (by decide) (fun c11 => ?_) (fun c11 => ?_)
      · have hF := (if_pos c11).symm.trans hF
        exact wX3_readTask_70 Cx hret hW (lv_sub hl [0] rfl) hF
      · have hF := (if_neg c11).symm.trans hF
        refine q_aload_n Cx dX3_readTask_27 rfl (lv_at hl 0 rfl) ?_
        obtain ⟨r29, B31, e30, hF⟩ := c2_some hF
        refine q_callI (as := []) (rest := []) Cx (kX3_readNumber e30) okX3_readNumber ovX3_readNumber wd_670 ⟨rfl, rfl, by decide, by decide⟩ hW oQ ic3 rfl hl.1 (Nat.le_of_ble_eq_true rfl) rfl dX3_readTask_28 (fun H locs hW => ?_)
        refine q_if_eq (tgt := 70) Cx dX3_readTask_31 (by decide) (fun c32 => ?_) (fun c32 => ?_)
        · have hF := (if_pos c32).symm.trans hF
          exact wX3_readTask_70 Cx hret hW (lv_sub hl [0] rfl) hF
        · have hF := (if_neg c32).symm.trans hF
          refine q_aload_n Cx dX3_readTask_34 rfl (lv_at hl 0 rfl) ?_
          refine q_bipush (v := (60 : Int32)) Cx dX3_readTask_35 (by decide) ?_
          obtain ⟨r33, B35, e34, hF⟩ := c2_some hF
          refine q_callI (as := [.int (60 : Int32)]) (rest := []) Cx (kX3_readSign e34) okX3_readSign ovX3_readSign wd_650 ⟨rfl, rfl, by decide, by decide⟩ hW oQ ic3 rfl hl.1 (Nat.le_of_ble_eq_true rfl) rfl dX3_readTask_37 (fun H locs hW => ?_)
          refine q_if_eq (tgt := 70) Cx dX3_readTask_40 (by decide) (fun c36 => ?_) (fun c36 => ?_)
          · have hF := (if_pos c36).symm.trans hF
            exact wX3_readTask_70 Cx hret hW (lv_sub hl [0] rfl) hF
          · have hF := (if_neg c36).symm.trans hF
            refine q_aload_n Cx dX3_readTask_43 rfl (lv_at hl 0 rfl) ?_
            obtain ⟨r37, B39, e38, hF⟩ := c2_some hF
            refine q_callI (as := []) (rest := []) Cx (kX3_readNumber e38) okX3_readNumber ovX3_readNumber wd_670 ⟨rfl, rfl, by decide, by decide⟩ hW oQ ic3 rfl hl.1 (Nat.le_of_ble_eq_true rfl) rfl dX3_readTask_44 (fun H locs hW => ?_)
            refine q_if_eq (tgt := 70) Cx dX3_readTask_47 (by decide) (fun c40 => ?_) (fun c40 => ?_)
            · have hF := (if_pos c40).symm.trans hF
              exact wX3_readTask_70 Cx hret hW (lv_sub hl [0] rfl) hF
            · have hF := (if_neg c40).symm.trans hF
              refine q_aload_n Cx dX3_readTask_50 rfl (lv_at hl 0 rfl) ?_
              refine q_bipush (v := (36 : Int32)) Cx dX3_readTask_51 (by decide) ?_
              obtain ⟨r41, B43, e42, hF⟩ := c2_some hF
              refine q_callI (as := [.int (36 : Int32)]) (rest := []) Cx (kX3_readSign e42) okX3_readSign ovX3_readSign wd_650 ⟨rfl, rfl, by decide, by decide⟩ hW oQ ic3 rfl hl.1 (Nat.le_of_ble_eq_true rfl) rfl dX3_readTask_53 (fun H locs hW => ?_)
              refine q_if_eq (tgt := 70) Cx dX3_readTask_56 (by decide) (fun c44 => ?_) (fun c44 => ?_)
              · have hF := (if_pos c44).symm.trans hF
                exact wX3_readTask_70 Cx hret hW (lv_sub hl [0] rfl) hF
              · have hF := (if_neg c44).symm.trans hF
                refine q_aload_n Cx dX3_readTask_59 rfl (lv_at hl 0 rfl) ?_
                obtain ⟨r45, B47, e46, hF⟩ := c2_some hF
                refine q_callI (as := []) (rest := []) Cx (kX3_readNumber e46) okX3_readNumber ovX3_readNumber wd_670 ⟨rfl, rfl, by decide, by decide⟩ hW oQ ic3 rfl hl.1 (Nat.le_of_ble_eq_true rfl) rfl dX3_readTask_60 (fun H locs hW => ?_)
                refine q_if_eq (tgt := 70) Cx dX3_readTask_63 (by decide) (fun c48 => ?_) (fun c48 => ?_)
                · have hF := (if_pos c48).symm.trans hF
                  exact wX3_readTask_70 Cx hret hW (lv_sub hl [0] rfl) hF
                · have hF := (if_neg c48).symm.trans hF
                  refine q_iconst (v := (1 : Int32)) Cx dX3_readTask_66 (by decide) ?_
                  refine q_goto (tgt := 71) Cx dX3_readTask_67 (by decide) ?_
                  exact wX3_readTask_71 Cx hret hW (lv_sub hl [0] rfl) hF
    · have hF := (if_pos c7).symm.trans hF
      refine q_iconst (v := (0 : Int32)) Cx dX3_readTask_16 (by decide) ?_
      cases hF
      exact hret _ _ _ _ dX3_readTask_17 (by rfl) hW
set_option maxRecDepth 100000 in
theorem kX3_readTask {l : Launch} {V : VT} {M : Mem} {B : Blk} {r : Int32} {B' : Blk} (hF : FX3_readTask B = some (r, B')) : MetI l V yX3_readTask cX3_readTask 2 .boolean ({ frames := 3, cells := 0, slots := 0, locals := 62 } : Room) [.ref (vA V 11 5)] r (jb M 11 B) (jb M 11 B') := metI_of (by decide) (Nat.le_of_ble_eq_true rfl) (fun E H0 _ Cx hret H locs ls hW hl => wX3_readTask Cx hret hW hl hF)
theorem dX3_readPair_0 : decode cX3_readPair 0 = .ok (.aload_n 0, 1) := by decide +kernel
theorem dX3_readPair_1 : decode cX3_readPair 1 = .ok (.invokevirtual 62, 3) := by decide +kernel
theorem dX3_readPair_4 : decode cX3_readPair 4 = .ok (.ifCond .eq 22, 3) := by decide +kernel
theorem dX3_readPair_7 : decode cX3_readPair 7 = .ok (.aload_n 0, 1) := by decide +kernel
theorem dX3_readPair_8 : decode cX3_readPair 8 = .ok (.iload_n 1, 1) := by decide +kernel
theorem dX3_readPair_9 : decode cX3_readPair 9 = .ok (.invokevirtual 42, 3) := by decide +kernel
theorem dX3_readPair_12 : decode cX3_readPair 12 = .ok (.ifCond .eq 14, 3) := by decide +kernel
theorem dX3_readPair_15 : decode cX3_readPair 15 = .ok (.aload_n 0, 1) := by decide +kernel
theorem dX3_readPair_16 : decode cX3_readPair 16 = .ok (.invokevirtual 62, 3) := by decide +kernel
theorem dX3_readPair_19 : decode cX3_readPair 19 = .ok (.ifCond .eq 7, 3) := by decide +kernel
theorem dX3_readPair_22 : decode cX3_readPair 22 = .ok (.iconst 1, 1) := by decide +kernel
theorem dX3_readPair_23 : decode cX3_readPair 23 = .ok (.goto 4, 3) := by decide +kernel
theorem dX3_readPair_26 : decode cX3_readPair 26 = .ok (.iconst 0, 1) := by decide +kernel
theorem dX3_readPair_27 : decode cX3_readPair 27 = .ok (.ireturn, 1) := by decide +kernel
theorem okX3_readPair : CalOK yX3_readPair cX3_readPair 2 (some .boolean) 1 := ⟨wd_72, wd_677, by decide +kernel⟩
theorem ovX3_readPair : VirOK yX3_readPair := ⟨wd_676, wd_22⟩
def FX3_readPair (B : Blk) (l1 : Int32) : Option (Int32 × Blk) :=
  c2 (FX3_readNumber B) fun r1 B3 =>
  if r1 = 0 then
    some ((0 : Int32), B3)
  else
    c2 (FX3_readSign B3 l1) fun r5 B7 =>
    if r5 = 0 then
      some ((0 : Int32), B7)
    else
      c2 (FX3_readNumber B7) fun r9 B11 =>
      if r9 = 0 then
        some ((0 : Int32), B11)
      else
        some ((1 : Int32), B11)
set_option maxRecDepth 100000 in
set_option maxHeartbeats 4000000 in
theorem wX3_readPair {E : WE} {V : VT} {A : Nat → Prop} {H0 : Heap} {M : Mem} (Cx : CX E RX3 cX3_readPair 2 3 62) {r : Int32} {B' : Blk} (hret : RetI E V A H0 cX3_readPair .boolean r (jb M 11 B')) {H : Heap} {locs : List Loc} {ls : Array Slot} {l1 : Int32} {B : Blk} (hW : Wd V A H0 (jb M 11 B) (eS E) H locs) (hl : lv_has ls 2 [(0, .ref (vA V 11 5)), (1, .int l1)]) (hF : FX3_readPair B l1 = some (r, B')) : Wq E H locs 0 ls [] := by
  unfold FX3_readPair at hF
  refine q_aload_n Cx dX3_readPair_0 rfl (lv_at hl 0 rfl) ?_
  obtain ⟨r1, B3, e2, hF⟩ := c2_some hF
  refine q_callI (as := []) (rest := []) Cx (kX3_readNumber e2) okX3_readNumber ovX3_readNumber wd_670 ⟨rfl, rfl, by decide, by decide⟩ hW oQ ic3 rfl hl.1 (Nat.le_of_ble_eq_true rfl) rfl dX3_readPair_1 (fun H locs hW => ?_)
  refine q_if_eq (tgt := 26) Cx dX3_readPair_4 (by decide) (fun c4 => ?_) (fun c4 => ?_)
  · have hF := (if_pos c4).symm.trans hF
    refine q_iconst (v := (0 : Int32)) Cx dX3_readPair_26 (by decide) ?_
    cases hF
    exact hret _ _ _ _ dX3_readPair_27 (by rfl) hW
  · have hF := (if_neg c4).symm.trans hF
    refine q_aload_n Cx dX3_readPair_7 rfl (lv_at hl 0 rfl) ?_
    refine q_iload_n Cx dX3_readPair_8 rfl (lv_at hl 1 rfl) ?_
    obtain ⟨r5, B7, e6, hF⟩ := c2_some hF
    refine q_callI (as := [.int l1]) (rest := []) Cx (kX3_readSign e6) okX3_readSign ovX3_readSign wd_650 ⟨rfl, rfl, by decide, by decide⟩ hW oQ ic3 rfl hl.1 (Nat.le_of_ble_eq_true rfl) rfl dX3_readPair_9 (fun H locs hW => ?_)
    refine q_if_eq (tgt := 26) Cx dX3_readPair_12 (by decide) (fun c8 => ?_) (fun c8 => ?_)
    · have hF := (if_pos c8).symm.trans hF
      refine q_iconst (v := (0 : Int32)) Cx dX3_readPair_26 (by decide) ?_
      cases hF
      exact hret _ _ _ _ dX3_readPair_27 (by rfl) hW
    · have hF := (if_neg c8).symm.trans hF
      refine q_aload_n Cx dX3_readPair_15 rfl (lv_at hl 0 rfl) ?_
      obtain ⟨r9, B11, e10, hF⟩ := c2_some hF
      refine q_callI (as := []) (rest := []) Cx (kX3_readNumber e10) okX3_readNumber ovX3_readNumber wd_670 ⟨rfl, rfl, by decide, by decide⟩ hW oQ ic3 rfl hl.1 (Nat.le_of_ble_eq_true rfl) rfl dX3_readPair_16 (fun H locs hW => ?_)
      refine q_if_eq (tgt := 26) Cx dX3_readPair_19 (by decide) (fun c12 => ?_) (fun c12 => ?_)
      · have hF := (if_pos c12).symm.trans hF
        refine q_iconst (v := (0 : Int32)) Cx dX3_readPair_26 (by decide) ?_
        cases hF
        exact hret _ _ _ _ dX3_readPair_27 (by rfl) hW
      · have hF := (if_neg c12).symm.trans hF
        refine q_iconst (v := (1 : Int32)) Cx dX3_readPair_22 (by decide) ?_
        refine q_goto (tgt := 27) Cx dX3_readPair_23 (by decide) ?_
        cases hF
        exact hret _ _ _ _ dX3_readPair_27 (by rfl) hW
set_option maxRecDepth 100000 in
theorem kX3_readPair {l : Launch} {V : VT} {M : Mem} {B : Blk} {l1 : Int32} {r : Int32} {B' : Blk} (hF : FX3_readPair B l1 = some (r, B')) : MetI l V yX3_readPair cX3_readPair 2 .boolean ({ frames := 3, cells := 0, slots := 0, locals := 62 } : Room) [.ref (vA V 11 5), .int l1] r (jb M 11 B) (jb M 11 B') := metI_of (by decide) (Nat.le_of_ble_eq_true rfl) (fun E H0 _ Cx hret H locs ls hW hl => wX3_readPair Cx hret hW hl hF)
theorem dX3_readOrder_0 : decode cX3_readOrder 0 = .ok (.aload_n 0, 1) := by decide +kernel
theorem dX3_readOrder_1 : decode cX3_readOrder 1 = .ok (.iconst 0, 1) := by decide +kernel
theorem dX3_readOrder_2 : decode cX3_readOrder 2 = .ok (.putfield 46, 3) := by decide +kernel
theorem dX3_readOrder_5 : decode cX3_readOrder 5 = .ok (.aload_n 0, 1) := by decide +kernel
theorem dX3_readOrder_6 : decode cX3_readOrder 6 = .ok (.aload_n 0, 1) := by decide +kernel
theorem dX3_readOrder_7 : decode cX3_readOrder 7 = .ok (.invokevirtual 49, 3) := by decide +kernel
theorem dX3_readOrder_10 : decode cX3_readOrder 10 = .ok (.putfield 53, 3) := by decide +kernel
theorem dX3_readOrder_13 : decode cX3_readOrder 13 = .ok (.aload_n 0, 1) := by decide +kernel
theorem dX3_readOrder_14 : decode cX3_readOrder 14 = .ok (.getfield 53, 3) := by decide +kernel
theorem dX3_readOrder_17 : decode cX3_readOrder 17 = .ok (.lookupswitch 185 #[(100, 73), (109, 137), (111, 97), (114, 161), (116, 51)], 51) := by decide +kernel
theorem dX3_readOrder_68 : decode cX3_readOrder 68 = .ok (.aload_n 0, 1) := by decide +kernel
theorem dX3_readOrder_69 : decode cX3_readOrder 69 = .ok (.bipush 116, 2) := by decide +kernel
theorem dX3_readOrder_71 : decode cX3_readOrder 71 = .ok (.invokevirtual 42, 3) := by decide +kernel
theorem dX3_readOrder_74 : decode cX3_readOrder 74 = .ok (.ifCond .eq 14, 3) := by decide +kernel
theorem dX3_readOrder_77 : decode cX3_readOrder 77 = .ok (.aload_n 0, 1) := by decide +kernel
theorem dX3_readOrder_78 : decode cX3_readOrder 78 = .ok (.invokevirtual 56, 3) := by decide +kernel
theorem dX3_readOrder_81 : decode cX3_readOrder 81 = .ok (.ifCond .eq 7, 3) := by decide +kernel
theorem dX3_readOrder_84 : decode cX3_readOrder 84 = .ok (.iconst 1, 1) := by decide +kernel
theorem dX3_readOrder_85 : decode cX3_readOrder 85 = .ok (.goto 4, 3) := by decide +kernel
theorem dX3_readOrder_88 : decode cX3_readOrder 88 = .ok (.iconst 0, 1) := by decide +kernel
theorem dX3_readOrder_89 : decode cX3_readOrder 89 = .ok (.ireturn, 1) := by decide +kernel
theorem dX3_readOrder_90 : decode cX3_readOrder 90 = .ok (.aload_n 0, 1) := by decide +kernel
theorem dX3_readOrder_91 : decode cX3_readOrder 91 = .ok (.bipush 100, 2) := by decide +kernel
theorem dX3_readOrder_93 : decode cX3_readOrder 93 = .ok (.invokevirtual 42, 3) := by decide +kernel
theorem dX3_readOrder_96 : decode cX3_readOrder 96 = .ok (.ifCond .eq 16, 3) := by decide +kernel
theorem dX3_readOrder_99 : decode cX3_readOrder 99 = .ok (.aload_n 0, 1) := by decide +kernel
theorem dX3_readOrder_100 : decode cX3_readOrder 100 = .ok (.bipush 61, 2) := by decide +kernel
theorem dX3_readOrder_102 : decode cX3_readOrder 102 = .ok (.invokevirtual 59, 3) := by decide +kernel
theorem dX3_readOrder_105 : decode cX3_readOrder 105 = .ok (.ifCond .eq 7, 3) := by decide +kernel
theorem dX3_readOrder_108 : decode cX3_readOrder 108 = .ok (.iconst 1, 1) := by decide +kernel
theorem dX3_readOrder_109 : decode cX3_readOrder 109 = .ok (.goto 4, 3) := by decide +kernel
theorem dX3_readOrder_112 : decode cX3_readOrder 112 = .ok (.iconst 0, 1) := by decide +kernel
theorem dX3_readOrder_113 : decode cX3_readOrder 113 = .ok (.ireturn, 1) := by decide +kernel
theorem dX3_readOrder_114 : decode cX3_readOrder 114 = .ok (.aload_n 0, 1) := by decide +kernel
theorem dX3_readOrder_115 : decode cX3_readOrder 115 = .ok (.bipush 111, 2) := by decide +kernel
theorem dX3_readOrder_117 : decode cX3_readOrder 117 = .ok (.invokevirtual 42, 3) := by decide +kernel
theorem dX3_readOrder_120 : decode cX3_readOrder 120 = .ok (.ifCond .eq 32, 3) := by decide +kernel
theorem dX3_readOrder_123 : decode cX3_readOrder 123 = .ok (.aload_n 0, 1) := by decide +kernel
theorem dX3_readOrder_124 : decode cX3_readOrder 124 = .ok (.bipush 42, 2) := by decide +kernel
theorem dX3_readOrder_126 : decode cX3_readOrder 126 = .ok (.invokevirtual 59, 3) := by decide +kernel
theorem dX3_readOrder_129 : decode cX3_readOrder 129 = .ok (.ifCond .eq 23, 3) := by decide +kernel
theorem dX3_readOrder_132 : decode cX3_readOrder 132 = .ok (.aload_n 0, 1) := by decide +kernel
theorem dX3_readOrder_133 : decode cX3_readOrder 133 = .ok (.bipush 64, 2) := by decide +kernel
theorem dX3_readOrder_135 : decode cX3_readOrder 135 = .ok (.invokevirtual 42, 3) := by decide +kernel
theorem dX3_readOrder_138 : decode cX3_readOrder 138 = .ok (.ifCond .eq 14, 3) := by decide +kernel
theorem dX3_readOrder_141 : decode cX3_readOrder 141 = .ok (.aload_n 0, 1) := by decide +kernel
theorem dX3_readOrder_142 : decode cX3_readOrder 142 = .ok (.invokevirtual 62, 3) := by decide +kernel
theorem dX3_readOrder_145 : decode cX3_readOrder 145 = .ok (.ifCond .eq 7, 3) := by decide +kernel
theorem dX3_readOrder_148 : decode cX3_readOrder 148 = .ok (.iconst 1, 1) := by decide +kernel
theorem dX3_readOrder_149 : decode cX3_readOrder 149 = .ok (.goto 4, 3) := by decide +kernel
theorem dX3_readOrder_152 : decode cX3_readOrder 152 = .ok (.iconst 0, 1) := by decide +kernel
theorem dX3_readOrder_153 : decode cX3_readOrder 153 = .ok (.ireturn, 1) := by decide +kernel
theorem dX3_readOrder_154 : decode cX3_readOrder 154 = .ok (.aload_n 0, 1) := by decide +kernel
theorem dX3_readOrder_155 : decode cX3_readOrder 155 = .ok (.bipush 109, 2) := by decide +kernel
theorem dX3_readOrder_157 : decode cX3_readOrder 157 = .ok (.invokevirtual 42, 3) := by decide +kernel
theorem dX3_readOrder_160 : decode cX3_readOrder 160 = .ok (.ifCond .eq 16, 3) := by decide +kernel
theorem dX3_readOrder_163 : decode cX3_readOrder 163 = .ok (.aload_n 0, 1) := by decide +kernel
theorem dX3_readOrder_164 : decode cX3_readOrder 164 = .ok (.bipush 58, 2) := by decide +kernel
theorem dX3_readOrder_166 : decode cX3_readOrder 166 = .ok (.invokevirtual 59, 3) := by decide +kernel
theorem dX3_readOrder_169 : decode cX3_readOrder 169 = .ok (.ifCond .eq 7, 3) := by decide +kernel
theorem dX3_readOrder_172 : decode cX3_readOrder 172 = .ok (.iconst 1, 1) := by decide +kernel
theorem dX3_readOrder_173 : decode cX3_readOrder 173 = .ok (.goto 4, 3) := by decide +kernel
theorem dX3_readOrder_176 : decode cX3_readOrder 176 = .ok (.iconst 0, 1) := by decide +kernel
theorem dX3_readOrder_177 : decode cX3_readOrder 177 = .ok (.ireturn, 1) := by decide +kernel
theorem dX3_readOrder_178 : decode cX3_readOrder 178 = .ok (.aload_n 0, 1) := by decide +kernel
theorem dX3_readOrder_179 : decode cX3_readOrder 179 = .ok (.bipush 114, 2) := by decide +kernel
theorem dX3_readOrder_181 : decode cX3_readOrder 181 = .ok (.invokevirtual 42, 3) := by decide +kernel
theorem dX3_readOrder_184 : decode cX3_readOrder 184 = .ok (.ifCond .eq 16, 3) := by decide +kernel
theorem dX3_readOrder_187 : decode cX3_readOrder 187 = .ok (.aload_n 0, 1) := by decide +kernel
theorem dX3_readOrder_188 : decode cX3_readOrder 188 = .ok (.bipush 42, 2) := by decide +kernel
theorem dX3_readOrder_190 : decode cX3_readOrder 190 = .ok (.invokevirtual 59, 3) := by decide +kernel
theorem dX3_readOrder_193 : decode cX3_readOrder 193 = .ok (.ifCond .eq 7, 3) := by decide +kernel
theorem dX3_readOrder_196 : decode cX3_readOrder 196 = .ok (.iconst 1, 1) := by decide +kernel
theorem dX3_readOrder_197 : decode cX3_readOrder 197 = .ok (.goto 4, 3) := by decide +kernel
theorem dX3_readOrder_200 : decode cX3_readOrder 200 = .ok (.iconst 0, 1) := by decide +kernel
theorem dX3_readOrder_201 : decode cX3_readOrder 201 = .ok (.ireturn, 1) := by decide +kernel
theorem dX3_readOrder_202 : decode cX3_readOrder 202 = .ok (.aload_n 0, 1) := by decide +kernel
theorem dX3_readOrder_203 : decode cX3_readOrder 203 = .ok (.bipush 120, 2) := by decide +kernel
theorem dX3_readOrder_205 : decode cX3_readOrder 205 = .ok (.invokevirtual 42, 3) := by decide +kernel
theorem dX3_readOrder_208 : decode cX3_readOrder 208 = .ok (.ireturn, 1) := by decide +kernel
theorem okX3_readOrder : CalOK yX3_readOrder cX3_readOrder 1 (some .boolean) 0 := ⟨wd_72, wd_645, by decide +kernel⟩
theorem ovX3_readOrder : VirOK yX3_readOrder := ⟨wd_643, wd_644⟩
def FX3_readOrder (B : Blk) : Option (Int32 × Blk) :=
  lt1 (bs B 5 5 (0 : Int32)) fun B1 =>
  c1 (FX3_here B1) fun r3 =>
  lt1 (bs B1 5 3 r3) fun B5 =>
  if ((B5 5) 3) = (100 : Int32) then
    c2 (FX3_readSign B5 (100 : Int32)) fun r8 B10 =>
    if r8 = 0 then
      some ((0 : Int32), B10)
    else
      c2 (FX3_readPair B10 (61 : Int32)) fun r12 B14 =>
      if r12 = 0 then
        some ((0 : Int32), B14)
      else
        some ((1 : Int32), B14)
  else
    if ((B5 5) 3) = (109 : Int32) then
      c2 (FX3_readSign B5 (109 : Int32)) fun r17 B19 =>
      if r17 = 0 then
        some ((0 : Int32), B19)
      else
        c2 (FX3_readPair B19 (58 : Int32)) fun r21 B23 =>
        if r21 = 0 then
          some ((0 : Int32), B23)
        else
          some ((1 : Int32), B23)
    else
      if ((B5 5) 3) = (111 : Int32) then
        c2 (FX3_readSign B5 (111 : Int32)) fun r26 B28 =>
        if r26 = 0 then
          some ((0 : Int32), B28)
        else
          c2 (FX3_readPair B28 (42 : Int32)) fun r30 B32 =>
          if r30 = 0 then
            some ((0 : Int32), B32)
          else
            c2 (FX3_readSign B32 (64 : Int32)) fun r34 B36 =>
            if r34 = 0 then
              some ((0 : Int32), B36)
            else
              c2 (FX3_readNumber B36) fun r38 B40 =>
              if r38 = 0 then
                some ((0 : Int32), B40)
              else
                some ((1 : Int32), B40)
      else
        if ((B5 5) 3) = (114 : Int32) then
          c2 (FX3_readSign B5 (114 : Int32)) fun r43 B45 =>
          if r43 = 0 then
            some ((0 : Int32), B45)
          else
            c2 (FX3_readPair B45 (42 : Int32)) fun r47 B49 =>
            if r47 = 0 then
              some ((0 : Int32), B49)
            else
              some ((1 : Int32), B49)
        else
          if ((B5 5) 3) = (116 : Int32) then
            c2 (FX3_readSign B5 (116 : Int32)) fun r52 B54 =>
            if r52 = 0 then
              some ((0 : Int32), B54)
            else
              c2 (FX3_readTask B54) fun r56 B58 =>
              if r56 = 0 then
                some ((0 : Int32), B58)
              else
                some ((1 : Int32), B58)
          else
            c2 (FX3_readSign B5 (120 : Int32)) fun r60 B62 =>
            rZ r60 (some (r60, B62))
set_option maxRecDepth 100000 in
set_option maxHeartbeats 4000000 in
theorem wX3_readOrder {E : WE} {V : VT} {A : Nat → Prop} {H0 : Heap} {M : Mem} (Cx : CX E RX3 cX3_readOrder 1 4 83) {r : Int32} {B' : Blk} (hret : RetI E V A H0 cX3_readOrder .boolean r (jb M 11 B')) {H : Heap} {locs : List Loc} {ls : Array Slot} {B : Blk} (hW : Wd V A H0 (jb M 11 B) (eS E) H locs) (hl : lv_has ls 1 [(0, .ref (vA V 11 5))]) (hF : FX3_readOrder B = some (r, B')) : Wq E H locs 0 ls [] := by
  unfold FX3_readOrder at hF
  refine q_aload_n Cx dX3_readOrder_0 rfl (lv_at hl 0 rfl) ?_
  refine q_iconst (v := (0 : Int32)) Cx dX3_readOrder_1 (by decide) ?_
  obtain ⟨B1, e2, hF⟩ := lt1_some hF
  refine qb_put Cx hW oQ ic3 5 (by decide) (Nat.le_of_ble_eq_true rfl) e2 rfl rfl ⟨nI32 _, rfl⟩ wd_232 dX3_readOrder_2 (fun H locs hW => ?_)
  refine q_aload_n Cx dX3_readOrder_5 rfl (lv_at hl 0 rfl) ?_
  refine q_aload_n Cx dX3_readOrder_6 rfl (lv_at hl 0 rfl) ?_
  obtain ⟨r3, e4, hF⟩ := c1_some hF
  refine q_callI (as := []) (rest := [.ref (vA V 11 5)]) Cx (kX3_here e4) okX3_here ovX3_here wd_646 ⟨rfl, rfl, by decide, by decide⟩ hW oQ ic3 rfl hl.1 (Nat.le_of_ble_eq_true rfl) rfl dX3_readOrder_7 (fun H locs hW => ?_)
  obtain ⟨B5, e6, hF⟩ := lt1_some hF
  refine qb_put Cx hW oQ ic3 3 (by decide) (Nat.le_of_ble_eq_true rfl) e6 rfl rfl ⟨nI32 _, rfl⟩ wd_228 dX3_readOrder_10 (fun H locs hW => ?_)
  refine q_aload_n Cx dX3_readOrder_13 rfl (lv_at hl 0 rfl) ?_
  refine qb_get (v := .int ((B5 5) 3)) Cx hW oQ ic3 3 (by decide) rfl wd_228 dX3_readOrder_14 ?_
  by_cases c7 : ((B5 5) 3) = (100 : Int32)
  · have hF := (if_pos c7).symm.trans hF
    refine q_lookup (tgt := 90) (off := 73) Cx dX3_readOrder_17 (by decide) (ho := (by rw [c7]; decide)) (by decide) ?_
    refine q_aload_n Cx dX3_readOrder_90 rfl (lv_at hl 0 rfl) ?_
    refine q_bipush (v := (100 : Int32)) Cx dX3_readOrder_91 (by decide) ?_
    obtain ⟨r8, B10, e9, hF⟩ := c2_some hF
    refine q_callI (as := [.int (100 : Int32)]) (rest := []) Cx (kX3_readSign e9) okX3_readSign ovX3_readSign wd_650 ⟨rfl, rfl, by decide, by decide⟩ hW oQ ic3 rfl hl.1 (Nat.le_of_ble_eq_true rfl) rfl dX3_readOrder_93 (fun H locs hW => ?_)
    refine q_if_eq (tgt := 112) Cx dX3_readOrder_96 (by decide) (fun c11 => ?_) (fun c11 => ?_)
    · have hF := (if_pos c11).symm.trans hF
      refine q_iconst (v := (0 : Int32)) Cx dX3_readOrder_112 (by decide) ?_
      cases hF
      exact hret _ _ _ _ dX3_readOrder_113 (by rfl) hW
    · have hF := (if_neg c11).symm.trans hF
      refine q_aload_n Cx dX3_readOrder_99 rfl (lv_at hl 0 rfl) ?_
      refine q_bipush (v := (61 : Int32)) Cx dX3_readOrder_100 (by decide) ?_
      obtain ⟨r12, B14, e13, hF⟩ := c2_some hF
      refine q_callI (as := [.int (61 : Int32)]) (rest := []) Cx (kX3_readPair e13) okX3_readPair ovX3_readPair wd_674 ⟨rfl, rfl, by decide, by decide⟩ hW oQ ic3 rfl hl.1 (Nat.le_of_ble_eq_true rfl) rfl dX3_readOrder_102 (fun H locs hW => ?_)
      refine q_if_eq (tgt := 112) Cx dX3_readOrder_105 (by decide) (fun c15 => ?_) (fun c15 => ?_)
      · have hF := (if_pos c15).symm.trans hF
        refine q_iconst (v := (0 : Int32)) Cx dX3_readOrder_112 (by decide) ?_
        cases hF
        exact hret _ _ _ _ dX3_readOrder_113 (by rfl) hW
      · have hF := (if_neg c15).symm.trans hF
        refine q_iconst (v := (1 : Int32)) Cx dX3_readOrder_108 (by decide) ?_
        refine q_goto (tgt := 113) Cx dX3_readOrder_109 (by decide) ?_
        cases hF
        exact hret _ _ _ _ dX3_readOrder_113 (by rfl) hW
  · have hF := (if_neg c7).symm.trans hF
    by_cases c16 : ((B5 5) 3) = (109 : Int32)
    · have hF := (if_pos c16).symm.trans hF
      refine q_lookup (tgt := 154) (off := 137) Cx dX3_readOrder_17 (by decide) (ho := (lv_osw c7 (by decide)).trans <| (by rw [c16]; decide)) (by decide) ?_
      refine q_aload_n Cx dX3_readOrder_154 rfl (lv_at hl 0 rfl) ?_
      refine q_bipush (v := (109 : Int32)) Cx dX3_readOrder_155 (by decide) ?_
      obtain ⟨r17, B19, e18, hF⟩ := c2_some hF
      refine q_callI (as := [.int (109 : Int32)]) (rest := []) Cx (kX3_readSign e18) okX3_readSign ovX3_readSign wd_650 ⟨rfl, rfl, by decide, by decide⟩ hW oQ ic3 rfl hl.1 (Nat.le_of_ble_eq_true rfl) rfl dX3_readOrder_157 (fun H locs hW => ?_)
      refine q_if_eq (tgt := 176) Cx dX3_readOrder_160 (by decide) (fun c20 => ?_) (fun c20 => ?_)
      · have hF := (if_pos c20).symm.trans hF
        refine q_iconst (v := (0 : Int32)) Cx dX3_readOrder_176 (by decide) ?_
        cases hF
        exact hret _ _ _ _ dX3_readOrder_177 (by rfl) hW
      · have hF := (if_neg c20).symm.trans hF
        refine q_aload_n Cx dX3_readOrder_163 rfl (lv_at hl 0 rfl) ?_
        refine q_bipush (v := (58 : Int32)) Cx dX3_readOrder_164 (by decide) ?_
        obtain ⟨r21, B23, e22, hF⟩ := c2_some hF
        refine q_callI (as := [.int (58 : Int32)]) (rest := []) Cx (kX3_readPair e22) okX3_readPair ovX3_readPair wd_674 ⟨rfl, rfl, by decide, by decide⟩ hW oQ ic3 rfl hl.1 (Nat.le_of_ble_eq_true rfl) rfl dX3_readOrder_166 (fun H locs hW => ?_)
        refine q_if_eq (tgt := 176) Cx dX3_readOrder_169 (by decide) (fun c24 => ?_) (fun c24 => ?_)
        · have hF := (if_pos c24).symm.trans hF
          refine q_iconst (v := (0 : Int32)) Cx dX3_readOrder_176 (by decide) ?_
          cases hF
          exact hret _ _ _ _ dX3_readOrder_177 (by rfl) hW
        · have hF := (if_neg c24).symm.trans hF
          refine q_iconst (v := (1 : Int32)) Cx dX3_readOrder_172 (by decide) ?_
          refine q_goto (tgt := 177) Cx dX3_readOrder_173 (by decide) ?_
          cases hF
          exact hret _ _ _ _ dX3_readOrder_177 (by rfl) hW
    · have hF := (if_neg c16).symm.trans hF
      by_cases c25 : ((B5 5) 3) = (111 : Int32)
      · have hF := (if_pos c25).symm.trans hF
        refine q_lookup (tgt := 114) (off := 97) Cx dX3_readOrder_17 (by decide) (ho := (lv_osw c7 (by decide)).trans <| (lv_osw c16 (by decide)).trans <| (by rw [c25]; decide)) (by decide) ?_
        refine q_aload_n Cx dX3_readOrder_114 rfl (lv_at hl 0 rfl) ?_
        refine q_bipush (v := (111 : Int32)) Cx dX3_readOrder_115 (by decide) ?_
        obtain ⟨r26, B28, e27, hF⟩ := c2_some hF
        refine q_callI (as := [.int (111 : Int32)]) (rest := []) Cx (kX3_readSign e27) okX3_readSign ovX3_readSign wd_650 ⟨rfl, rfl, by decide, by decide⟩ hW oQ ic3 rfl hl.1 (Nat.le_of_ble_eq_true rfl) rfl dX3_readOrder_117 (fun H locs hW => ?_)
        refine q_if_eq (tgt := 152) Cx dX3_readOrder_120 (by decide) (fun c29 => ?_) (fun c29 => ?_)
        · have hF := (if_pos c29).symm.trans hF
          refine q_iconst (v := (0 : Int32)) Cx dX3_readOrder_152 (by decide) ?_
          cases hF
          exact hret _ _ _ _ dX3_readOrder_153 (by rfl) hW
        · have hF := (if_neg c29).symm.trans hF
          refine q_aload_n Cx dX3_readOrder_123 rfl (lv_at hl 0 rfl) ?_
          refine q_bipush (v := (42 : Int32)) Cx dX3_readOrder_124 (by decide) ?_
          obtain ⟨r30, B32, e31, hF⟩ := c2_some hF
          refine q_callI (as := [.int (42 : Int32)]) (rest := []) Cx (kX3_readPair e31) okX3_readPair ovX3_readPair wd_674 ⟨rfl, rfl, by decide, by decide⟩ hW oQ ic3 rfl hl.1 (Nat.le_of_ble_eq_true rfl) rfl dX3_readOrder_126 (fun H locs hW => ?_)
          refine q_if_eq (tgt := 152) Cx dX3_readOrder_129 (by decide) (fun c33 => ?_) (fun c33 => ?_)
          · have hF := (if_pos c33).symm.trans hF
            refine q_iconst (v := (0 : Int32)) Cx dX3_readOrder_152 (by decide) ?_
            cases hF
            exact hret _ _ _ _ dX3_readOrder_153 (by rfl) hW
          · have hF := (if_neg c33).symm.trans hF
            refine q_aload_n Cx dX3_readOrder_132 rfl (lv_at hl 0 rfl) ?_
            refine q_bipush (v := (64 : Int32)) Cx dX3_readOrder_133 (by decide) ?_
            obtain ⟨r34, B36, e35, hF⟩ := c2_some hF
            refine q_callI (as := [.int (64 : Int32)]) (rest := []) Cx (kX3_readSign e35) okX3_readSign ovX3_readSign wd_650 ⟨rfl, rfl, by decide, by decide⟩ hW oQ ic3 rfl hl.1 (Nat.le_of_ble_eq_true rfl) rfl dX3_readOrder_135 (fun H locs hW => ?_)
            refine q_if_eq (tgt := 152) Cx dX3_readOrder_138 (by decide) (fun c37 => ?_) (fun c37 => ?_)
            · have hF := (if_pos c37).symm.trans hF
              refine q_iconst (v := (0 : Int32)) Cx dX3_readOrder_152 (by decide) ?_
              cases hF
              exact hret _ _ _ _ dX3_readOrder_153 (by rfl) hW
            · have hF := (if_neg c37).symm.trans hF
              refine q_aload_n Cx dX3_readOrder_141 rfl (lv_at hl 0 rfl) ?_
              obtain ⟨r38, B40, e39, hF⟩ := c2_some hF
              refine q_callI (as := []) (rest := []) Cx (kX3_readNumber e39) okX3_readNumber ovX3_readNumber wd_670 ⟨rfl, rfl, by decide, by decide⟩ hW oQ ic3 rfl hl.1 (Nat.le_of_ble_eq_true rfl) rfl dX3_readOrder_142 (fun H locs hW => ?_)
              refine q_if_eq (tgt := 152) Cx dX3_readOrder_145 (by decide) (fun c41 => ?_) (fun c41 => ?_)
              · have hF := (if_pos c41).symm.trans hF
                refine q_iconst (v := (0 : Int32)) Cx dX3_readOrder_152 (by decide) ?_
                cases hF
                exact hret _ _ _ _ dX3_readOrder_153 (by rfl) hW
              · have hF := (if_neg c41).symm.trans hF
                refine q_iconst (v := (1 : Int32)) Cx dX3_readOrder_148 (by decide) ?_
                refine q_goto (tgt := 153) Cx dX3_readOrder_149 (by decide) ?_
                cases hF
                exact hret _ _ _ _ dX3_readOrder_153 (by rfl) hW
      · have hF := (if_neg c25).symm.trans hF
        by_cases c42 : ((B5 5) 3) = (114 : Int32)
        · have hF := (if_pos c42).symm.trans hF
          refine q_lookup (tgt := 178) (off := 161) Cx dX3_readOrder_17 (by decide) (ho := (lv_osw c7 (by decide)).trans <| (lv_osw c16 (by decide)).trans <| (lv_osw c25 (by decide)).trans <| (by rw [c42]; decide)) (by decide) ?_
          refine q_aload_n Cx dX3_readOrder_178 rfl (lv_at hl 0 rfl) ?_
          refine q_bipush (v := (114 : Int32)) Cx dX3_readOrder_179 (by decide) ?_
          obtain ⟨r43, B45, e44, hF⟩ := c2_some hF
          refine q_callI (as := [.int (114 : Int32)]) (rest := []) Cx (kX3_readSign e44) okX3_readSign ovX3_readSign wd_650 ⟨rfl, rfl, by decide, by decide⟩ hW oQ ic3 rfl hl.1 (Nat.le_of_ble_eq_true rfl) rfl dX3_readOrder_181 (fun H locs hW => ?_)
          refine q_if_eq (tgt := 200) Cx dX3_readOrder_184 (by decide) (fun c46 => ?_) (fun c46 => ?_)
          · have hF := (if_pos c46).symm.trans hF
            refine q_iconst (v := (0 : Int32)) Cx dX3_readOrder_200 (by decide) ?_
            cases hF
            exact hret _ _ _ _ dX3_readOrder_201 (by rfl) hW
          · have hF := (if_neg c46).symm.trans hF
            refine q_aload_n Cx dX3_readOrder_187 rfl (lv_at hl 0 rfl) ?_
            refine q_bipush (v := (42 : Int32)) Cx dX3_readOrder_188 (by decide) ?_
            obtain ⟨r47, B49, e48, hF⟩ := c2_some hF
            refine q_callI (as := [.int (42 : Int32)]) (rest := []) Cx (kX3_readPair e48) okX3_readPair ovX3_readPair wd_674 ⟨rfl, rfl, by decide, by decide⟩ hW oQ ic3 rfl hl.1 (Nat.le_of_ble_eq_true rfl) rfl dX3_readOrder_190 (fun H locs hW => ?_)
            refine q_if_eq (tgt := 200) Cx dX3_readOrder_193 (by decide) (fun c50 => ?_) (fun c50 => ?_)
            · have hF := (if_pos c50).symm.trans hF
              refine q_iconst (v := (0 : Int32)) Cx dX3_readOrder_200 (by decide) ?_
              cases hF
              exact hret _ _ _ _ dX3_readOrder_201 (by rfl) hW
            · have hF := (if_neg c50).symm.trans hF
              refine q_iconst (v := (1 : Int32)) Cx dX3_readOrder_196 (by decide) ?_
              refine q_goto (tgt := 201) Cx dX3_readOrder_197 (by decide) ?_
              cases hF
              exact hret _ _ _ _ dX3_readOrder_201 (by rfl) hW
        · have hF := (if_neg c42).symm.trans hF
          by_cases c51 : ((B5 5) 3) = (116 : Int32)
          · have hF := (if_pos c51).symm.trans hF
            refine q_lookup (tgt := 68) (off := 51) Cx dX3_readOrder_17 (by decide) (ho := (lv_osw c7 (by decide)).trans <| (lv_osw c16 (by decide)).trans <| (lv_osw c25 (by decide)).trans <| (lv_osw c42 (by decide)).trans <| (by rw [c51]; decide)) (by decide) ?_
            refine q_aload_n Cx dX3_readOrder_68 rfl (lv_at hl 0 rfl) ?_
            refine q_bipush (v := (116 : Int32)) Cx dX3_readOrder_69 (by decide) ?_
            obtain ⟨r52, B54, e53, hF⟩ := c2_some hF
            refine q_callI (as := [.int (116 : Int32)]) (rest := []) Cx (kX3_readSign e53) okX3_readSign ovX3_readSign wd_650 ⟨rfl, rfl, by decide, by decide⟩ hW oQ ic3 rfl hl.1 (Nat.le_of_ble_eq_true rfl) rfl dX3_readOrder_71 (fun H locs hW => ?_)
            refine q_if_eq (tgt := 88) Cx dX3_readOrder_74 (by decide) (fun c55 => ?_) (fun c55 => ?_)
            · have hF := (if_pos c55).symm.trans hF
              refine q_iconst (v := (0 : Int32)) Cx dX3_readOrder_88 (by decide) ?_
              cases hF
              exact hret _ _ _ _ dX3_readOrder_89 (by rfl) hW
            · have hF := (if_neg c55).symm.trans hF
              refine q_aload_n Cx dX3_readOrder_77 rfl (lv_at hl 0 rfl) ?_
              obtain ⟨r56, B58, e57, hF⟩ := c2_some hF
              refine q_callI (as := []) (rest := []) Cx (kX3_readTask e57) okX3_readTask ovX3_readTask wd_654 ⟨rfl, rfl, by decide, by decide⟩ hW oQ ic3 rfl hl.1 (Nat.le_of_ble_eq_true rfl) rfl dX3_readOrder_78 (fun H locs hW => ?_)
              refine q_if_eq (tgt := 88) Cx dX3_readOrder_81 (by decide) (fun c59 => ?_) (fun c59 => ?_)
              · have hF := (if_pos c59).symm.trans hF
                refine q_iconst (v := (0 : Int32)) Cx dX3_readOrder_88 (by decide) ?_
                cases hF
                exact hret _ _ _ _ dX3_readOrder_89 (by rfl) hW
              · have hF := (if_neg c59).symm.trans hF
                refine q_iconst (v := (1 : Int32)) Cx dX3_readOrder_84 (by decide) ?_
                refine q_goto (tgt := 89) Cx dX3_readOrder_85 (by decide) ?_
                cases hF
                exact hret _ _ _ _ dX3_readOrder_89 (by rfl) hW
          · have hF := (if_neg c51).symm.trans hF
            refine q_lookup (tgt := 202) (off := 185) Cx dX3_readOrder_17 (by decide) (ho := (lv_osw c7 (by decide)).trans <| (lv_osw c16 (by decide)).trans <| (lv_osw c25 (by decide)).trans <| (lv_osw c42 (by decide)).trans <| (lv_osw c51 (by decide)).trans <| rfl) (by decide) ?_
            refine q_aload_n Cx dX3_readOrder_202 rfl (lv_at hl 0 rfl) ?_
            refine q_bipush (v := (120 : Int32)) Cx dX3_readOrder_203 (by decide) ?_
            obtain ⟨r60, B62, e61, hF⟩ := c2_some hF
            refine q_callI (as := [.int (120 : Int32)]) (rest := []) Cx (kX3_readSign e61) okX3_readSign ovX3_readSign wd_650 ⟨rfl, rfl, by decide, by decide⟩ hW oQ ic3 rfl hl.1 (Nat.le_of_ble_eq_true rfl) rfl dX3_readOrder_205 (fun H locs hW => ?_)
            obtain ⟨h63, hF⟩ := rZ_some hF
            cases hF
            exact hret _ _ _ _ dX3_readOrder_208 h63 hW
set_option maxRecDepth 100000 in
theorem kX3_readOrder {l : Launch} {V : VT} {M : Mem} {B : Blk} {r : Int32} {B' : Blk} (hF : FX3_readOrder B = some (r, B')) : MetI l V yX3_readOrder cX3_readOrder 1 .boolean ({ frames := 4, cells := 0, slots := 0, locals := 83 } : Room) [.ref (vA V 11 5)] r (jb M 11 B) (jb M 11 B') := metI_of (by decide) (Nat.le_of_ble_eq_true rfl) (fun E H0 _ Cx hret H locs ls hW hl => wX3_readOrder Cx hret hW hl hF)
theorem dX3_readNext_0 : decode cX3_readNext 0 = .ok (.aload_n 0, 1) := by decide +kernel
theorem dX3_readNext_1 : decode cX3_readNext 1 = .ok (.bipush 59, 2) := by decide +kernel
theorem dX3_readNext_3 : decode cX3_readNext 3 = .ok (.invokevirtual 42, 3) := by decide +kernel
theorem dX3_readNext_6 : decode cX3_readNext 6 = .ok (.ireturn, 1) := by decide +kernel
theorem okX3_readNext : CalOK yX3_readNext cX3_readNext 1 (some .boolean) 0 := ⟨wd_72, wd_681, by decide +kernel⟩
theorem ovX3_readNext : VirOK yX3_readNext := ⟨wd_679, wd_680⟩
def FX3_readNext (B : Blk) : Option (Int32 × Blk) :=
  c2 (FX3_readSign B (59 : Int32)) fun r1 B3 =>
  rZ r1 (some (r1, B3))
set_option maxRecDepth 100000 in
set_option maxHeartbeats 4000000 in
theorem wX3_readNext {E : WE} {V : VT} {A : Nat → Prop} {H0 : Heap} {M : Mem} (Cx : CX E RX3 cX3_readNext 1 2 41) {r : Int32} {B' : Blk} (hret : RetI E V A H0 cX3_readNext .boolean r (jb M 11 B')) {H : Heap} {locs : List Loc} {ls : Array Slot} {B : Blk} (hW : Wd V A H0 (jb M 11 B) (eS E) H locs) (hl : lv_has ls 1 [(0, .ref (vA V 11 5))]) (hF : FX3_readNext B = some (r, B')) : Wq E H locs 0 ls [] := by
  unfold FX3_readNext at hF
  refine q_aload_n Cx dX3_readNext_0 rfl (lv_at hl 0 rfl) ?_
  refine q_bipush (v := (59 : Int32)) Cx dX3_readNext_1 (by decide) ?_
  obtain ⟨r1, B3, e2, hF⟩ := c2_some hF
  refine q_callI (as := [.int (59 : Int32)]) (rest := []) Cx (kX3_readSign e2) okX3_readSign ovX3_readSign wd_650 ⟨rfl, rfl, by decide, by decide⟩ hW oQ ic3 rfl hl.1 (Nat.le_of_ble_eq_true rfl) rfl dX3_readNext_3 (fun H locs hW => ?_)
  obtain ⟨h4, hF⟩ := rZ_some hF
  cases hF
  exact hret _ _ _ _ dX3_readNext_6 h4 hW
set_option maxRecDepth 100000 in
theorem kX3_readNext {l : Launch} {V : VT} {M : Mem} {B : Blk} {r : Int32} {B' : Blk} (hF : FX3_readNext B = some (r, B')) : MetI l V yX3_readNext cX3_readNext 1 .boolean ({ frames := 2, cells := 0, slots := 0, locals := 41 } : Room) [.ref (vA V 11 5)] r (jb M 11 B) (jb M 11 B') := metI_of (by decide) (Nat.le_of_ble_eq_true rfl) (fun E H0 _ Cx hret H locs ls hW hl => wX3_readNext Cx hret hW hl hF)
theorem dX3_findFault_0 : decode cX3_findFault 0 = .ok (.aload_n 0, 1) := by decide +kernel
theorem dX3_findFault_1 : decode cX3_findFault 1 = .ok (.invokevirtual 32, 3) := by decide +kernel
theorem dX3_findFault_4 : decode cX3_findFault 4 = .ok (.iconst 0, 1) := by decide +kernel
theorem dX3_findFault_5 : decode cX3_findFault 5 = .ok (.istore_n 1, 1) := by decide +kernel
theorem dX3_findFault_6 : decode cX3_findFault 6 = .ok (.iload_n 1, 1) := by decide +kernel
theorem dX3_findFault_7 : decode cX3_findFault 7 = .ok (.bipush 80, 2) := by decide +kernel
theorem dX3_findFault_9 : decode cX3_findFault 9 = .ok (.if_icmp .ge 31, 3) := by decide +kernel
theorem dX3_findFault_12 : decode cX3_findFault 12 = .ok (.aload_n 0, 1) := by decide +kernel
theorem dX3_findFault_13 : decode cX3_findFault 13 = .ok (.invokevirtual 35, 3) := by decide +kernel
theorem dX3_findFault_16 : decode cX3_findFault 16 = .ok (.ifCond .ne 8, 3) := by decide +kernel
theorem dX3_findFault_19 : decode cX3_findFault 19 = .ok (.aload_n 0, 1) := by decide +kernel
theorem dX3_findFault_20 : decode cX3_findFault 20 = .ok (.getfield 29, 3) := by decide +kernel
theorem dX3_findFault_23 : decode cX3_findFault 23 = .ok (.ireturn, 1) := by decide +kernel
theorem dX3_findFault_24 : decode cX3_findFault 24 = .ok (.aload_n 0, 1) := by decide +kernel
theorem dX3_findFault_25 : decode cX3_findFault 25 = .ok (.invokevirtual 39, 3) := by decide +kernel
theorem dX3_findFault_28 : decode cX3_findFault 28 = .ok (.ifCond .ne 6, 3) := by decide +kernel
theorem dX3_findFault_31 : decode cX3_findFault 31 = .ok (.goto 9, 3) := by decide +kernel
theorem dX3_findFault_34 : decode cX3_findFault 34 = .ok (.iinc 1 1, 3) := by decide +kernel
theorem dX3_findFault_37 : decode cX3_findFault 37 = .ok (.goto (-31), 3) := by decide +kernel
theorem dX3_findFault_40 : decode cX3_findFault 40 = .ok (.aload_n 0, 1) := by decide +kernel
theorem dX3_findFault_41 : decode cX3_findFault 41 = .ok (.getfield 29, 3) := by decide +kernel
theorem dX3_findFault_44 : decode cX3_findFault 44 = .ok (.aload_n 0, 1) := by decide +kernel
theorem dX3_findFault_45 : decode cX3_findFault 45 = .ok (.getfield 25, 3) := by decide +kernel
theorem dX3_findFault_48 : decode cX3_findFault 48 = .ok (.if_icmp .ge 10, 3) := by decide +kernel
theorem dX3_findFault_51 : decode cX3_findFault 51 = .ok (.aload_n 0, 1) := by decide +kernel
theorem dX3_findFault_52 : decode cX3_findFault 52 = .ok (.getfield 29, 3) := by decide +kernel
theorem dX3_findFault_55 : decode cX3_findFault 55 = .ok (.goto 5, 3) := by decide +kernel
theorem dX3_findFault_58 : decode cX3_findFault 58 = .ok (.bipush (-6), 2) := by decide +kernel
theorem dX3_findFault_60 : decode cX3_findFault 60 = .ok (.ireturn, 1) := by decide +kernel
theorem okX3_findFault : CalOK yX3_findFault cX3_findFault 2 (some .int) 0 := ⟨wd_72, wd_637, by decide +kernel⟩
theorem ovX3_findFault : VirOK yX3_findFault := ⟨wd_635, wd_636⟩
def FX3_findFault_40 (B : Blk) : Option (Int32 × Blk) :=
  if ((B 5) 1) ≤ ((B 5) 2) then
    some ((-6 : Int32), B)
  else
    some (((B 5) 2), B)
set_option maxRecDepth 100000 in
set_option maxHeartbeats 4000000 in
theorem wX3_findFault_40 {E : WE} {V : VT} {A : Nat → Prop} {H0 : Heap} {M : Mem} (Cx : CX E RX3 cX3_findFault 2 5 103) {r : Int32} {B' : Blk} (hret : RetI E V A H0 cX3_findFault .int r (jb M 11 B')) {H : Heap} {locs : List Loc} {ls : Array Slot} {B : Blk} (hW : Wd V A H0 (jb M 11 B) (eS E) H locs) (hl : lv_has ls 2 [(0, .ref (vA V 11 5))]) (hF : FX3_findFault_40 B = some (r, B')) : Wq E H locs 40 ls [] := by
  unfold FX3_findFault_40 at hF
  refine q_aload_n Cx dX3_findFault_40 rfl (lv_at hl 0 rfl) ?_
  refine qb_get (v := .int ((B 5) 2)) Cx hW oQ ic3 2 (by decide) rfl wd_227 dX3_findFault_41 ?_
  refine q_aload_n Cx dX3_findFault_44 rfl (lv_at hl 0 rfl) ?_
  refine qb_get (v := .int ((B 5) 1)) Cx hW oQ ic3 1 (by decide) rfl wd_225 dX3_findFault_45 ?_
  refine q_icmp_ge (tgt := 58) Cx dX3_findFault_48 (by decide) (fun c5 => ?_) (fun c5 => ?_)
  · have hF := (if_pos c5).symm.trans hF
    refine q_bipush (v := (-6 : Int32)) Cx dX3_findFault_58 (by decide) ?_
    cases hF
    exact hret _ _ _ _ dX3_findFault_60 (nI32 _) hW
  · have hF := (if_neg c5).symm.trans hF
    refine q_aload_n Cx dX3_findFault_51 rfl (lv_at hl 0 rfl) ?_
    refine qb_get (v := .int ((B 5) 2)) Cx hW oQ ic3 2 (by decide) rfl wd_227 dX3_findFault_52 ?_
    refine q_goto (tgt := 60) Cx dX3_findFault_55 (by decide) ?_
    cases hF
    exact hret _ _ _ _ dX3_findFault_60 (nI32 _) hW
def FX3_findFault_6s (k6 : Int32 → Blk → Option (Int32 × Blk)) (l1 : Int32) (B : Blk) : Option (Int32 × Blk) :=
  if (80 : Int32) ≤ l1 then
    FX3_findFault_40 B
  else
    c2 (FX3_readOrder B) fun r6 B8 =>
    if r6 = 0 then
      some (((B8 5) 2), B8)
    else
      c2 (FX3_readNext B8) fun r10 B12 =>
      if r10 = 0 then
        FX3_findFault_40 B12
      else
        lt1 (l1 + (1 : Int32)) fun x14 =>
        k6 x14 B12
set_option maxRecDepth 100000 in
set_option maxHeartbeats 4000000 in
theorem wX3_findFault_6s {E : WE} {V : VT} {A : Nat → Prop} {H0 : Heap} {M : Mem} (Cx : CX E RX3 cX3_findFault 2 5 103) {r : Int32} {B' : Blk} (hret : RetI E V A H0 cX3_findFault .int r (jb M 11 B')) {k6 : Int32 → Blk → Option (Int32 × Blk)} (hk6 : ∀ {H : Heap} {locs : List Loc} {ls : Array Slot} {B : Blk} {l1 : Int32}, Wd V A H0 (jb M 11 B) (eS E) H locs → lv_has ls 2 [(0, .ref (vA V 11 5)), (1, .int l1)] → k6 l1 B = some (r, B') → Wq E H locs 6 ls []) {H : Heap} {locs : List Loc} {ls : Array Slot} {l1 : Int32} {B : Blk} (hW : Wd V A H0 (jb M 11 B) (eS E) H locs) (hl : lv_has ls 2 [(0, .ref (vA V 11 5)), (1, .int l1)]) (hF : FX3_findFault_6s k6 l1 B = some (r, B')) : Wq E H locs 6 ls [] := by
  unfold FX3_findFault_6s at hF
  refine q_iload_n Cx dX3_findFault_6 rfl (lv_at hl 1 rfl) ?_
  refine q_bipush (v := (80 : Int32)) Cx dX3_findFault_7 (by decide) ?_
  refine q_icmp_ge (tgt := 40) Cx dX3_findFault_9 (by decide) (fun c4 => ?_) (fun c4 => ?_)
  · have hF := (if_pos c4).symm.trans hF
    exact wX3_findFault_40 Cx hret hW (lv_sub hl [0] rfl) hF
  · have hF := (if_neg c4).symm.trans hF
    refine q_aload_n Cx dX3_findFault_12 rfl (lv_at hl 0 rfl) ?_
    obtain ⟨r6, B8, e7, hF⟩ := c2_some hF
    refine q_callI (as := []) (rest := []) Cx (kX3_readOrder e7) okX3_readOrder ovX3_readOrder wd_642 ⟨rfl, rfl, by decide, by decide⟩ hW oQ ic3 rfl hl.1 (Nat.le_of_ble_eq_true rfl) rfl dX3_findFault_13 (fun H locs hW => ?_)
    refine q_if_ne (tgt := 24) Cx dX3_findFault_16 (by decide) (fun c9 => ?_) (fun c9 => ?_)
    · have hF := (if_neg c9).symm.trans hF
      refine q_aload_n Cx dX3_findFault_24 rfl (lv_at hl 0 rfl) ?_
      obtain ⟨r10, B12, e11, hF⟩ := c2_some hF
      refine q_callI (as := []) (rest := []) Cx (kX3_readNext e11) okX3_readNext ovX3_readNext wd_678 ⟨rfl, rfl, by decide, by decide⟩ hW oQ ic3 rfl hl.1 (Nat.le_of_ble_eq_true rfl) rfl dX3_findFault_25 (fun H locs hW => ?_)
      refine q_if_ne (tgt := 34) Cx dX3_findFault_28 (by decide) (fun c13 => ?_) (fun c13 => ?_)
      · have hF := (if_neg c13).symm.trans hF
        obtain ⟨x14, e15, hF⟩ := lt1_some hF
        refine q_iinc (k := 1) (v := x14) (lv' := [(1, .int x14), (0, .ref (vA V 11 5))]) Cx dX3_findFault_34 hl rfl e15.symm (by decide) rfl (fun ls hl => ?_)
        refine q_goto (tgt := 6) Cx dX3_findFault_37 (by decide) ?_
        exact hk6 hW (lv_sub hl [1, 0] rfl) hF
      · have hF := (if_pos c13).symm.trans hF
        refine q_goto (tgt := 40) Cx dX3_findFault_31 (by decide) ?_
        exact wX3_findFault_40 Cx hret hW (lv_sub hl [0] rfl) hF
    · have hF := (if_pos c9).symm.trans hF
      refine q_aload_n Cx dX3_findFault_19 rfl (lv_at hl 0 rfl) ?_
      refine qb_get (v := .int ((B8 5) 2)) Cx hW oQ ic3 2 (by decide) rfl wd_227 dX3_findFault_20 ?_
      cases hF
      exact hret _ _ _ _ dX3_findFault_23 (nI32 _) hW
def FX3_findFault_6 : Nat → Int32 → Blk → Option (Int32 × Blk)
  | 0 => fun _ _ => none
  | n + 1 => FX3_findFault_6s (FX3_findFault_6 n)
set_option maxRecDepth 100000 in
theorem wX3_findFault_6 {E : WE} {V : VT} {A : Nat → Prop} {H0 : Heap} {M : Mem} (Cx : CX E RX3 cX3_findFault 2 5 103) {r : Int32} {B' : Blk} (hret : RetI E V A H0 cX3_findFault .int r (jb M 11 B')) : ∀ (n : Nat) {H : Heap} {locs : List Loc} {ls : Array Slot} {l1 : Int32} {B : Blk}, Wd V A H0 (jb M 11 B) (eS E) H locs → lv_has ls 2 [(0, .ref (vA V 11 5)), (1, .int l1)] → FX3_findFault_6 n l1 B = some (r, B') → Wq E H locs 6 ls [] := by
  intro n
  induction n with
  | zero => intro _ _ _ _ _ hW hl hF; cases hF
  | succ n ih => intro _ _ _ _ _ hW hl hF; exact wX3_findFault_6s Cx hret ih hW hl hF
def FX3_findFault (B : Blk) : Option (Int32 × Blk) :=
  c1 (FX3_toStart B) fun B3 =>
  FX3_findFault_6 fu (0 : Int32) B3
set_option maxRecDepth 100000 in
set_option maxHeartbeats 4000000 in
theorem wX3_findFault {E : WE} {V : VT} {A : Nat → Prop} {H0 : Heap} {M : Mem} (Cx : CX E RX3 cX3_findFault 2 5 103) {r : Int32} {B' : Blk} (hret : RetI E V A H0 cX3_findFault .int r (jb M 11 B')) {H : Heap} {locs : List Loc} {ls : Array Slot} {B : Blk} (hW : Wd V A H0 (jb M 11 B) (eS E) H locs) (hl : lv_has ls 2 [(0, .ref (vA V 11 5))]) (hF : FX3_findFault B = some (r, B')) : Wq E H locs 0 ls [] := by
  unfold FX3_findFault at hF
  refine q_aload_n Cx dX3_findFault_0 rfl (lv_at hl 0 rfl) ?_
  obtain ⟨B3, e2, hF⟩ := c1_some hF
  refine q_callV (as := []) (rest := []) Cx (kX3_toStart e2) okX3_toStart ovX3_toStart wd_638 ⟨rfl, rfl, by decide, by decide⟩ hW oQ ic3 rfl hl.1 (Nat.le_of_ble_eq_true rfl) rfl dX3_findFault_1 (fun H locs hW => ?_)
  refine q_iconst (v := (0 : Int32)) Cx dX3_findFault_4 (by decide) ?_
  refine q_istore_n (lv' := [(1, .int (0 : Int32)), (0, .ref (vA V 11 5))]) Cx dX3_findFault_5 rfl hl (by decide) rfl (fun ls hl => ?_)
  exact wX3_findFault_6 Cx hret fu hW (lv_sub hl [1, 0] rfl) hF
set_option maxRecDepth 100000 in
theorem kX3_findFault {l : Launch} {V : VT} {M : Mem} {B : Blk} {r : Int32} {B' : Blk} (hF : FX3_findFault B = some (r, B')) : MetI l V yX3_findFault cX3_findFault 2 .int ({ frames := 5, cells := 0, slots := 0, locals := 103 } : Room) [.ref (vA V 11 5)] r (jb M 11 B) (jb M 11 B') := metI_of (by decide) (Nat.le_of_ble_eq_true rfl) (fun E H0 _ Cx hret H locs ls hW hl => wX3_findFault Cx hret hW hl hF)
end
section
theorem dX1_prepare_0 : decode cX1_prepare 0 = .ok (.aload_n 0, 1) := by decide +kernel
theorem dX1_prepare_1 : decode cX1_prepare 1 = .ok (.getfield 11, 3) := by decide +kernel
theorem dX1_prepare_4 : decode cX1_prepare 4 = .ok (.aload_n 0, 1) := by decide +kernel
theorem dX1_prepare_5 : decode cX1_prepare 5 = .ok (.getfield 18, 3) := by decide +kernel
theorem dX1_prepare_8 : decode cX1_prepare 8 = .ok (.aload_n 0, 1) := by decide +kernel
theorem dX1_prepare_9 : decode cX1_prepare 9 = .ok (.getfield 22, 3) := by decide +kernel
theorem dX1_prepare_12 : decode cX1_prepare 12 = .ok (.iadd, 1) := by decide +kernel
theorem dX1_prepare_13 : decode cX1_prepare 13 = .ok (.aload_n 0, 1) := by decide +kernel
theorem dX1_prepare_14 : decode cX1_prepare 14 = .ok (.getfield 11, 3) := by decide +kernel
theorem dX1_prepare_17 : decode cX1_prepare 17 = .ok (.arraylength, 1) := by decide +kernel
theorem dX1_prepare_18 : decode cX1_prepare 18 = .ok (.irem, 1) := by decide +kernel
theorem dX1_prepare_19 : decode cX1_prepare 19 = .ok (.aaload, 1) := by decide +kernel
theorem dX1_prepare_20 : decode cX1_prepare 20 = .ok (.astore_n 2, 1) := by decide +kernel
theorem dX1_prepare_21 : decode cX1_prepare 21 = .ok (.aload_n 2, 1) := by decide +kernel
theorem dX1_prepare_22 : decode cX1_prepare 22 = .ok (.ifnull 8, 3) := by decide +kernel
theorem dX1_prepare_25 : decode cX1_prepare 25 = .ok (.aload_n 2, 1) := by decide +kernel
theorem dX1_prepare_26 : decode cX1_prepare 26 = .ok (.aload_n 1, 1) := by decide +kernel
theorem dX1_prepare_27 : decode cX1_prepare 27 = .ok (.invokevirtual 25, 3) := by decide +kernel
theorem dX1_prepare_30 : decode cX1_prepare 30 = .ok (.return_, 1) := by decide +kernel
theorem okX1_prepare : CalOK yX1_prepare cX1_prepare 3 (none) 1 := ⟨wd_71, wd_274, by decide +kernel⟩
theorem ovX1_prepare : VirOK yX1_prepare := ⟨wd_272, wd_273⟩
def FX1_prepare (M : Mem) : Option Mem :=
  gi ((((M 11 3) 1) + ((M 11 3) 2)) - (((M 11 3) 1) + ((M 11 3) 2)) / (7 : Int32) * (7 : Int32)) 7 <|
  c1 (FX2_copyFrom (M (4 + ((((M 11 3) 1) + ((M 11 3) 2)) - (((M 11 3) 1) + ((M 11 3) 2)) / (7 : Int32) * (7 : Int32)).toNatClampNeg)) (M 0)) fun B4 =>
  lt1 (jb M (4 + ((((M 11 3) 1) + ((M 11 3) 2)) - (((M 11 3) 1) + ((M 11 3) 2)) / (7 : Int32) * (7 : Int32)).toNatClampNeg) B4) fun M5 =>
  some M5
set_option maxRecDepth 100000 in
set_option maxHeartbeats 4000000 in
theorem wX1_prepare {E : WE} {V : VT} {A : Nat → Prop} {H0 : Heap} (Cx : CX E RX1 cX1_prepare 3 3 102) {M' : Mem} (hret : RetV E V A H0 cX1_prepare M') {H : Heap} {locs : List Loc} {ls : Array Slot} {M : Mem} (hW : Wd V A H0 M (eS E) H locs) (hl : lv_has ls 3 [(0, .ref (vA V 11 3)), (1, .ref (vA V 0 0))]) (hF : FX1_prepare M = some M') : Wq E H locs 0 ls [] := by
  unfold FX1_prepare at hF
  refine q_aload_n Cx dX1_prepare_0 rfl (lv_at hl 0 rfl) ?_
  refine q_get (v := .ref (vA V 11 4)) Cx hW oH ic1 0 (by decide) rfl wd_207 dX1_prepare_1 ?_
  refine q_aload_n Cx dX1_prepare_4 rfl (lv_at hl 0 rfl) ?_
  refine q_get (v := .int ((M 11 3) 1)) Cx hW oH ic1 1 (by decide) rfl wd_208 dX1_prepare_5 ?_
  refine q_aload_n Cx dX1_prepare_8 rfl (lv_at hl 0 rfl) ?_
  refine q_get (v := .int ((M 11 3) 2)) Cx hW oH ic1 2 (by decide) rfl wd_209 dX1_prepare_9 ?_
  refine q_iadd Cx dX1_prepare_12 ?_
  refine q_aload_n Cx dX1_prepare_13 rfl (lv_at hl 0 rfl) ?_
  refine q_get (v := .ref (vA V 11 4)) Cx hW oH ic1 0 (by decide) rfl wd_207 dX1_prepare_14 ?_
  refine q_alenR (v := (7 : Int32)) Cx hW ar_4 (by decide) dX1_prepare_17 ?_
  refine q_irem Cx dX1_prepare_18 (by decide) ?_
  obtain ⟨h1, hF⟩ := gi_some hF
  refine q_aald Cx hW ar_4 h1 dX1_prepare_19 ?_
  refine q_astore_n (lv' := [(2, .ref (vA V (4 + ((((M 11 3) 1) + ((M 11 3) 2)) - (((M 11 3) 1) + ((M 11 3) 2)) / (7 : Int32) * (7 : Int32)).toNatClampNeg) 0)), (0, .ref (vA V 11 3)), (1, .ref (vA V 0 0))]) Cx dX1_prepare_20 rfl hl (by decide) rfl (fun ls hl => ?_)
  refine q_aload_n Cx dX1_prepare_21 rfl (lv_at hl 0 rfl) ?_
  refine q_ifnull Cx dX1_prepare_22 ?_
  refine q_aload_n Cx dX1_prepare_25 rfl (lv_at hl 0 rfl) ?_
  refine q_aload_n Cx dX1_prepare_26 rfl (lv_at hl 2 rfl) ?_
  obtain ⟨B4, e3, hF⟩ := c1_some hF
  obtain ⟨M5, e6, hF⟩ := lt1_some hF
  have hq : MetV (eL E) V yX2_copyFrom cX2_copyFrom 2 ({ frames := 2, cells := 0, slots := 0, locals := 81 } : Room) (.ref (vA V (4 + ((((M 11 3) 1) + ((M 11 3) 2)) - (((M 11 3) 1) + ((M 11 3) 2)) / (7 : Int32) * (7 : Int32)).toNatClampNeg) 0) :: [.ref (vA V 0 0)]) M (jb M (4 + ((((M 11 3) 1) + ((M 11 3) 2)) - (((M 11 3) 1) + ((M 11 3) 2)) / (7 : Int32) * (7 : Int32)).toNatClampNeg) B4) := (met_v (kX2_copyFrom (show (4 + ((((M 11 3) 1) + ((M 11 3) 2)) - (((M 11 3) 1) + ((M 11 3) 2)) / (7 : Int32) * (7 : Int32)).toNatClampNeg) < 11 from by have hq := vp_lt h1; omega) (by decide) (show 0 ≠ (4 + ((((M 11 3) 1) + ((M 11 3) 2)) - (((M 11 3) 1) + ((M 11 3) 2)) / (7 : Int32) * (7 : Int32)).toNatClampNeg) from by omega) rfl e3))
  rw [← e6] at hq
  refine q_callV (as := [.ref (vA V 0 0)]) (rest := []) Cx hq okX2_copyFrom ovX2_copyFrom wd_275 ⟨rfl, rfl, by decide, by decide⟩ hW (oM (show (4 + ((((M 11 3) 1) + ((M 11 3) 2)) - (((M 11 3) 1) + ((M 11 3) 2)) / (7 : Int32) * (7 : Int32)).toNatClampNeg) < 11 from by have hq := vp_lt h1; omega)) ic2 rfl hl.1 (Nat.le_of_ble_eq_true rfl) rfl dX1_prepare_27 (fun H locs hW => ?_)
  cases hF
  exact hret _ _ _ _ dX1_prepare_30 hW
set_option maxRecDepth 100000 in
theorem kX1_prepare {l : Launch} {V : VT} {M : Mem} {M' : Mem} (hF : FX1_prepare M = some M') : MetV l V yX1_prepare cX1_prepare 3 ({ frames := 3, cells := 0, slots := 0, locals := 102 } : Room) [.ref (vA V 11 3), .ref (vA V 0 0)] M M' := metV_of (by decide) (Nat.le_of_ble_eq_true rfl) (fun E H0 _ Cx hret H locs ls hW hl => wX1_prepare Cx hret hW hl hF)
theorem dX1_record_0 : decode cX1_record 0 = .ok (.iload_n 1, 1) := by decide +kernel
theorem dX1_record_1 : decode cX1_record 1 = .ok (.ifCond .ge 5, 3) := by decide +kernel
theorem dX1_record_4 : decode cX1_record 4 = .ok (.iload_n 1, 1) := by decide +kernel
theorem dX1_record_5 : decode cX1_record 5 = .ok (.ireturn, 1) := by decide +kernel
theorem dX1_record_6 : decode cX1_record 6 = .ok (.aload_n 0, 1) := by decide +kernel
theorem dX1_record_7 : decode cX1_record 7 = .ok (.getfield 22, 3) := by decide +kernel
theorem dX1_record_10 : decode cX1_record 10 = .ok (.bipush 6, 2) := by decide +kernel
theorem dX1_record_12 : decode cX1_record 12 = .ok (.if_icmp .ge 16, 3) := by decide +kernel
theorem dX1_record_15 : decode cX1_record 15 = .ok (.aload_n 0, 1) := by decide +kernel
theorem dX1_record_16 : decode cX1_record 16 = .ok (.dup, 1) := by decide +kernel
theorem dX1_record_17 : decode cX1_record 17 = .ok (.getfield 22, 3) := by decide +kernel
theorem dX1_record_20 : decode cX1_record 20 = .ok (.iconst 1, 1) := by decide +kernel
theorem dX1_record_21 : decode cX1_record 21 = .ok (.iadd, 1) := by decide +kernel
theorem dX1_record_22 : decode cX1_record 22 = .ok (.putfield 22, 3) := by decide +kernel
theorem dX1_record_25 : decode cX1_record 25 = .ok (.goto 19, 3) := by decide +kernel
theorem dX1_record_28 : decode cX1_record 28 = .ok (.aload_n 0, 1) := by decide +kernel
theorem dX1_record_29 : decode cX1_record 29 = .ok (.aload_n 0, 1) := by decide +kernel
theorem dX1_record_30 : decode cX1_record 30 = .ok (.getfield 18, 3) := by decide +kernel
theorem dX1_record_33 : decode cX1_record 33 = .ok (.iconst 1, 1) := by decide +kernel
theorem dX1_record_34 : decode cX1_record 34 = .ok (.iadd, 1) := by decide +kernel
theorem dX1_record_35 : decode cX1_record 35 = .ok (.aload_n 0, 1) := by decide +kernel
theorem dX1_record_36 : decode cX1_record 36 = .ok (.getfield 11, 3) := by decide +kernel
theorem dX1_record_39 : decode cX1_record 39 = .ok (.arraylength, 1) := by decide +kernel
theorem dX1_record_40 : decode cX1_record 40 = .ok (.irem, 1) := by decide +kernel
theorem dX1_record_41 : decode cX1_record 41 = .ok (.putfield 18, 3) := by decide +kernel
theorem dX1_record_44 : decode cX1_record 44 = .ok (.iload_n 1, 1) := by decide +kernel
theorem dX1_record_45 : decode cX1_record 45 = .ok (.ireturn, 1) := by decide +kernel
theorem okX1_record : CalOK yX1_record cX1_record 2 (some .int) 1 := ⟨wd_71, wd_299, by decide +kernel⟩
theorem ovX1_record : VirOK yX1_record := ⟨wd_297, wd_298⟩
def FX1_record (M : Mem) (l1 : Int32) : Option (Int32 × Mem) :=
  if 0 ≤ l1 then
    if (6 : Int32) ≤ ((M 11 3) 2) then
      lt1 (jb M 11 (bs (M 11) 3 1 ((((M 11 3) 1) + (1 : Int32)) - (((M 11 3) 1) + (1 : Int32)) / (7 : Int32) * (7 : Int32)))) fun M3 =>
      some (l1, M3)
    else
      lt1 (jb M 11 (bs (M 11) 3 2 (((M 11 3) 2) + (1 : Int32)))) fun M5 =>
      some (l1, M5)
  else
    some (l1, M)
set_option maxRecDepth 100000 in
set_option maxHeartbeats 4000000 in
theorem wX1_record {E : WE} {V : VT} {A : Nat → Prop} {H0 : Heap} (Cx : CX E RX1 cX1_record 2 0 0) {r : Int32} {M' : Mem} (hret : RetI E V A H0 cX1_record .int r M') {H : Heap} {locs : List Loc} {ls : Array Slot} {l1 : Int32} {M : Mem} (hW : Wd V A H0 M (eS E) H locs) (hl : lv_has ls 2 [(0, .ref (vA V 11 3)), (1, .int l1)]) (hF : FX1_record M l1 = some (r, M')) : Wq E H locs 0 ls [] := by
  unfold FX1_record at hF
  refine q_iload_n Cx dX1_record_0 rfl (lv_at hl 1 rfl) ?_
  refine q_if_ge (tgt := 6) Cx dX1_record_1 (by decide) (fun c1 => ?_) (fun c1 => ?_)
  · have hF := (if_pos c1).symm.trans hF
    refine q_aload_n Cx dX1_record_6 rfl (lv_at hl 0 rfl) ?_
    refine q_get (v := .int ((M 11 3) 2)) Cx hW oH ic1 2 (by decide) rfl wd_209 dX1_record_7 ?_
    refine q_bipush (v := (6 : Int32)) Cx dX1_record_10 (by decide) ?_
    refine q_icmp_ge (tgt := 28) Cx dX1_record_12 (by decide) (fun c2 => ?_) (fun c2 => ?_)
    · have hF := (if_pos c2).symm.trans hF
      refine q_aload_n Cx dX1_record_28 rfl (lv_at hl 0 rfl) ?_
      refine q_aload_n Cx dX1_record_29 rfl (lv_at hl 0 rfl) ?_
      refine q_get (v := .int ((M 11 3) 1)) Cx hW oH ic1 1 (by decide) rfl wd_208 dX1_record_30 ?_
      refine q_iconst (v := (1 : Int32)) Cx dX1_record_33 (by decide) ?_
      refine q_iadd Cx dX1_record_34 ?_
      refine q_aload_n Cx dX1_record_35 rfl (lv_at hl 0 rfl) ?_
      refine q_get (v := .ref (vA V 11 4)) Cx hW oH ic1 0 (by decide) rfl wd_207 dX1_record_36 ?_
      refine q_alenR (v := (7 : Int32)) Cx hW ar_4 (by decide) dX1_record_39 ?_
      refine q_irem Cx dX1_record_40 (by decide) ?_
      obtain ⟨M3, e4, hF⟩ := lt1_some hF
      refine qw_put Cx hW oH ic1 1 (by decide) (Nat.le_of_ble_eq_true rfl) e4 rfl rfl ⟨nI32 _, rfl⟩ wd_208 dX1_record_41 (fun H locs hW => ?_)
      refine q_iload_n Cx dX1_record_44 rfl (lv_at hl 1 rfl) ?_
      cases hF
      exact hret _ _ _ _ dX1_record_45 (nI32 _) hW
    · have hF := (if_neg c2).symm.trans hF
      refine q_aload_n Cx dX1_record_15 rfl (lv_at hl 0 rfl) ?_
      refine q_dup Cx dX1_record_16 rfl ?_
      refine q_get (v := .int ((M 11 3) 2)) Cx hW oH ic1 2 (by decide) rfl wd_209 dX1_record_17 ?_
      refine q_iconst (v := (1 : Int32)) Cx dX1_record_20 (by decide) ?_
      refine q_iadd Cx dX1_record_21 ?_
      obtain ⟨M5, e6, hF⟩ := lt1_some hF
      refine qw_put Cx hW oH ic1 2 (by decide) (Nat.le_of_ble_eq_true rfl) e6 rfl rfl ⟨nI32 _, rfl⟩ wd_209 dX1_record_22 (fun H locs hW => ?_)
      refine q_goto (tgt := 44) Cx dX1_record_25 (by decide) ?_
      refine q_iload_n Cx dX1_record_44 rfl (lv_at hl 1 rfl) ?_
      cases hF
      exact hret _ _ _ _ dX1_record_45 (nI32 _) hW
  · have hF := (if_neg c1).symm.trans hF
    refine q_iload_n Cx dX1_record_4 rfl (lv_at hl 1 rfl) ?_
    cases hF
    exact hret _ _ _ _ dX1_record_5 (nI32 _) hW
set_option maxRecDepth 100000 in
theorem kX1_record {l : Launch} {V : VT} {M : Mem} {l1 : Int32} {r : Int32} {M' : Mem} (hF : FX1_record M l1 = some (r, M')) : MetI l V yX1_record cX1_record 2 .int ({ frames := 0, cells := 0, slots := 0, locals := 0 } : Room) [.ref (vA V 11 3), .int l1] r M M' := metI_of (by decide) (Nat.le_of_ble_eq_true rfl) (fun E H0 _ Cx hret H locs ls hW hl => wX1_record Cx hret hW hl hF)
theorem dX1_takeBack_0 : decode cX1_takeBack 0 = .ok (.aload_n 0, 1) := by decide +kernel
theorem dX1_takeBack_1 : decode cX1_takeBack 1 = .ok (.getfield 22, 3) := by decide +kernel
theorem dX1_takeBack_4 : decode cX1_takeBack 4 = .ok (.ifCond .ne 6, 3) := by decide +kernel
theorem dX1_takeBack_7 : decode cX1_takeBack 7 = .ok (.bipush (-5), 2) := by decide +kernel
theorem dX1_takeBack_9 : decode cX1_takeBack 9 = .ok (.ireturn, 1) := by decide +kernel
theorem dX1_takeBack_10 : decode cX1_takeBack 10 = .ok (.aload_n 0, 1) := by decide +kernel
theorem dX1_takeBack_11 : decode cX1_takeBack 11 = .ok (.dup, 1) := by decide +kernel
theorem dX1_takeBack_12 : decode cX1_takeBack 12 = .ok (.getfield 22, 3) := by decide +kernel
theorem dX1_takeBack_15 : decode cX1_takeBack 15 = .ok (.iconst 1, 1) := by decide +kernel
theorem dX1_takeBack_16 : decode cX1_takeBack 16 = .ok (.isub, 1) := by decide +kernel
theorem dX1_takeBack_17 : decode cX1_takeBack 17 = .ok (.putfield 22, 3) := by decide +kernel
theorem dX1_takeBack_20 : decode cX1_takeBack 20 = .ok (.aload_n 1, 1) := by decide +kernel
theorem dX1_takeBack_21 : decode cX1_takeBack 21 = .ok (.aload_n 0, 1) := by decide +kernel
theorem dX1_takeBack_22 : decode cX1_takeBack 22 = .ok (.getfield 11, 3) := by decide +kernel
theorem dX1_takeBack_25 : decode cX1_takeBack 25 = .ok (.aload_n 0, 1) := by decide +kernel
theorem dX1_takeBack_26 : decode cX1_takeBack 26 = .ok (.getfield 18, 3) := by decide +kernel
theorem dX1_takeBack_29 : decode cX1_takeBack 29 = .ok (.aload_n 0, 1) := by decide +kernel
theorem dX1_takeBack_30 : decode cX1_takeBack 30 = .ok (.getfield 22, 3) := by decide +kernel
theorem dX1_takeBack_33 : decode cX1_takeBack 33 = .ok (.iadd, 1) := by decide +kernel
theorem dX1_takeBack_34 : decode cX1_takeBack 34 = .ok (.aload_n 0, 1) := by decide +kernel
theorem dX1_takeBack_35 : decode cX1_takeBack 35 = .ok (.getfield 11, 3) := by decide +kernel
theorem dX1_takeBack_38 : decode cX1_takeBack 38 = .ok (.arraylength, 1) := by decide +kernel
theorem dX1_takeBack_39 : decode cX1_takeBack 39 = .ok (.irem, 1) := by decide +kernel
theorem dX1_takeBack_40 : decode cX1_takeBack 40 = .ok (.aaload, 1) := by decide +kernel
theorem dX1_takeBack_41 : decode cX1_takeBack 41 = .ok (.invokevirtual 25, 3) := by decide +kernel
theorem dX1_takeBack_44 : decode cX1_takeBack 44 = .ok (.aload_n 0, 1) := by decide +kernel
theorem dX1_takeBack_45 : decode cX1_takeBack 45 = .ok (.getfield 22, 3) := by decide +kernel
theorem dX1_takeBack_48 : decode cX1_takeBack 48 = .ok (.ireturn, 1) := by decide +kernel
theorem okX1_takeBack : CalOK yX1_takeBack cX1_takeBack 2 (some .int) 1 := ⟨wd_71, wd_704, by decide +kernel⟩
theorem ovX1_takeBack : VirOK yX1_takeBack := ⟨wd_702, wd_703⟩
def FX1_takeBack (M : Mem) : Option (Int32 × Mem) :=
  if ((M 11 3) 2) = 0 then
    some ((-5 : Int32), M)
  else
    lt1 (jb M 11 (bs (M 11) 3 2 (((M 11 3) 2) - (1 : Int32)))) fun M2 =>
    gi ((((M2 11 3) 1) + ((M2 11 3) 2)) - (((M2 11 3) 1) + ((M2 11 3) 2)) / (7 : Int32) * (7 : Int32)) 7 <|
    c1 (FX2_copyFrom (M2 0) (M2 (4 + ((((M2 11 3) 1) + ((M2 11 3) 2)) - (((M2 11 3) 1) + ((M2 11 3) 2)) / (7 : Int32) * (7 : Int32)).toNatClampNeg))) fun B7 =>
    lt1 (jb M2 0 B7) fun M8 =>
    some (((M8 11 3) 2), M8)
set_option maxRecDepth 100000 in
set_option maxHeartbeats 4000000 in
theorem wX1_takeBack {E : WE} {V : VT} {A : Nat → Prop} {H0 : Heap} (Cx : CX E RX1 cX1_takeBack 2 3 102) {r : Int32} {M' : Mem} (hret : RetI E V A H0 cX1_takeBack .int r M') {H : Heap} {locs : List Loc} {ls : Array Slot} {M : Mem} (hW : Wd V A H0 M (eS E) H locs) (hl : lv_has ls 2 [(0, .ref (vA V 11 3)), (1, .ref (vA V 0 0))]) (hF : FX1_takeBack M = some (r, M')) : Wq E H locs 0 ls [] := by
  unfold FX1_takeBack at hF
  refine q_aload_n Cx dX1_takeBack_0 rfl (lv_at hl 0 rfl) ?_
  refine q_get (v := .int ((M 11 3) 2)) Cx hW oH ic1 2 (by decide) rfl wd_209 dX1_takeBack_1 ?_
  refine q_if_ne (tgt := 10) Cx dX1_takeBack_4 (by decide) (fun c1 => ?_) (fun c1 => ?_)
  · have hF := (if_neg c1).symm.trans hF
    refine q_aload_n Cx dX1_takeBack_10 rfl (lv_at hl 0 rfl) ?_
    refine q_dup Cx dX1_takeBack_11 rfl ?_
    refine q_get (v := .int ((M 11 3) 2)) Cx hW oH ic1 2 (by decide) rfl wd_209 dX1_takeBack_12 ?_
    refine q_iconst (v := (1 : Int32)) Cx dX1_takeBack_15 (by decide) ?_
    refine q_isub Cx dX1_takeBack_16 ?_
    obtain ⟨M2, e3, hF⟩ := lt1_some hF
    refine qw_put Cx hW oH ic1 2 (by decide) (Nat.le_of_ble_eq_true rfl) e3 rfl rfl ⟨nI32 _, rfl⟩ wd_209 dX1_takeBack_17 (fun H locs hW => ?_)
    refine q_aload_n Cx dX1_takeBack_20 rfl (lv_at hl 1 rfl) ?_
    refine q_aload_n Cx dX1_takeBack_21 rfl (lv_at hl 0 rfl) ?_
    refine q_get (v := .ref (vA V 11 4)) Cx hW oH ic1 0 (by decide) rfl wd_207 dX1_takeBack_22 ?_
    refine q_aload_n Cx dX1_takeBack_25 rfl (lv_at hl 0 rfl) ?_
    refine q_get (v := .int ((M2 11 3) 1)) Cx hW oH ic1 1 (by decide) rfl wd_208 dX1_takeBack_26 ?_
    refine q_aload_n Cx dX1_takeBack_29 rfl (lv_at hl 0 rfl) ?_
    refine q_get (v := .int ((M2 11 3) 2)) Cx hW oH ic1 2 (by decide) rfl wd_209 dX1_takeBack_30 ?_
    refine q_iadd Cx dX1_takeBack_33 ?_
    refine q_aload_n Cx dX1_takeBack_34 rfl (lv_at hl 0 rfl) ?_
    refine q_get (v := .ref (vA V 11 4)) Cx hW oH ic1 0 (by decide) rfl wd_207 dX1_takeBack_35 ?_
    refine q_alenR (v := (7 : Int32)) Cx hW ar_4 (by decide) dX1_takeBack_38 ?_
    refine q_irem Cx dX1_takeBack_39 (by decide) ?_
    obtain ⟨h4, hF⟩ := gi_some hF
    refine q_aald Cx hW ar_4 h4 dX1_takeBack_40 ?_
    obtain ⟨B7, e6, hF⟩ := c1_some hF
    obtain ⟨M8, e9, hF⟩ := lt1_some hF
    have hq : MetV (eL E) V yX2_copyFrom cX2_copyFrom 2 ({ frames := 2, cells := 0, slots := 0, locals := 81 } : Room) (.ref (vA V 0 0) :: [.ref (vA V (4 + ((((M2 11 3) 1) + ((M2 11 3) 2)) - (((M2 11 3) 1) + ((M2 11 3) 2)) / (7 : Int32) * (7 : Int32)).toNatClampNeg) 0)]) M2 (jb M2 0 B7) := (met_v (kX2_copyFrom (by decide) (show (4 + ((((M2 11 3) 1) + ((M2 11 3) 2)) - (((M2 11 3) 1) + ((M2 11 3) 2)) / (7 : Int32) * (7 : Int32)).toNatClampNeg) < 11 from by have hq := vp_lt h4; omega) (show (4 + ((((M2 11 3) 1) + ((M2 11 3) 2)) - (((M2 11 3) 1) + ((M2 11 3) 2)) / (7 : Int32) * (7 : Int32)).toNatClampNeg) ≠ 0 from by omega) rfl e6))
    rw [← e9] at hq
    refine q_callV (as := [.ref (vA V (4 + ((((M2 11 3) 1) + ((M2 11 3) 2)) - (((M2 11 3) 1) + ((M2 11 3) 2)) / (7 : Int32) * (7 : Int32)).toNatClampNeg) 0)]) (rest := []) Cx hq okX2_copyFrom ovX2_copyFrom wd_275 ⟨rfl, rfl, by decide, by decide⟩ hW (oM (by decide)) ic2 rfl hl.1 (Nat.le_of_ble_eq_true rfl) rfl dX1_takeBack_41 (fun H locs hW => ?_)
    refine q_aload_n Cx dX1_takeBack_44 rfl (lv_at hl 0 rfl) ?_
    refine q_get (v := .int ((M8 11 3) 2)) Cx hW oH ic1 2 (by decide) rfl wd_209 dX1_takeBack_45 ?_
    cases hF
    exact hret _ _ _ _ dX1_takeBack_48 (nI32 _) hW
  · have hF := (if_pos c1).symm.trans hF
    refine q_bipush (v := (-5 : Int32)) Cx dX1_takeBack_7 (by decide) ?_
    cases hF
    exact hret _ _ _ _ dX1_takeBack_9 (nI32 _) hW
set_option maxRecDepth 100000 in
theorem kX1_takeBack {l : Launch} {V : VT} {M : Mem} {r : Int32} {M' : Mem} (hF : FX1_takeBack M = some (r, M')) : MetI l V yX1_takeBack cX1_takeBack 2 .int ({ frames := 3, cells := 0, slots := 0, locals := 102 } : Room) [.ref (vA V 11 3), .ref (vA V 0 0)] r M M' := metI_of (by decide) (Nat.le_of_ble_eq_true rfl) (fun E H0 _ Cx hret H locs ls hW hl => wX1_takeBack Cx hret hW hl hF)
end
