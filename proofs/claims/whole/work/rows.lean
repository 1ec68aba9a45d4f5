section
-- ===== PART A: goes FIRST, ahead of the names: the tables' words, and 'selects' of the private methods out of them =====
/-- a private method of a class that the tables say can be made, by its rows of tables_1 -/
def lw_okq (q : MethodName × Nat) : Prop := (q.1.cls ≠ "java/lang/invoke/MethodHandle" ∧ q.1.cls ≠ "java/lang/invoke/VarHandle") ∧ Cond.instantiable q.1.cls q.2 ∈ tables_1 ∧ Cond.privateMethod q.1 ∈ tables_1 ∧ Cond.instanceMethod q.1 ∈ tables_1
theorem lw_p0 : lw_okq (⟨"SlackMarket$Plan", "scheduleRow", "(II)I"⟩, 10) := ⟨⟨by decide +kernel, by decide +kernel⟩, List.mem_of_getElem? (i := 25) (by decide +kernel), List.mem_of_getElem? (i := 256) (by decide +kernel), List.mem_of_getElem? (i := 257) (by decide +kernel)⟩
theorem lw_p1 : lw_okq (⟨"SlackMarket$Market", "setOffer", "(III)V"⟩, 9) := ⟨⟨by decide +kernel, by decide +kernel⟩, List.mem_of_getElem? (i := 19) (by decide +kernel), List.mem_of_getElem? (i := 305) (by decide +kernel), List.mem_of_getElem? (i := 306) (by decide +kernel)⟩
theorem lw_p2 : lw_okq (⟨"SlackMarket$Market", "latestExcept", "(I)I"⟩, 9) := ⟨⟨by decide +kernel, by decide +kernel⟩, List.mem_of_getElem? (i := 19) (by decide +kernel), List.mem_of_getElem? (i := 317) (by decide +kernel), List.mem_of_getElem? (i := 318) (by decide +kernel)⟩
theorem lw_p3 : lw_okq (⟨"SlackMarket$Plan", "linkFrom", "(I)V"⟩, 10) := ⟨⟨by decide +kernel, by decide +kernel⟩, List.mem_of_getElem? (i := 25) (by decide +kernel), List.mem_of_getElem? (i := 334) (by decide +kernel), List.mem_of_getElem? (i := 335) (by decide +kernel)⟩
theorem lw_p4 : lw_okq (⟨"SlackMarket$Market", "bestSellerExcept", "(I)I"⟩, 9) := ⟨⟨by decide +kernel, by decide +kernel⟩, List.mem_of_getElem? (i := 19) (by decide +kernel), List.mem_of_getElem? (i := 338) (by decide +kernel), List.mem_of_getElem? (i := 339) (by decide +kernel)⟩
theorem lw_p5 : lw_okq (⟨"SlackMarket$Market", "isInReach", "(I)Z"⟩, 9) := ⟨⟨by decide +kernel, by decide +kernel⟩, List.mem_of_getElem? (i := 19) (by decide +kernel), List.mem_of_getElem? (i := 342) (by decide +kernel), List.mem_of_getElem? (i := 343) (by decide +kernel)⟩
theorem lw_p6 : lw_okq (⟨"SlackMarket$Market", "isBetterSeller", "(II)Z"⟩, 9) := ⟨⟨by decide +kernel, by decide +kernel⟩, List.mem_of_getElem? (i := 19) (by decide +kernel), List.mem_of_getElem? (i := 346) (by decide +kernel), List.mem_of_getElem? (i := 347) (by decide +kernel)⟩
theorem lw_p7 : lw_okq (⟨"SlackMarket$Market", "buyFrom", "(II)V"⟩, 9) := ⟨⟨by decide +kernel, by decide +kernel⟩, List.mem_of_getElem? (i := 19) (by decide +kernel), List.mem_of_getElem? (i := 350) (by decide +kernel), List.mem_of_getElem? (i := 351) (by decide +kernel)⟩
theorem lw_p8 : lw_okq (⟨"SlackMarket$Contracts", "remove", "(I)V"⟩, 5) := ⟨⟨by decide +kernel, by decide +kernel⟩, List.mem_of_getElem? (i := 73) (by decide +kernel), List.mem_of_getElem? (i := 386) (by decide +kernel), List.mem_of_getElem? (i := 387) (by decide +kernel)⟩
theorem lw_p9 : lw_okq (⟨"SlackMarket$Market", "slackOf", "(I)I"⟩, 9) := ⟨⟨by decide +kernel, by decide +kernel⟩, List.mem_of_getElem? (i := 19) (by decide +kernel), List.mem_of_getElem? (i := 411) (by decide +kernel), List.mem_of_getElem? (i := 412) (by decide +kernel)⟩
theorem lw_p10 : lw_okq (⟨"SlackMarket$Market", "lowerLatestEnd", "(II)V"⟩, 9) := ⟨⟨by decide +kernel, by decide +kernel⟩, List.mem_of_getElem? (i := 19) (by decide +kernel), List.mem_of_getElem? (i := 423) (by decide +kernel), List.mem_of_getElem? (i := 424) (by decide +kernel)⟩
theorem lw_p11 : lw_okq (⟨"SlackMarket$Market", "offers", "()I"⟩, 9) := ⟨⟨by decide +kernel, by decide +kernel⟩, List.mem_of_getElem? (i := 19) (by decide +kernel), List.mem_of_getElem? (i := 471) (by decide +kernel), List.mem_of_getElem? (i := 472) (by decide +kernel)⟩
theorem lw_p12 : lw_okq (⟨"SlackMarket$Market", "lateTasks", "()I"⟩, 9) := ⟨⟨by decide +kernel, by decide +kernel⟩, List.mem_of_getElem? (i := 19) (by decide +kernel), List.mem_of_getElem? (i := 475) (by decide +kernel), List.mem_of_getElem? (i := 476) (by decide +kernel)⟩
theorem lw_p13 : lw_okq (⟨"SlackMarket$Market", "allMoney", "()I"⟩, 9) := ⟨⟨by decide +kernel, by decide +kernel⟩, List.mem_of_getElem? (i := 19) (by decide +kernel), List.mem_of_getElem? (i := 483) (by decide +kernel), List.mem_of_getElem? (i := 484) (by decide +kernel)⟩
theorem lw_p14 : lw_okq (⟨"SlackMarket$Plan", "waitedFor", "(I)I"⟩, 10) := ⟨⟨by decide +kernel, by decide +kernel⟩, List.mem_of_getElem? (i := 25) (by decide +kernel), List.mem_of_getElem? (i := 535) (by decide +kernel), List.mem_of_getElem? (i := 536) (by decide +kernel)⟩
theorem lw_p15 : lw_okq (⟨"SlackMarket$Pad", "here", "()I"⟩, 6) := ⟨⟨by decide +kernel, by decide +kernel⟩, List.mem_of_getElem? (i := 153) (by decide +kernel), List.mem_of_getElem? (i := 581) (by decide +kernel), List.mem_of_getElem? (i := 582) (by decide +kernel)⟩
def lw_privs_1 : List (MethodName × Nat) := [(⟨"SlackMarket$Plan", "scheduleRow", "(II)I"⟩, 10), (⟨"SlackMarket$Market", "setOffer", "(III)V"⟩, 9), (⟨"SlackMarket$Market", "latestExcept", "(I)I"⟩, 9), (⟨"SlackMarket$Plan", "linkFrom", "(I)V"⟩, 10), (⟨"SlackMarket$Market", "bestSellerExcept", "(I)I"⟩, 9), (⟨"SlackMarket$Market", "isInReach", "(I)Z"⟩, 9), (⟨"SlackMarket$Market", "isBetterSeller", "(II)Z"⟩, 9), (⟨"SlackMarket$Market", "buyFrom", "(II)V"⟩, 9), (⟨"SlackMarket$Contracts", "remove", "(I)V"⟩, 5), (⟨"SlackMarket$Market", "slackOf", "(I)I"⟩, 9), (⟨"SlackMarket$Market", "lowerLatestEnd", "(II)V"⟩, 9), (⟨"SlackMarket$Market", "offers", "()I"⟩, 9), (⟨"SlackMarket$Market", "lateTasks", "()I"⟩, 9), (⟨"SlackMarket$Market", "allMoney", "()I"⟩, 9), (⟨"SlackMarket$Plan", "waitedFor", "(I)I"⟩, 10), (⟨"SlackMarket$Pad", "here", "()I"⟩, 6)]
theorem lw_r1 : ∀ q ∈ lw_privs_1, lw_okq q := List.forall_mem_cons.mpr ⟨lw_p0, List.forall_mem_cons.mpr ⟨lw_p1, List.forall_mem_cons.mpr ⟨lw_p2, List.forall_mem_cons.mpr ⟨lw_p3, List.forall_mem_cons.mpr ⟨lw_p4, List.forall_mem_cons.mpr ⟨lw_p5, List.forall_mem_cons.mpr ⟨lw_p6, List.forall_mem_cons.mpr ⟨lw_p7, List.forall_mem_cons.mpr ⟨lw_p8, List.forall_mem_cons.mpr ⟨lw_p9, List.forall_mem_cons.mpr ⟨lw_p10, List.forall_mem_cons.mpr ⟨lw_p11, List.forall_mem_cons.mpr ⟨lw_p12, List.forall_mem_cons.mpr ⟨lw_p13, List.forall_mem_cons.mpr ⟨lw_p14, List.forall_mem_cons.mpr ⟨lw_p15, fun _ h => absurd h List.not_mem_nil⟩⟩⟩⟩⟩⟩⟩⟩⟩⟩⟩⟩⟩⟩⟩⟩
theorem lw_p16 : lw_okq (⟨"SlackMarket$Pad", "readSign", "(C)Z"⟩, 6) := ⟨⟨by decide +kernel, by decide +kernel⟩, List.mem_of_getElem? (i := 153) (by decide +kernel), List.mem_of_getElem? (i := 585) (by decide +kernel), List.mem_of_getElem? (i := 586) (by decide +kernel)⟩
theorem lw_p17 : lw_okq (⟨"SlackMarket$Pad", "readTask", "()Z"⟩, 6) := ⟨⟨by decide +kernel, by decide +kernel⟩, List.mem_of_getElem? (i := 153) (by decide +kernel), List.mem_of_getElem? (i := 589) (by decide +kernel), List.mem_of_getElem? (i := 590) (by decide +kernel)⟩
theorem lw_p18 : lw_okq (⟨"SlackMarket$Pad", "readDigit", "()Z"⟩, 6) := ⟨⟨by decide +kernel, by decide +kernel⟩, List.mem_of_getElem? (i := 153) (by decide +kernel), List.mem_of_getElem? (i := 593) (by decide +kernel), List.mem_of_getElem? (i := 594) (by decide +kernel)⟩
theorem lw_p19 : lw_okq (⟨"SlackMarket$Pad", "isDigit", "()Z"⟩, 6) := ⟨⟨by decide +kernel, by decide +kernel⟩, List.mem_of_getElem? (i := 153) (by decide +kernel), List.mem_of_getElem? (i := 597) (by decide +kernel), List.mem_of_getElem? (i := 598) (by decide +kernel)⟩
theorem lw_p20 : lw_okq (⟨"SlackMarket$Pad", "keep", "(I)Z"⟩, 6) := ⟨⟨by decide +kernel, by decide +kernel⟩, List.mem_of_getElem? (i := 153) (by decide +kernel), List.mem_of_getElem? (i := 601) (by decide +kernel), List.mem_of_getElem? (i := 602) (by decide +kernel)⟩
theorem lw_p21 : lw_okq (⟨"SlackMarket$Pad", "readNumber", "()Z"⟩, 6) := ⟨⟨by decide +kernel, by decide +kernel⟩, List.mem_of_getElem? (i := 153) (by decide +kernel), List.mem_of_getElem? (i := 605) (by decide +kernel), List.mem_of_getElem? (i := 606) (by decide +kernel)⟩
theorem lw_p22 : lw_okq (⟨"SlackMarket$Pad", "readPair", "(C)Z"⟩, 6) := ⟨⟨by decide +kernel, by decide +kernel⟩, List.mem_of_getElem? (i := 153) (by decide +kernel), List.mem_of_getElem? (i := 609) (by decide +kernel), List.mem_of_getElem? (i := 610) (by decide +kernel)⟩
theorem lw_p23 : lw_okq (⟨"SlackMarket", "carryOrders", "()I"⟩, 6) := ⟨⟨by decide +kernel, by decide +kernel⟩, List.mem_of_getElem? (i := 11) (by decide +kernel), List.mem_of_getElem? (i := 621) (by decide +kernel), List.mem_of_getElem? (i := 622) (by decide +kernel)⟩
theorem lw_p24 : lw_okq (⟨"SlackMarket", "carryOrder", "()I"⟩, 6) := ⟨⟨by decide +kernel, by decide +kernel⟩, List.mem_of_getElem? (i := 11) (by decide +kernel), List.mem_of_getElem? (i := 627) (by decide +kernel), List.mem_of_getElem? (i := 628) (by decide +kernel)⟩
theorem lw_p25 : lw_okq (⟨"SlackMarketModel", "record", "()V"⟩, 19) := ⟨⟨by decide +kernel, by decide +kernel⟩, List.mem_of_getElem? (i := 648) (by decide +kernel), List.mem_of_getElem? (i := 727) (by decide +kernel), List.mem_of_getElem? (i := 728) (by decide +kernel)⟩
theorem lw_p26 : lw_okq (⟨"SlackMarketModel", "isTask", "(I)Z"⟩, 19) := ⟨⟨by decide +kernel, by decide +kernel⟩, List.mem_of_getElem? (i := 648) (by decide +kernel), List.mem_of_getElem? (i := 739) (by decide +kernel), List.mem_of_getElem? (i := 740) (by decide +kernel)⟩
theorem lw_p27 : lw_okq (⟨"SlackMarketModel", "manyOn", "(I)I"⟩, 19) := ⟨⟨by decide +kernel, by decide +kernel⟩, List.mem_of_getElem? (i := 648) (by decide +kernel), List.mem_of_getElem? (i := 744) (by decide +kernel), List.mem_of_getElem? (i := 745) (by decide +kernel)⟩
theorem lw_p28 : lw_okq (⟨"SlackMarketModel", "putAt", "(II)V"⟩, 19) := ⟨⟨by decide +kernel, by decide +kernel⟩, List.mem_of_getElem? (i := 648) (by decide +kernel), List.mem_of_getElem? (i := 756) (by decide +kernel), List.mem_of_getElem? (i := 757) (by decide +kernel)⟩
theorem lw_p29 : lw_okq (⟨"SlackMarketModel", "reckon", "()Z"⟩, 19) := ⟨⟨by decide +kernel, by decide +kernel⟩, List.mem_of_getElem? (i := 648) (by decide +kernel), List.mem_of_getElem? (i := 760) (by decide +kernel), List.mem_of_getElem? (i := 761) (by decide +kernel)⟩
theorem lw_p30 : lw_okq (⟨"SlackMarketModel", "endOf", "(I)I"⟩, 19) := ⟨⟨by decide +kernel, by decide +kernel⟩, List.mem_of_getElem? (i := 648) (by decide +kernel), List.mem_of_getElem? (i := 764) (by decide +kernel), List.mem_of_getElem? (i := 765) (by decide +kernel)⟩
theorem lw_p31 : lw_okq (⟨"SlackMarketModel", "taskAt", "(II)I"⟩, 19) := ⟨⟨by decide +kernel, by decide +kernel⟩, List.mem_of_getElem? (i := 648) (by decide +kernel), List.mem_of_getElem? (i := 768) (by decide +kernel), List.mem_of_getElem? (i := 769) (by decide +kernel)⟩
def lw_privs_2 : List (MethodName × Nat) := [(⟨"SlackMarket$Pad", "readSign", "(C)Z"⟩, 6), (⟨"SlackMarket$Pad", "readTask", "()Z"⟩, 6), (⟨"SlackMarket$Pad", "readDigit", "()Z"⟩, 6), (⟨"SlackMarket$Pad", "isDigit", "()Z"⟩, 6), (⟨"SlackMarket$Pad", "keep", "(I)Z"⟩, 6), (⟨"SlackMarket$Pad", "readNumber", "()Z"⟩, 6), (⟨"SlackMarket$Pad", "readPair", "(C)Z"⟩, 6), (⟨"SlackMarket", "carryOrders", "()I"⟩, 6), (⟨"SlackMarket", "carryOrder", "()I"⟩, 6), (⟨"SlackMarketModel", "record", "()V"⟩, 19), (⟨"SlackMarketModel", "isTask", "(I)Z"⟩, 19), (⟨"SlackMarketModel", "manyOn", "(I)I"⟩, 19), (⟨"SlackMarketModel", "putAt", "(II)V"⟩, 19), (⟨"SlackMarketModel", "reckon", "()Z"⟩, 19), (⟨"SlackMarketModel", "endOf", "(I)I"⟩, 19), (⟨"SlackMarketModel", "taskAt", "(II)I"⟩, 19)]
theorem lw_r2 : ∀ q ∈ lw_privs_2, lw_okq q := List.forall_mem_cons.mpr ⟨lw_p16, List.forall_mem_cons.mpr ⟨lw_p17, List.forall_mem_cons.mpr ⟨lw_p18, List.forall_mem_cons.mpr ⟨lw_p19, List.forall_mem_cons.mpr ⟨lw_p20, List.forall_mem_cons.mpr ⟨lw_p21, List.forall_mem_cons.mpr ⟨lw_p22, List.forall_mem_cons.mpr ⟨lw_p23, List.forall_mem_cons.mpr ⟨lw_p24, List.forall_mem_cons.mpr ⟨lw_p25, List.forall_mem_cons.mpr ⟨lw_p26, List.forall_mem_cons.mpr ⟨lw_p27, List.forall_mem_cons.mpr ⟨lw_p28, List.forall_mem_cons.mpr ⟨lw_p29, List.forall_mem_cons.mpr ⟨lw_p30, List.forall_mem_cons.mpr ⟨lw_p31, fun _ h => absurd h List.not_mem_nil⟩⟩⟩⟩⟩⟩⟩⟩⟩⟩⟩⟩⟩⟩⟩⟩
theorem lw_p32 : lw_okq (⟨"SlackMarketModel", "measure", "(I)V"⟩, 19) := ⟨⟨by decide +kernel, by decide +kernel⟩, List.mem_of_getElem? (i := 648) (by decide +kernel), List.mem_of_getElem? (i := 776) (by decide +kernel), List.mem_of_getElem? (i := 777) (by decide +kernel)⟩
theorem lw_p33 : lw_okq (⟨"SlackMarketModel", "areLinked", "(II)Z"⟩, 19) := ⟨⟨by decide +kernel, by decide +kernel⟩, List.mem_of_getElem? (i := 648) (by decide +kernel), List.mem_of_getElem? (i := 780) (by decide +kernel), List.mem_of_getElem? (i := 781) (by decide +kernel)⟩
theorem lw_p34 : lw_okq (⟨"SlackMarketModel", "tradeAll", "()V"⟩, 19) := ⟨⟨by decide +kernel, by decide +kernel⟩, List.mem_of_getElem? (i := 648) (by decide +kernel), List.mem_of_getElem? (i := 792) (by decide +kernel), List.mem_of_getElem? (i := 793) (by decide +kernel)⟩
theorem lw_p35 : lw_okq (⟨"SlackMarketModel", "late", "(I)I"⟩, 19) := ⟨⟨by decide +kernel, by decide +kernel⟩, List.mem_of_getElem? (i := 648) (by decide +kernel), List.mem_of_getElem? (i := 796) (by decide +kernel), List.mem_of_getElem? (i := 797) (by decide +kernel)⟩
theorem lw_p36 : lw_okq (⟨"SlackMarketModel", "buys", "(I)V"⟩, 19) := ⟨⟨by decide +kernel, by decide +kernel⟩, List.mem_of_getElem? (i := 648) (by decide +kernel), List.mem_of_getElem? (i := 800) (by decide +kernel), List.mem_of_getElem? (i := 801) (by decide +kernel)⟩
theorem lw_p37 : lw_okq (⟨"SlackMarketModel", "nextOffer", "(II)I"⟩, 19) := ⟨⟨by decide +kernel, by decide +kernel⟩, List.mem_of_getElem? (i := 648) (by decide +kernel), List.mem_of_getElem? (i := 804) (by decide +kernel), List.mem_of_getElem? (i := 805) (by decide +kernel)⟩
theorem lw_p38 : lw_okq (⟨"SlackMarketModel", "isSooner", "(II)Z"⟩, 19) := ⟨⟨by decide +kernel, by decide +kernel⟩, List.mem_of_getElem? (i := 648) (by decide +kernel), List.mem_of_getElem? (i := 808) (by decide +kernel), List.mem_of_getElem? (i := 809) (by decide +kernel)⟩
theorem lw_p39 : lw_okq (⟨"SlackMarketModel", "hoursOf", "(II)I"⟩, 19) := ⟨⟨by decide +kernel, by decide +kernel⟩, List.mem_of_getElem? (i := 648) (by decide +kernel), List.mem_of_getElem? (i := 812) (by decide +kernel), List.mem_of_getElem? (i := 813) (by decide +kernel)⟩
theorem lw_p40 : lw_okq (⟨"SlackMarketModel", "spared", "(I)I"⟩, 19) := ⟨⟨by decide +kernel, by decide +kernel⟩, List.mem_of_getElem? (i := 648) (by decide +kernel), List.mem_of_getElem? (i := 819) (by decide +kernel), List.mem_of_getElem? (i := 820) (by decide +kernel)⟩
theorem lw_p41 : lw_okq (⟨"SlackMarketModel", "agree", "(III)V"⟩, 19) := ⟨⟨by decide +kernel, by decide +kernel⟩, List.mem_of_getElem? (i := 648) (by decide +kernel), List.mem_of_getElem? (i := 823) (by decide +kernel), List.mem_of_getElem? (i := 824) (by decide +kernel)⟩
theorem lw_p42 : lw_okq (⟨"SlackMarketModel", "isContract", "(I)Z"⟩, 19) := ⟨⟨by decide +kernel, by decide +kernel⟩, List.mem_of_getElem? (i := 648) (by decide +kernel), List.mem_of_getElem? (i := 831) (by decide +kernel), List.mem_of_getElem? (i := 832) (by decide +kernel)⟩
theorem lw_p43 : lw_okq (⟨"SlackMarketModel", "dropContract", "(I)V"⟩, 19) := ⟨⟨by decide +kernel, by decide +kernel⟩, List.mem_of_getElem? (i := 648) (by decide +kernel), List.mem_of_getElem? (i := 835) (by decide +kernel), List.mem_of_getElem? (i := 836) (by decide +kernel)⟩
theorem lw_p44 : lw_okq (⟨"SlackMarketModel", "slack", "(I)I"⟩, 19) := ⟨⟨by decide +kernel, by decide +kernel⟩, List.mem_of_getElem? (i := 648) (by decide +kernel), List.mem_of_getElem? (i := 847) (by decide +kernel), List.mem_of_getElem? (i := 848) (by decide +kernel)⟩
theorem lw_p45 : lw_okq (⟨"SlackMarketModel", "canBeHeld", "(II)Z"⟩, 19) := ⟨⟨by decide +kernel, by decide +kernel⟩, List.mem_of_getElem? (i := 648) (by decide +kernel), List.mem_of_getElem? (i := 851) (by decide +kernel), List.mem_of_getElem? (i := 852) (by decide +kernel)⟩
theorem lw_p46 : lw_okq (⟨"SlackMarketModel", "lateTogether", "()I"⟩, 19) := ⟨⟨by decide +kernel, by decide +kernel⟩, List.mem_of_getElem? (i := 648) (by decide +kernel), List.mem_of_getElem? (i := 855) (by decide +kernel), List.mem_of_getElem? (i := 856) (by decide +kernel)⟩
theorem lw_p47 : lw_okq (⟨"SlackMarketModel", "hoursBy", "(II)I"⟩, 19) := ⟨⟨by decide +kernel, by decide +kernel⟩, List.mem_of_getElem? (i := 648) (by decide +kernel), List.mem_of_getElem? (i := 859) (by decide +kernel), List.mem_of_getElem? (i := 860) (by decide +kernel)⟩
def lw_privs_3 : List (MethodName × Nat) := [(⟨"SlackMarketModel", "measure", "(I)V"⟩, 19), (⟨"SlackMarketModel", "areLinked", "(II)Z"⟩, 19), (⟨"SlackMarketModel", "tradeAll", "()V"⟩, 19), (⟨"SlackMarketModel", "late", "(I)I"⟩, 19), (⟨"SlackMarketModel", "buys", "(I)V"⟩, 19), (⟨"SlackMarketModel", "nextOffer", "(II)I"⟩, 19), (⟨"SlackMarketModel", "isSooner", "(II)Z"⟩, 19), (⟨"SlackMarketModel", "hoursOf", "(II)I"⟩, 19), (⟨"SlackMarketModel", "spared", "(I)I"⟩, 19), (⟨"SlackMarketModel", "agree", "(III)V"⟩, 19), (⟨"SlackMarketModel", "isContract", "(I)Z"⟩, 19), (⟨"SlackMarketModel", "dropContract", "(I)V"⟩, 19), (⟨"SlackMarketModel", "slack", "(I)I"⟩, 19), (⟨"SlackMarketModel", "canBeHeld", "(II)Z"⟩, 19), (⟨"SlackMarketModel", "lateTogether", "()I"⟩, 19), (⟨"SlackMarketModel", "hoursBy", "(II)I"⟩, 19)]
theorem lw_r3 : ∀ q ∈ lw_privs_3, lw_okq q := List.forall_mem_cons.mpr ⟨lw_p32, List.forall_mem_cons.mpr ⟨lw_p33, List.forall_mem_cons.mpr ⟨lw_p34, List.forall_mem_cons.mpr ⟨lw_p35, List.forall_mem_cons.mpr ⟨lw_p36, List.forall_mem_cons.mpr ⟨lw_p37, List.forall_mem_cons.mpr ⟨lw_p38, List.forall_mem_cons.mpr ⟨lw_p39, List.forall_mem_cons.mpr ⟨lw_p40, List.forall_mem_cons.mpr ⟨lw_p41, List.forall_mem_cons.mpr ⟨lw_p42, List.forall_mem_cons.mpr ⟨lw_p43, List.forall_mem_cons.mpr ⟨lw_p44, List.forall_mem_cons.mpr ⟨lw_p45, List.forall_mem_cons.mpr ⟨lw_p46, List.forall_mem_cons.mpr ⟨lw_p47, fun _ h => absurd h List.not_mem_nil⟩⟩⟩⟩⟩⟩⟩⟩⟩⟩⟩⟩⟩⟩⟩⟩
theorem lw_p48 : lw_okq (⟨"SlackMarketModel", "behind", "(I)I"⟩, 19) := ⟨⟨by decide +kernel, by decide +kernel⟩, List.mem_of_getElem? (i := 648) (by decide +kernel), List.mem_of_getElem? (i := 863) (by decide +kernel), List.mem_of_getElem? (i := 864) (by decide +kernel)⟩
theorem lw_p49 : lw_okq (⟨"SlackMarketModel", "offers", "()I"⟩, 19) := ⟨⟨by decide +kernel, by decide +kernel⟩, List.mem_of_getElem? (i := 648) (by decide +kernel), List.mem_of_getElem? (i := 888) (by decide +kernel), List.mem_of_getElem? (i := 889) (by decide +kernel)⟩
theorem lw_p50 : lw_okq (⟨"SlackMarketModel", "lateSet", "()I"⟩, 19) := ⟨⟨by decide +kernel, by decide +kernel⟩, List.mem_of_getElem? (i := 648) (by decide +kernel), List.mem_of_getElem? (i := 892) (by decide +kernel), List.mem_of_getElem? (i := 893) (by decide +kernel)⟩
theorem lw_p51 : lw_okq (⟨"SlackMarketModel", "endOfAll", "()I"⟩, 19) := ⟨⟨by decide +kernel, by decide +kernel⟩, List.mem_of_getElem? (i := 648) (by decide +kernel), List.mem_of_getElem? (i := 896) (by decide +kernel), List.mem_of_getElem? (i := 897) (by decide +kernel)⟩
theorem lw_p52 : lw_okq (⟨"SlackMarketModel", "sumOf", "(II)I"⟩, 19) := ⟨⟨by decide +kernel, by decide +kernel⟩, List.mem_of_getElem? (i := 648) (by decide +kernel), List.mem_of_getElem? (i := 900) (by decide +kernel), List.mem_of_getElem? (i := 901) (by decide +kernel)⟩
theorem lw_p53 : lw_okq (⟨"SlackMarketModel", "putAside", "()V"⟩, 19) := ⟨⟨by decide +kernel, by decide +kernel⟩, List.mem_of_getElem? (i := 648) (by decide +kernel), List.mem_of_getElem? (i := 908) (by decide +kernel), List.mem_of_getElem? (i := 909) (by decide +kernel)⟩
theorem lw_p54 : lw_okq (⟨"SlackMarketModel", "bringBack", "()V"⟩, 19) := ⟨⟨by decide +kernel, by decide +kernel⟩, List.mem_of_getElem? (i := 648) (by decide +kernel), List.mem_of_getElem? (i := 912) (by decide +kernel), List.mem_of_getElem? (i := 913) (by decide +kernel)⟩
theorem lw_p55 : lw_okq (⟨"SlackMarketModel", "readPad", "()V"⟩, 19) := ⟨⟨by decide +kernel, by decide +kernel⟩, List.mem_of_getElem? (i := 648) (by decide +kernel), List.mem_of_getElem? (i := 950) (by decide +kernel), List.mem_of_getElem? (i := 951) (by decide +kernel)⟩
theorem lw_p56 : lw_okq (⟨"SlackMarketModel", "readOrder", "(I)V"⟩, 19) := ⟨⟨by decide +kernel, by decide +kernel⟩, List.mem_of_getElem? (i := 648) (by decide +kernel), List.mem_of_getElem? (i := 954) (by decide +kernel), List.mem_of_getElem? (i := 955) (by decide +kernel)⟩
theorem lw_p57 : lw_okq (⟨"SlackMarketModel", "letter", "(I)I"⟩, 19) := ⟨⟨by decide +kernel, by decide +kernel⟩, List.mem_of_getElem? (i := 648) (by decide +kernel), List.mem_of_getElem? (i := 958) (by decide +kernel), List.mem_of_getElem? (i := 959) (by decide +kernel)⟩
theorem lw_p58 : lw_okq (⟨"SlackMarketModel", "readTask", "(I)V"⟩, 19) := ⟨⟨by decide +kernel, by decide +kernel⟩, List.mem_of_getElem? (i := 648) (by decide +kernel), List.mem_of_getElem? (i := 962) (by decide +kernel), List.mem_of_getElem? (i := 963) (by decide +kernel)⟩
theorem lw_p59 : lw_okq (⟨"SlackMarketModel", "takesMachine", "()I"⟩, 19) := ⟨⟨by decide +kernel, by decide +kernel⟩, List.mem_of_getElem? (i := 648) (by decide +kernel), List.mem_of_getElem? (i := 966) (by decide +kernel), List.mem_of_getElem? (i := 967) (by decide +kernel)⟩
theorem lw_p60 : lw_okq (⟨"SlackMarketModel", "fail", "()V"⟩, 19) := ⟨⟨by decide +kernel, by decide +kernel⟩, List.mem_of_getElem? (i := 648) (by decide +kernel), List.mem_of_getElem? (i := 970) (by decide +kernel), List.mem_of_getElem? (i := 971) (by decide +kernel)⟩
theorem lw_p61 : lw_okq (⟨"SlackMarketModel", "takes", "(I)V"⟩, 19) := ⟨⟨by decide +kernel, by decide +kernel⟩, List.mem_of_getElem? (i := 648) (by decide +kernel), List.mem_of_getElem? (i := 974) (by decide +kernel), List.mem_of_getElem? (i := 975) (by decide +kernel)⟩
theorem lw_p62 : lw_okq (⟨"SlackMarketModel", "takesNumber", "()I"⟩, 19) := ⟨⟨by decide +kernel, by decide +kernel⟩, List.mem_of_getElem? (i := 648) (by decide +kernel), List.mem_of_getElem? (i := 978) (by decide +kernel), List.mem_of_getElem? (i := 979) (by decide +kernel)⟩
theorem lw_p63 : lw_okq (⟨"SlackMarketModel", "isDigit", "(I)Z"⟩, 19) := ⟨⟨by decide +kernel, by decide +kernel⟩, List.mem_of_getElem? (i := 648) (by decide +kernel), List.mem_of_getElem? (i := 982) (by decide +kernel), List.mem_of_getElem? (i := 983) (by decide +kernel)⟩
def lw_privs_4 : List (MethodName × Nat) := [(⟨"SlackMarketModel", "behind", "(I)I"⟩, 19), (⟨"SlackMarketModel", "offers", "()I"⟩, 19), (⟨"SlackMarketModel", "lateSet", "()I"⟩, 19), (⟨"SlackMarketModel", "endOfAll", "()I"⟩, 19), (⟨"SlackMarketModel", "sumOf", "(II)I"⟩, 19), (⟨"SlackMarketModel", "putAside", "()V"⟩, 19), (⟨"SlackMarketModel", "bringBack", "()V"⟩, 19), (⟨"SlackMarketModel", "readPad", "()V"⟩, 19), (⟨"SlackMarketModel", "readOrder", "(I)V"⟩, 19), (⟨"SlackMarketModel", "letter", "(I)I"⟩, 19), (⟨"SlackMarketModel", "readTask", "(I)V"⟩, 19), (⟨"SlackMarketModel", "takesMachine", "()I"⟩, 19), (⟨"SlackMarketModel", "fail", "()V"⟩, 19), (⟨"SlackMarketModel", "takes", "(I)V"⟩, 19), (⟨"SlackMarketModel", "takesNumber", "()I"⟩, 19), (⟨"SlackMarketModel", "isDigit", "(I)Z"⟩, 19)]
theorem lw_r4 : ∀ q ∈ lw_privs_4, lw_okq q := List.forall_mem_cons.mpr ⟨lw_p48, List.forall_mem_cons.mpr ⟨lw_p49, List.forall_mem_cons.mpr ⟨lw_p50, List.forall_mem_cons.mpr ⟨lw_p51, List.forall_mem_cons.mpr ⟨lw_p52, List.forall_mem_cons.mpr ⟨lw_p53, List.forall_mem_cons.mpr ⟨lw_p54, List.forall_mem_cons.mpr ⟨lw_p55, List.forall_mem_cons.mpr ⟨lw_p56, List.forall_mem_cons.mpr ⟨lw_p57, List.forall_mem_cons.mpr ⟨lw_p58, List.forall_mem_cons.mpr ⟨lw_p59, List.forall_mem_cons.mpr ⟨lw_p60, List.forall_mem_cons.mpr ⟨lw_p61, List.forall_mem_cons.mpr ⟨lw_p62, List.forall_mem_cons.mpr ⟨lw_p63, fun _ h => absurd h List.not_mem_nil⟩⟩⟩⟩⟩⟩⟩⟩⟩⟩⟩⟩⟩⟩⟩⟩
theorem lw_p64 : lw_okq (⟨"SlackMarketModel", "readTwo", "(II)V"⟩, 19) := ⟨⟨by decide +kernel, by decide +kernel⟩, List.mem_of_getElem? (i := 648) (by decide +kernel), List.mem_of_getElem? (i := 986) (by decide +kernel), List.mem_of_getElem? (i := 987) (by decide +kernel)⟩
theorem lw_p65 : lw_okq (⟨"SlackMarketModel", "does", "(I)I"⟩, 19) := ⟨⟨by decide +kernel, by decide +kernel⟩, List.mem_of_getElem? (i := 648) (by decide +kernel), List.mem_of_getElem? (i := 994) (by decide +kernel), List.mem_of_getElem? (i := 995) (by decide +kernel)⟩
def lw_privs_5 : List (MethodName × Nat) := [(⟨"SlackMarketModel", "readTwo", "(II)V"⟩, 19), (⟨"SlackMarketModel", "does", "(I)I"⟩, 19)]
theorem lw_r5 : ∀ q ∈ lw_privs_5, lw_okq q := List.forall_mem_cons.mpr ⟨lw_p64, List.forall_mem_cons.mpr ⟨lw_p65, fun _ h => absurd h List.not_mem_nil⟩⟩
def lw_privs : List (MethodName × Nat) := lw_privs_1 ++ (lw_privs_2 ++ (lw_privs_3 ++ (lw_privs_4 ++ (lw_privs_5))))
def lw_tbl : List Cond := k2_sels lw_privs ++ tables_1
theorem lw_privs_ok : ∀ q ∈ lw_privs, lw_okq q := by
  show ∀ q ∈ lw_privs_1 ++ (lw_privs_2 ++ (lw_privs_3 ++ (lw_privs_4 ++ (lw_privs_5)))), lw_okq q
  exact List.forall_mem_append.mpr ⟨lw_r1, List.forall_mem_append.mpr ⟨lw_r2, List.forall_mem_append.mpr ⟨lw_r3, List.forall_mem_append.mpr ⟨lw_r4, lw_r5⟩⟩⟩⟩
-- ===== end of PART A; then your names; then what follows =====
def RX0 : String := "SlackMarket$Contracts"
def TX0 : u_T := fun k => match k with
  | 0 => ("SlackMarket$Contracts", "total", "I", false)
  | 1 => ("SlackMarket$Contracts", "sellers", "[I", true)
  | 2 => ("SlackMarket$Contracts", "buyers", "[I", true)
  | 3 => ("SlackMarket$Contracts", "hours", "[I", true)
  | _ => ("SlackMarket$Contracts", "prices", "[I", true)
def tyX0 : Nat → FieldType := fun k => match k with
  | 0 => .int
  | 1 => .array .int
  | 2 => .array .int
  | 3 => .array .int
  | _ => .array .int
abbrev wsX00 : List Cond := u_ws RX0 TX0 5
theorem nmX0 : ∀ a, a < 5 → ∀ b, b < 5 → a ≠ b → (TX0 a).2.1 ≠ (TX0 b).2.1 := by decide +kernel
theorem tyX0_ok : ∀ k, k < 5 → parseFieldDescriptor (TX0 k).2.2.1 = some (tyX0 k) := by decide +kernel
abbrev cX0_init : ByteArray := prog_2_method_1_code
def yX0_init : MethodName := ⟨RX0, "<init>", "()V"⟩
abbrev cX0_copyFrom : ByteArray := prog_2_method_2_code
def yX0_copyFrom : MethodName := ⟨RX0, "copyFrom", "(LSlackMarket$Contracts;)V"⟩
abbrev cX0_has : ByteArray := prog_2_method_3_code
def yX0_has : MethodName := ⟨RX0, "has", "(I)Z"⟩
abbrev cX0_tell : ByteArray := prog_2_method_4_code
def yX0_tell : MethodName := ⟨RX0, "tell", "(II)I"⟩
abbrev cX0_isFull : ByteArray := prog_2_method_5_code
def yX0_isFull : MethodName := ⟨RX0, "isFull", "()Z"⟩
abbrev cX0_append : ByteArray := prog_2_method_6_code
def yX0_append : MethodName := ⟨RX0, "append", "(IIII)V"⟩
abbrev cX0_lessen : ByteArray := prog_2_method_7_code
def yX0_lessen : MethodName := ⟨RX0, "lessen", "(II)I"⟩
abbrev cX0_remove : ByteArray := prog_2_method_8_code
def yX0_remove : MethodName := ⟨RX0, "remove", "(I)V"⟩
abbrev cX0_soldBy : ByteArray := prog_2_method_9_code
def yX0_soldBy : MethodName := ⟨RX0, "soldBy", "(I)I"⟩
abbrev cX0_boughtBy : ByteArray := prog_2_method_10_code
def yX0_boughtBy : MethodName := ⟨RX0, "boughtBy", "(I)I"⟩
abbrev cX0_allHours : ByteArray := prog_2_method_11_code
def yX0_allHours : MethodName := ⟨RX0, "allHours", "()I"⟩
abbrev cX0_sellersSince : ByteArray := prog_2_method_12_code
def yX0_sellersSince : MethodName := ⟨RX0, "sellersSince", "(I)I"⟩
def RX1 : String := "SlackMarket$History"
def TX1 : u_T := fun k => match k with
  | 0 => ("SlackMarket$History", "ring", "[LSlackMarket$Market;", true)
  | 1 => ("SlackMarket$History", "first", "I", false)
  | _ => ("SlackMarket$History", "kept", "I", false)
def tyX1 : Nat → FieldType := fun k => match k with
  | 0 => .array (.object "SlackMarket$Market")
  | 1 => .int
  | _ => .int
abbrev wsX10 : List Cond := u_ws RX1 TX1 3
theorem nmX1 : ∀ a, a < 3 → ∀ b, b < 3 → a ≠ b → (TX1 a).2.1 ≠ (TX1 b).2.1 := by decide +kernel
theorem tyX1_ok : ∀ k, k < 3 → parseFieldDescriptor (TX1 k).2.2.1 = some (tyX1 k) := by decide +kernel
abbrev cX1_init : ByteArray := prog_3_method_1_code
def yX1_init : MethodName := ⟨RX1, "<init>", "()V"⟩
abbrev cX1_prepare : ByteArray := prog_3_method_2_code
def yX1_prepare : MethodName := ⟨RX1, "prepare", "(LSlackMarket$Market;)V"⟩
abbrev cX1_record : ByteArray := prog_3_method_3_code
def yX1_record : MethodName := ⟨RX1, "record", "(I)I"⟩
abbrev cX1_takeBack : ByteArray := prog_3_method_4_code
def yX1_takeBack : MethodName := ⟨RX1, "takeBack", "(LSlackMarket$Market;)I"⟩
def RX2 : String := "SlackMarket$Market"
def TX2 : u_T := fun k => match k with
  | 0 => ("SlackMarket$Market", "plan", "LSlackMarket$Plan;", true)
  | 1 => ("SlackMarket$Market", "contracts", "LSlackMarket$Contracts;", true)
  | 2 => ("SlackMarket$Market", "refundPercent", "I", false)
  | 3 => ("SlackMarket$Market", "reach", "I", false)
  | 4 => ("SlackMarket$Market", "dueOf", "[I", true)
  | 5 => ("SlackMarket$Market", "moneyOf", "[I", true)
  | 6 => ("SlackMarket$Market", "offered", "[I", true)
  | 7 => ("SlackMarket$Market", "prices", "[I", true)
  | _ => ("SlackMarket$Market", "latestEnds", "[I", true)
def tyX2 : Nat → FieldType := fun k => match k with
  | 0 => .object "SlackMarket$Plan"
  | 1 => .object "SlackMarket$Contracts"
  | 2 => .int
  | 3 => .int
  | 4 => .array .int
  | 5 => .array .int
  | 6 => .array .int
  | 7 => .array .int
  | _ => .array .int
abbrev wsX20 : List Cond := u_ws RX2 TX2 9
theorem nmX2 : ∀ a, a < 9 → ∀ b, b < 9 → a ≠ b → (TX2 a).2.1 ≠ (TX2 b).2.1 := by decide +kernel
theorem tyX2_ok : ∀ k, k < 9 → parseFieldDescriptor (TX2 k).2.2.1 = some (tyX2 k) := by decide +kernel
abbrev cX2_init : ByteArray := prog_4_method_1_code
def yX2_init : MethodName := ⟨RX2, "<init>", "()V"⟩
abbrev cX2_copyFrom : ByteArray := prog_4_method_2_code
def yX2_copyFrom : MethodName := ⟨RX2, "copyFrom", "(LSlackMarket$Market;)V"⟩
abbrev cX2_changeSetting : ByteArray := prog_4_method_3_code
def yX2_changeSetting : MethodName := ⟨RX2, "changeSetting", "(II)I"⟩
abbrev cX2_addTask : ByteArray := prog_4_method_4_code
def yX2_addTask : MethodName := ⟨RX2, "addTask", "(IIIII)I"⟩
abbrev cX2_changeDuration : ByteArray := prog_4_method_5_code
def yX2_changeDuration : MethodName := ⟨RX2, "changeDuration", "(II)I"⟩
abbrev cX2_moveTask : ByteArray := prog_4_method_6_code
def yX2_moveTask : MethodName := ⟨RX2, "moveTask", "(II)I"⟩
abbrev cX2_makeOffer : ByteArray := prog_4_method_7_code
def yX2_makeOffer : MethodName := ⟨RX2, "makeOffer", "(III)I"⟩
abbrev cX2_setOffer : ByteArray := prog_4_method_8_code
def yX2_setOffer : MethodName := ⟨RX2, "setOffer", "(III)V"⟩
abbrev cX2_giveMoney : ByteArray := prog_4_method_9_code
def yX2_giveMoney : MethodName := ⟨RX2, "giveMoney", "(III)I"⟩
abbrev cX2_giveBack : ByteArray := prog_4_method_10_code
def yX2_giveBack : MethodName := ⟨RX2, "giveBack", "(II)I"⟩
abbrev cX2_tradeAll : ByteArray := prog_4_method_11_code
def yX2_tradeAll : MethodName := ⟨RX2, "tradeAll", "()I"⟩
abbrev cX2_latestExcept : ByteArray := prog_4_method_12_code
def yX2_latestExcept : MethodName := ⟨RX2, "latestExcept", "(I)I"⟩
abbrev cX2_buyFor : ByteArray := prog_4_method_13_code
def yX2_buyFor : MethodName := ⟨RX2, "buyFor", "(I)V"⟩
abbrev cX2_bestSellerExcept : ByteArray := prog_4_method_14_code
def yX2_bestSellerExcept : MethodName := ⟨RX2, "bestSellerExcept", "(I)I"⟩
abbrev cX2_isInReach : ByteArray := prog_4_method_15_code
def yX2_isInReach : MethodName := ⟨RX2, "isInReach", "(I)Z"⟩
abbrev cX2_isBetterSeller : ByteArray := prog_4_method_16_code
def yX2_isBetterSeller : MethodName := ⟨RX2, "isBetterSeller", "(II)Z"⟩
abbrev cX2_buyFrom : ByteArray := prog_4_method_17_code
def yX2_buyFrom : MethodName := ⟨RX2, "buyFrom", "(II)V"⟩
abbrev cX2_lateOf : ByteArray := prog_4_method_18_code
def yX2_lateOf : MethodName := ⟨RX2, "lateOf", "(I)I"⟩
abbrev cX2_spareOf : ByteArray := prog_4_method_19_code
def yX2_spareOf : MethodName := ⟨RX2, "spareOf", "(I)I"⟩
abbrev cX2_lateTogether : ByteArray := prog_4_method_20_code
def yX2_lateTogether : MethodName := ⟨RX2, "lateTogether", "()I"⟩
abbrev cX2_lateTasks : ByteArray := prog_4_method_21_code
def yX2_lateTasks : MethodName := ⟨RX2, "lateTasks", "()I"⟩
abbrev cX2_offers : ByteArray := prog_4_method_22_code
def yX2_offers : MethodName := ⟨RX2, "offers", "()I"⟩
abbrev cX2_allMoney : ByteArray := prog_4_method_23_code
def yX2_allMoney : MethodName := ⟨RX2, "allMoney", "()I"⟩
abbrev cX2_slackOf : ByteArray := prog_4_method_24_code
def yX2_slackOf : MethodName := ⟨RX2, "slackOf", "(I)I"⟩
abbrev cX2_lowerLatestEnd : ByteArray := prog_4_method_25_code
def yX2_lowerLatestEnd : MethodName := ⟨RX2, "lowerLatestEnd", "(II)V"⟩
abbrev cX2_findBestPlace : ByteArray := prog_4_method_26_code
def yX2_findBestPlace : MethodName := ⟨RX2, "findBestPlace", "(I)I"⟩
abbrev cX2_tellOfTask : ByteArray := prog_4_method_27_code
def yX2_tellOfTask : MethodName := ⟨RX2, "tellOfTask", "(II)I"⟩
abbrev cX2_tellOfAll : ByteArray := prog_4_method_28_code
def yX2_tellOfAll : MethodName := ⟨RX2, "tellOfAll", "(I)I"⟩
def RX3 : String := "SlackMarket$Pad"
def TX3 : u_T := fun k => match k with
  | 0 => ("SlackMarket$Pad", "text", "[C", true)
  | 1 => ("SlackMarket$Pad", "length", "I", false)
  | 2 => ("SlackMarket$Pad", "at", "I", false)
  | 3 => ("SlackMarket$Pad", "kind", "I", false)
  | 4 => ("SlackMarket$Pad", "numbers", "[I", true)
  | _ => ("SlackMarket$Pad", "read", "I", false)
def tyX3 : Nat → FieldType := fun k => match k with
  | 0 => .array .char
  | 1 => .int
  | 2 => .int
  | 3 => .int
  | 4 => .array .int
  | _ => .int
abbrev wsX30 : List Cond := u_ws RX3 TX3 6
theorem nmX3 : ∀ a, a < 6 → ∀ b, b < 6 → a ≠ b → (TX3 a).2.1 ≠ (TX3 b).2.1 := by decide +kernel
theorem tyX3_ok : ∀ k, k < 6 → parseFieldDescriptor (TX3 k).2.2.1 = some (tyX3 k) := by decide +kernel
abbrev cX3_init : ByteArray := prog_5_method_1_code
def yX3_init : MethodName := ⟨RX3, "<init>", "()V"⟩
abbrev cX3_append : ByteArray := prog_5_method_2_code
def yX3_append : MethodName := ⟨RX3, "append", "(J)I"⟩
abbrev cX3_clear : ByteArray := prog_5_method_3_code
def yX3_clear : MethodName := ⟨RX3, "clear", "()I"⟩
abbrev cX3_toStart : ByteArray := prog_5_method_4_code
def yX3_toStart : MethodName := ⟨RX3, "toStart", "()V"⟩
abbrev cX3_findFault : ByteArray := prog_5_method_5_code
def yX3_findFault : MethodName := ⟨RX3, "findFault", "()I"⟩
abbrev cX3_readNext : ByteArray := prog_5_method_6_code
def yX3_readNext : MethodName := ⟨RX3, "readNext", "()Z"⟩
abbrev cX3_readOrder : ByteArray := prog_5_method_7_code
def yX3_readOrder : MethodName := ⟨RX3, "readOrder", "()Z"⟩
abbrev cX3_readTask : ByteArray := prog_5_method_8_code
def yX3_readTask : MethodName := ⟨RX3, "readTask", "()Z"⟩
abbrev cX3_readPair : ByteArray := prog_5_method_9_code
def yX3_readPair : MethodName := ⟨RX3, "readPair", "(C)Z"⟩
abbrev cX3_here : ByteArray := prog_5_method_10_code
def yX3_here : MethodName := ⟨RX3, "here", "()I"⟩
abbrev cX3_readSign : ByteArray := prog_5_method_11_code
def yX3_readSign : MethodName := ⟨RX3, "readSign", "(C)Z"⟩
abbrev cX3_isDigit : ByteArray := prog_5_method_12_code
def yX3_isDigit : MethodName := ⟨RX3, "isDigit", "()Z"⟩
abbrev cX3_readDigit : ByteArray := prog_5_method_13_code
def yX3_readDigit : MethodName := ⟨RX3, "readDigit", "()Z"⟩
abbrev cX3_readNumber : ByteArray := prog_5_method_14_code
def yX3_readNumber : MethodName := ⟨RX3, "readNumber", "()Z"⟩
abbrev cX3_keep : ByteArray := prog_5_method_15_code
def yX3_keep : MethodName := ⟨RX3, "keep", "(I)Z"⟩
def RX4 : String := "SlackMarket$Plan"
def TX4 : u_T := fun k => match k with
  | 0 => ("SlackMarket$Plan", "tasks", "I", false)
  | 1 => ("SlackMarket$Plan", "machineOf", "[I", true)
  | 2 => ("SlackMarket$Plan", "durationOf", "[I", true)
  | 3 => ("SlackMarket$Plan", "aheadOf", "[I", true)
  | 4 => ("SlackMarket$Plan", "ends", "[I", true)
  | 5 => ("SlackMarket$Plan", "order", "[I", true)
  | 6 => ("SlackMarket$Plan", "rows", "[I", true)
  | 7 => ("SlackMarket$Plan", "rowLength", "[I", true)
  | 8 => ("SlackMarket$Plan", "rowEnded", "[I", true)
  | _ => ("SlackMarket$Plan", "links", "[I", true)
def tyX4 : Nat → FieldType := fun k => match k with
  | 0 => .int
  | 1 => .array .int
  | 2 => .array .int
  | 3 => .array .int
  | 4 => .array .int
  | 5 => .array .int
  | 6 => .array .int
  | 7 => .array .int
  | 8 => .array .int
  | _ => .array .int
abbrev wsX40 : List Cond := u_ws RX4 TX4 10
theorem nmX4 : ∀ a, a < 10 → ∀ b, b < 10 → a ≠ b → (TX4 a).2.1 ≠ (TX4 b).2.1 := by decide +kernel
theorem tyX4_ok : ∀ k, k < 10 → parseFieldDescriptor (TX4 k).2.2.1 = some (tyX4 k) := by decide +kernel
abbrev cX4_init : ByteArray := prog_6_method_1_code
def yX4_init : MethodName := ⟨RX4, "<init>", "()V"⟩
abbrev cX4_copyFrom : ByteArray := prog_6_method_2_code
def yX4_copyFrom : MethodName := ⟨RX4, "copyFrom", "(LSlackMarket$Plan;)V"⟩
abbrev cX4_has : ByteArray := prog_6_method_3_code
def yX4_has : MethodName := ⟨RX4, "has", "(I)Z"⟩
abbrev cX4_inRow : ByteArray := prog_6_method_4_code
def yX4_inRow : MethodName := ⟨RX4, "inRow", "(II)I"⟩
abbrev cX4_placeOf : ByteArray := prog_6_method_5_code
def yX4_placeOf : MethodName := ⟨RX4, "placeOf", "(I)I"⟩
abbrev cX4_inFrontOf : ByteArray := prog_6_method_6_code
def yX4_inFrontOf : MethodName := ⟨RX4, "inFrontOf", "(I)I"⟩
abbrev cX4_endOf : ByteArray := prog_6_method_7_code
def yX4_endOf : MethodName := ⟨RX4, "endOf", "(I)I"⟩
abbrev cX4_startOf : ByteArray := prog_6_method_8_code
def yX4_startOf : MethodName := ⟨RX4, "startOf", "(I)I"⟩
abbrev cX4_endOfAll : ByteArray := prog_6_method_9_code
def yX4_endOfAll : MethodName := ⟨RX4, "endOfAll", "()I"⟩
abbrev cX4_append : ByteArray := prog_6_method_10_code
def yX4_append : MethodName := ⟨RX4, "append", "(III)V"⟩
abbrev cX4_shift : ByteArray := prog_6_method_11_code
def yX4_shift : MethodName := ⟨RX4, "shift", "(II)V"⟩
abbrev cX4_schedule : ByteArray := prog_6_method_12_code
def yX4_schedule : MethodName := ⟨RX4, "schedule", "()Z"⟩
abbrev cX4_scheduleRow : ByteArray := prog_6_method_13_code
def yX4_scheduleRow : MethodName := ⟨RX4, "scheduleRow", "(II)I"⟩
abbrev cX4_followersOf : ByteArray := prog_6_method_14_code
def yX4_followersOf : MethodName := ⟨RX4, "followersOf", "(I)I"⟩
abbrev cX4_longestChain : ByteArray := prog_6_method_15_code
def yX4_longestChain : MethodName := ⟨RX4, "longestChain", "()I"⟩
abbrev cX4_waitedFor : ByteArray := prog_6_method_16_code
def yX4_waitedFor : MethodName := ⟨RX4, "waitedFor", "(I)I"⟩
abbrev cX4_measureFrom : ByteArray := prog_6_method_17_code
def yX4_measureFrom : MethodName := ⟨RX4, "measureFrom", "(I)V"⟩
abbrev cX4_linkFrom : ByteArray := prog_6_method_18_code
def yX4_linkFrom : MethodName := ⟨RX4, "linkFrom", "(I)V"⟩
def RX5 : String := "SlackMarket"
def TX5 : u_T := fun k => match k with
  | 0 => ("SlackMarket", "now", "LSlackMarket$Market;", true)
  | 1 => ("SlackMarket", "trial", "LSlackMarket$Market;", true)
  | 2 => ("SlackMarket", "history", "LSlackMarket$History;", true)
  | 3 => ("SlackMarket", "slots", "[LSlackMarket$Market;", true)
  | 4 => ("SlackMarket", "slotFilled", "[Z", true)
  | _ => ("SlackMarket", "pad", "LSlackMarket$Pad;", true)
def tyX5 : Nat → FieldType := fun k => match k with
  | 0 => .object "SlackMarket$Market"
  | 1 => .object "SlackMarket$Market"
  | 2 => .object "SlackMarket$History"
  | 3 => .array (.object "SlackMarket$Market")
  | 4 => .array .boolean
  | _ => .object "SlackMarket$Pad"
abbrev wsX50 : List Cond := u_ws RX5 TX5 6
theorem nmX5 : ∀ a, a < 6 → ∀ b, b < 6 → a ≠ b → (TX5 a).2.1 ≠ (TX5 b).2.1 := by decide +kernel
theorem tyX5_ok : ∀ k, k < 6 → parseFieldDescriptor (TX5 k).2.2.1 = some (tyX5 k) := by decide +kernel
abbrev cX5_init : ByteArray := prog_1_method_1_code
def yX5_init : MethodName := ⟨RX5, "<init>", "()V"⟩
abbrev cX5_set : ByteArray := prog_1_method_2_code
def yX5_set : MethodName := ⟨RX5, "set", "(II)I"⟩
abbrev cX5_task : ByteArray := prog_1_method_3_code
def yX5_task : MethodName := ⟨RX5, "task", "(IIIII)I"⟩
abbrev cX5_duration : ByteArray := prog_1_method_4_code
def yX5_duration : MethodName := ⟨RX5, "duration", "(II)I"⟩
abbrev cX5_move : ByteArray := prog_1_method_5_code
def yX5_move : MethodName := ⟨RX5, "move", "(II)I"⟩
abbrev cX5_offer : ByteArray := prog_1_method_6_code
def yX5_offer : MethodName := ⟨RX5, "offer", "(III)I"⟩
abbrev cX5_trade : ByteArray := prog_1_method_7_code
def yX5_trade : MethodName := ⟨RX5, "trade", "()I"⟩
abbrev cX5_refund : ByteArray := prog_1_method_8_code
def yX5_refund : MethodName := ⟨RX5, "refund", "(II)I"⟩
abbrev cX5_give : ByteArray := prog_1_method_9_code
def yX5_give : MethodName := ⟨RX5, "give", "(III)I"⟩
abbrev cX5_ofTask : ByteArray := prog_1_method_10_code
def yX5_ofTask : MethodName := ⟨RX5, "ofTask", "(II)I"⟩
abbrev cX5_due : ByteArray := prog_1_method_11_code
def yX5_due : MethodName := ⟨RX5, "due", "(I)J"⟩
abbrev cX5_money : ByteArray := prog_1_method_12_code
def yX5_money : MethodName := ⟨RX5, "money", "(I)I"⟩
abbrev cX5_at : ByteArray := prog_1_method_13_code
def yX5_at : MethodName := ⟨RX5, "at", "(II)I"⟩
abbrev cX5_ofContract : ByteArray := prog_1_method_14_code
def yX5_ofContract : MethodName := ⟨RX5, "ofContract", "(II)I"⟩
abbrev cX5_count : ByteArray := prog_1_method_15_code
def yX5_count : MethodName := ⟨RX5, "count", "(I)I"⟩
abbrev cX5_distance : ByteArray := prog_1_method_16_code
def yX5_distance : MethodName := ⟨RX5, "distance", "(II)I"⟩
abbrev cX5_wouldBuy : ByteArray := prog_1_method_17_code
def yX5_wouldBuy : MethodName := ⟨RX5, "wouldBuy", "(II)I"⟩
abbrev cX5_leastMoney : ByteArray := prog_1_method_18_code
def yX5_leastMoney : MethodName := ⟨RX5, "leastMoney", "(I)I"⟩
abbrev cX5_endIf : ByteArray := prog_1_method_19_code
def yX5_endIf : MethodName := ⟨RX5, "endIf", "(III)I"⟩
abbrev cX5_bestPlace : ByteArray := prog_1_method_20_code
def yX5_bestPlace : MethodName := ⟨RX5, "bestPlace", "(I)I"⟩
abbrev cX5_critical : ByteArray := prog_1_method_21_code
def yX5_critical : MethodName := ⟨RX5, "critical", "()I"⟩
abbrev cX5_lateBehind : ByteArray := prog_1_method_22_code
def yX5_lateBehind : MethodName := ⟨RX5, "lateBehind", "()I"⟩
abbrev cX5_put : ByteArray := prog_1_method_23_code
def yX5_put : MethodName := ⟨RX5, "put", "(J)I"⟩
abbrev cX5_wipe : ByteArray := prog_1_method_24_code
def yX5_wipe : MethodName := ⟨RX5, "wipe", "()I"⟩
abbrev cX5_fault : ByteArray := prog_1_method_25_code
def yX5_fault : MethodName := ⟨RX5, "fault", "()I"⟩
abbrev cX5_carryOut : ByteArray := prog_1_method_26_code
def yX5_carryOut : MethodName := ⟨RX5, "carryOut", "()I"⟩
abbrev cX5_carryOrders : ByteArray := prog_1_method_27_code
def yX5_carryOrders : MethodName := ⟨RX5, "carryOrders", "()I"⟩
abbrev cX5_carryOrder : ByteArray := prog_1_method_28_code
def yX5_carryOrder : MethodName := ⟨RX5, "carryOrder", "()I"⟩
abbrev cX5_undo : ByteArray := prog_1_method_29_code
def yX5_undo : MethodName := ⟨RX5, "undo", "()I"⟩
abbrev cX5_save : ByteArray := prog_1_method_30_code
def yX5_save : MethodName := ⟨RX5, "save", "(I)I"⟩
abbrev cX5_restore : ByteArray := prog_1_method_31_code
def yX5_restore : MethodName := ⟨RX5, "restore", "(I)I"⟩
def RX6 : String := "SlackMarketModel"
def TX6 : u_T := fun k => match k with
  | 0 => ("SlackMarketModel", "z", "[I", true)
  | 1 => ("SlackMarketModel", "past", "[I", true)
  | 2 => ("SlackMarketModel", "slots", "[I", true)
  | 3 => ("SlackMarketModel", "isSaved", "[Z", true)
  | 4 => ("SlackMarketModel", "spare", "[I", true)
  | 5 => ("SlackMarketModel", "pastMany", "I", false)
  | 6 => ("SlackMarketModel", "isQuiet", "Z", false)
  | 7 => ("SlackMarketModel", "pad", "[C", true)
  | 8 => ("SlackMarketModel", "typed", "I", false)
  | 9 => ("SlackMarketModel", "starts", "[I", true)
  | 10 => ("SlackMarketModel", "ends", "[I", true)
  | 11 => ("SlackMarketModel", "heldTask", "I", false)
  | 12 => ("SlackMarketModel", "heldHours", "I", false)
  | 13 => ("SlackMarketModel", "far", "[I", true)
  | 14 => ("SlackMarketModel", "lateFirst", "[I", true)
  | 15 => ("SlackMarketModel", "orders", "[I", true)
  | 16 => ("SlackMarketModel", "ordersMany", "I", false)
  | 17 => ("SlackMarketModel", "spot", "I", false)
  | _ => ("SlackMarketModel", "wrong", "I", false)
def tyX6 : Nat → FieldType := fun k => match k with
  | 0 => .array .int
  | 1 => .array .int
  | 2 => .array .int
  | 3 => .array .boolean
  | 4 => .array .int
  | 5 => .int
  | 6 => .boolean
  | 7 => .array .char
  | 8 => .int
  | 9 => .array .int
  | 10 => .array .int
  | 11 => .int
  | 12 => .int
  | 13 => .array .int
  | 14 => .array .int
  | 15 => .array .int
  | 16 => .int
  | 17 => .int
  | _ => .int
abbrev wsX60 : List Cond := u_ws RX6 TX6 19
theorem nmX6 : ∀ a, a < 19 → ∀ b, b < 19 → a ≠ b → (TX6 a).2.1 ≠ (TX6 b).2.1 := by decide +kernel
theorem tyX6_ok : ∀ k, k < 19 → parseFieldDescriptor (TX6 k).2.2.1 = some (tyX6 k) := by decide +kernel
abbrev cX6_init : ByteArray := prog_8_method_1_code
def yX6_init : MethodName := ⟨RX6, "<init>", "()V"⟩
abbrev cX6_in : ByteArray := prog_8_method_2_code
def yX6_in : MethodName := ⟨RX6, "in", "(III)Z"⟩
abbrev cX6_record : ByteArray := prog_8_method_3_code
def yX6_record : MethodName := ⟨RX6, "record", "()V"⟩
abbrev cX6_undo : ByteArray := prog_8_method_4_code
def yX6_undo : MethodName := ⟨RX6, "undo", "()I"⟩
abbrev cX6_save : ByteArray := prog_8_method_5_code
def yX6_save : MethodName := ⟨RX6, "save", "(I)I"⟩
abbrev cX6_restore : ByteArray := prog_8_method_6_code
def yX6_restore : MethodName := ⟨RX6, "restore", "(I)I"⟩
abbrev cX6_putAside : ByteArray := prog_8_method_7_code
def yX6_putAside : MethodName := ⟨RX6, "putAside", "()V"⟩
abbrev cX6_bringBack : ByteArray := prog_8_method_8_code
def yX6_bringBack : MethodName := ⟨RX6, "bringBack", "()V"⟩
abbrev cX6_isTask : ByteArray := prog_8_method_9_code
def yX6_isTask : MethodName := ⟨RX6, "isTask", "(I)Z"⟩
abbrev cX6_manyOn : ByteArray := prog_8_method_10_code
def yX6_manyOn : MethodName := ⟨RX6, "manyOn", "(I)I"⟩
abbrev cX6_taskAt : ByteArray := prog_8_method_11_code
def yX6_taskAt : MethodName := ⟨RX6, "taskAt", "(II)I"⟩
abbrev cX6_endOf : ByteArray := prog_8_method_12_code
def yX6_endOf : MethodName := ⟨RX6, "endOf", "(I)I"⟩
abbrev cX6_reckon : ByteArray := prog_8_method_13_code
def yX6_reckon : MethodName := ⟨RX6, "reckon", "()Z"⟩
abbrev cX6_late : ByteArray := prog_8_method_14_code
def yX6_late : MethodName := ⟨RX6, "late", "(I)I"⟩
abbrev cX6_spared : ByteArray := prog_8_method_15_code
def yX6_spared : MethodName := ⟨RX6, "spared", "(I)I"⟩
abbrev cX6_lateTogether : ByteArray := prog_8_method_16_code
def yX6_lateTogether : MethodName := ⟨RX6, "lateTogether", "()I"⟩
abbrev cX6_canBeHeld : ByteArray := prog_8_method_17_code
def yX6_canBeHeld : MethodName := ⟨RX6, "canBeHeld", "(II)Z"⟩
abbrev cX6_slack : ByteArray := prog_8_method_18_code
def yX6_slack : MethodName := ⟨RX6, "slack", "(I)I"⟩
abbrev cX6_set : ByteArray := prog_8_method_19_code
def yX6_set : MethodName := ⟨RX6, "set", "(II)I"⟩
abbrev cX6_task : ByteArray := prog_8_method_20_code
def yX6_task : MethodName := ⟨RX6, "task", "(IIIII)I"⟩
abbrev cX6_duration : ByteArray := prog_8_method_21_code
def yX6_duration : MethodName := ⟨RX6, "duration", "(II)I"⟩
abbrev cX6_putAt : ByteArray := prog_8_method_22_code
def yX6_putAt : MethodName := ⟨RX6, "putAt", "(II)V"⟩
abbrev cX6_move : ByteArray := prog_8_method_23_code
def yX6_move : MethodName := ⟨RX6, "move", "(II)I"⟩
abbrev cX6_areLinked : ByteArray := prog_8_method_24_code
def yX6_areLinked : MethodName := ⟨RX6, "areLinked", "(II)Z"⟩
abbrev cX6_measure : ByteArray := prog_8_method_25_code
def yX6_measure : MethodName := ⟨RX6, "measure", "(I)V"⟩
abbrev cX6_distance : ByteArray := prog_8_method_26_code
def yX6_distance : MethodName := ⟨RX6, "distance", "(II)I"⟩
abbrev cX6_offer : ByteArray := prog_8_method_27_code
def yX6_offer : MethodName := ⟨RX6, "offer", "(III)I"⟩
abbrev cX6_nextOffer : ByteArray := prog_8_method_28_code
def yX6_nextOffer : MethodName := ⟨RX6, "nextOffer", "(II)I"⟩
abbrev cX6_isSooner : ByteArray := prog_8_method_29_code
def yX6_isSooner : MethodName := ⟨RX6, "isSooner", "(II)Z"⟩
abbrev cX6_less : ByteArray := prog_8_method_30_code
def yX6_less : MethodName := ⟨RX6, "less", "(II)I"⟩
abbrev cX6_hoursOf : ByteArray := prog_8_method_31_code
def yX6_hoursOf : MethodName := ⟨RX6, "hoursOf", "(II)I"⟩
abbrev cX6_agree : ByteArray := prog_8_method_32_code
def yX6_agree : MethodName := ⟨RX6, "agree", "(III)V"⟩
abbrev cX6_buys : ByteArray := prog_8_method_33_code
def yX6_buys : MethodName := ⟨RX6, "buys", "(I)V"⟩
abbrev cX6_tradeAll : ByteArray := prog_8_method_34_code
def yX6_tradeAll : MethodName := ⟨RX6, "tradeAll", "()V"⟩
abbrev cX6_trade : ByteArray := prog_8_method_35_code
def yX6_trade : MethodName := ⟨RX6, "trade", "()I"⟩
abbrev cX6_isContract : ByteArray := prog_8_method_36_code
def yX6_isContract : MethodName := ⟨RX6, "isContract", "(I)Z"⟩
abbrev cX6_refund : ByteArray := prog_8_method_37_code
def yX6_refund : MethodName := ⟨RX6, "refund", "(II)I"⟩
abbrev cX6_dropContract : ByteArray := prog_8_method_38_code
def yX6_dropContract : MethodName := ⟨RX6, "dropContract", "(I)V"⟩
abbrev cX6_give : ByteArray := prog_8_method_39_code
def yX6_give : MethodName := ⟨RX6, "give", "(III)I"⟩
abbrev cX6_hoursBy : ByteArray := prog_8_method_40_code
def yX6_hoursBy : MethodName := ⟨RX6, "hoursBy", "(II)I"⟩
abbrev cX6_behind : ByteArray := prog_8_method_41_code
def yX6_behind : MethodName := ⟨RX6, "behind", "(I)I"⟩
abbrev cX6_ofTask : ByteArray := prog_8_method_42_code
def yX6_ofTask : MethodName := ⟨RX6, "ofTask", "(II)I"⟩
abbrev cX6_due : ByteArray := prog_8_method_43_code
def yX6_due : MethodName := ⟨RX6, "due", "(I)J"⟩
abbrev cX6_money : ByteArray := prog_8_method_44_code
def yX6_money : MethodName := ⟨RX6, "money", "(I)I"⟩
abbrev cX6_at : ByteArray := prog_8_method_45_code
def yX6_at : MethodName := ⟨RX6, "at", "(II)I"⟩
abbrev cX6_ofContract : ByteArray := prog_8_method_46_code
def yX6_ofContract : MethodName := ⟨RX6, "ofContract", "(II)I"⟩
abbrev cX6_offers : ByteArray := prog_8_method_47_code
def yX6_offers : MethodName := ⟨RX6, "offers", "()I"⟩
abbrev cX6_lateSet : ByteArray := prog_8_method_48_code
def yX6_lateSet : MethodName := ⟨RX6, "lateSet", "()I"⟩
abbrev cX6_endOfAll : ByteArray := prog_8_method_49_code
def yX6_endOfAll : MethodName := ⟨RX6, "endOfAll", "()I"⟩
abbrev cX6_sumOf : ByteArray := prog_8_method_50_code
def yX6_sumOf : MethodName := ⟨RX6, "sumOf", "(II)I"⟩
abbrev cX6_count : ByteArray := prog_8_method_51_code
def yX6_count : MethodName := ⟨RX6, "count", "(I)I"⟩
abbrev cX6_wouldBuy : ByteArray := prog_8_method_52_code
def yX6_wouldBuy : MethodName := ⟨RX6, "wouldBuy", "(II)I"⟩
abbrev cX6_leastMoney : ByteArray := prog_8_method_53_code
def yX6_leastMoney : MethodName := ⟨RX6, "leastMoney", "(I)I"⟩
abbrev cX6_endIf : ByteArray := prog_8_method_54_code
def yX6_endIf : MethodName := ⟨RX6, "endIf", "(III)I"⟩
abbrev cX6_bestPlace : ByteArray := prog_8_method_55_code
def yX6_bestPlace : MethodName := ⟨RX6, "bestPlace", "(I)I"⟩
abbrev cX6_critical : ByteArray := prog_8_method_56_code
def yX6_critical : MethodName := ⟨RX6, "critical", "()I"⟩
abbrev cX6_lateBehind : ByteArray := prog_8_method_57_code
def yX6_lateBehind : MethodName := ⟨RX6, "lateBehind", "()I"⟩
abbrev cX6_put : ByteArray := prog_8_method_58_code
def yX6_put : MethodName := ⟨RX6, "put", "(J)I"⟩
abbrev cX6_wipe : ByteArray := prog_8_method_59_code
def yX6_wipe : MethodName := ⟨RX6, "wipe", "()I"⟩
abbrev cX6_letter : ByteArray := prog_8_method_60_code
def yX6_letter : MethodName := ⟨RX6, "letter", "(I)I"⟩
abbrev cX6_isDigit : ByteArray := prog_8_method_61_code
def yX6_isDigit : MethodName := ⟨RX6, "isDigit", "(I)Z"⟩
abbrev cX6_fail : ByteArray := prog_8_method_62_code
def yX6_fail : MethodName := ⟨RX6, "fail", "()V"⟩
abbrev cX6_takes : ByteArray := prog_8_method_63_code
def yX6_takes : MethodName := ⟨RX6, "takes", "(I)V"⟩
abbrev cX6_takesNumber : ByteArray := prog_8_method_64_code
def yX6_takesNumber : MethodName := ⟨RX6, "takesNumber", "()I"⟩
abbrev cX6_takesMachine : ByteArray := prog_8_method_65_code
def yX6_takesMachine : MethodName := ⟨RX6, "takesMachine", "()I"⟩
abbrev cX6_readTask : ByteArray := prog_8_method_66_code
def yX6_readTask : MethodName := ⟨RX6, "readTask", "(I)V"⟩
abbrev cX6_readTwo : ByteArray := prog_8_method_67_code
def yX6_readTwo : MethodName := ⟨RX6, "readTwo", "(II)V"⟩
abbrev cX6_readOrder : ByteArray := prog_8_method_68_code
def yX6_readOrder : MethodName := ⟨RX6, "readOrder", "(I)V"⟩
abbrev cX6_readPad : ByteArray := prog_8_method_69_code
def yX6_readPad : MethodName := ⟨RX6, "readPad", "()V"⟩
abbrev cX6_fault : ByteArray := prog_8_method_70_code
def yX6_fault : MethodName := ⟨RX6, "fault", "()I"⟩
abbrev cX6_does : ByteArray := prog_8_method_71_code
def yX6_does : MethodName := ⟨RX6, "does", "(I)I"⟩
abbrev cX6_carryOut : ByteArray := prog_8_method_72_code
def yX6_carryOut : MethodName := ⟨RX6, "carryOut", "()I"⟩
def RJ9 : String := "java/lang/Math"
def TJ9 : u_T := fun k => match k with
  | _ => ("", "", "", false)
def tyJ9 : Nat → FieldType := fun k => match k with
  | _ => .int
abbrev wsJ90 : List Cond := u_ws RJ9 TJ9 0
theorem nmJ9 : ∀ a, a < 0 → ∀ b, b < 0 → a ≠ b → (TJ9 a).2.1 ≠ (TJ9 b).2.1 := by decide +kernel
theorem tyJ9_ok : ∀ k, k < 0 → parseFieldDescriptor (TJ9 k).2.2.1 = some (tyJ9 k) := by decide +kernel
abbrev cJ9_max_7cf53 : ByteArray := prog_9_method_65_code
def yJ9_max_7cf53 : MethodName := ⟨RJ9, "max", "(II)I"⟩
abbrev cJ9_min_7cf53 : ByteArray := prog_9_method_69_code
def yJ9_min_7cf53 : MethodName := ⟨RJ9, "min", "(II)I"⟩
def RJ10 : String := "java/lang/System"
def TJ10 : u_T := fun k => match k with
  | _ => ("", "", "", false)
def tyJ10 : Nat → FieldType := fun k => match k with
  | _ => .int
abbrev wsJ100 : List Cond := u_ws RJ10 TJ10 0
theorem nmJ10 : ∀ a, a < 0 → ∀ b, b < 0 → a ≠ b → (TJ10 a).2.1 ≠ (TJ10 b).2.1 := by decide +kernel
theorem tyJ10_ok : ∀ k, k < 0 → parseFieldDescriptor (TJ10 k).2.2.1 = some (tyJ10 k) := by decide +kernel
def RL : String := "SlackMarketLaw"
abbrev cL_law : ByteArray := code
def yL_law : MethodName := ⟨RL, "law", "([I)Z"⟩
abbrev vwCl : List vw_C := [(RX0, TX0, 5), (RX1, TX1, 3), (RX2, TX2, 9), (RX3, TX3, 6), (RX4, TX4, 10), (RX5, TX5, 6), (RX6, TX6, 19)]
end
section
/-! THE WORLD. The cells of the whole system never move once the two objects stand: the class makes all of its rows in its constructors. So a state of the
system is a memory: block (0..10 the markets, 11 the rest of SlackMarket, 12 the model), place in the block, index -> int. References are fixed. -/
def lw_gd : List Cond := lw_tbl.filter goodWord
theorem gd_of {w : Cond} (i : Nat) (h : lw_tbl[i]? = some w) (hg : goodWord w = true) : w ∈ lw_gd := List.mem_filter.mpr ⟨List.mem_of_getElem? h, hg⟩
theorem gd_good : ∀ w ∈ lw_gd, goodWord w = true := fun _ h => (List.mem_filter.mp h).2
theorem gd_sub : ∀ w ∈ lw_gd, w ∈ lw_tbl := fun _ h => (List.mem_filter.mp h).1
theorem gd_goodIn {c : Cond} (hc : c ∈ lw_gd) : GoodIn lw_gd (c :: lw_gd) := by
  intro w hw
  rcases List.mem_cons.mp hw with h | h
  · subst h
    exact ⟨hc, good_of_word (gd_good _ hc)⟩
  · exact ⟨h, good_of_word (gd_good _ h)⟩
theorem gd_X0 : ∀ w ∈ u_ws RX0 TX0 5, w ∈ lw_gd := by decide +kernel
theorem gd_X1 : ∀ w ∈ u_ws RX1 TX1 3, w ∈ lw_gd := by decide +kernel
theorem gd_X2 : ∀ w ∈ u_ws RX2 TX2 9, w ∈ lw_gd := by decide +kernel
theorem gd_X3 : ∀ w ∈ u_ws RX3 TX3 6, w ∈ lw_gd := by decide +kernel
theorem gd_X4 : ∀ w ∈ u_ws RX4 TX4 10, w ∈ lw_gd := by decide +kernel
theorem gd_X5 : ∀ w ∈ u_ws RX5 TX5 6, w ∈ lw_gd := by decide +kernel
theorem gd_X6 : ∀ w ∈ u_ws RX6 TX6 19, w ∈ lw_gd := by decide +kernel
abbrev Blk : Type := Nat → Nat → Int32
abbrev Mem : Type := Nat → Blk
def bs (B : Blk) (o k : Nat) (v : Int32) : Blk := fun o' => if o' = o then upd (B o) k v else B o'
def bc (B : Blk) (o : Nat) (f : Nat → Int32) : Blk := fun o' => if o' = o then f else B o'
def jb (M : Mem) (j : Nat) (B : Blk) : Mem := fun i => if i = j then B else M i
theorem jb_at (M : Mem) (j : Nat) (B : Blk) : jb M j B j = B := if_pos rfl
theorem jb_ne {M : Mem} {i j : Nat} {B : Blk} (h : i ≠ j) : jb M j B i = M i := if_neg h
theorem jb_jb (M : Mem) (j : Nat) (B B' : Blk) : jb (jb M j B) j B' = jb M j B' := by
  funext i
  by_cases h : i = j
  · simp [jb, h]
  · simp [jb, h]
theorem jb_self (M : Mem) (j : Nat) : jb M j (M j) = M := by
  funext i
  by_cases h : i = j
  · subst h; simp [jb]
  · simp [jb, h]
/-- the classes' ids, the addresses by block and place, the ids of int[], boolean[], char[], Market[] -/
abbrev VT : Type := va_G × (Nat → Nat → Nat) × ClassId × ClassId × ClassId × ClassId
def vD (V : VT) : va_G := V.1
def vA (V : VT) (j o : Nat) : Nat := V.2.1 j o
def vI (V : VT) : ClassId := V.2.2.1
def vZ (V : VT) : ClassId := V.2.2.2.1
def vC (V : VT) : ClassId := V.2.2.2.2.1
def vM (V : VT) : ClassId := V.2.2.2.2.2
def vT (V : VT) : List (ClassId × FieldType) := [(vI V, .int), (vZ V, .boolean), (vC V, .char), (vM V, .object "SlackMarket$Market")]
def cellM (V : VT) (j : Nat) (B : Blk) : Nat → va_E := fun o => match o with
  | 0 => .inr (2, [.ref (vA V j 1), .ref (vA V j 2), .int (B 0 2), .int (B 0 3), .ref (vA V j 16), .ref (vA V j 17), .ref (vA V j 18), .ref (vA V j 19), .ref (vA V j 20)])
  | 1 => .inr (4, [.int (B 1 0), .ref (vA V j 3), .ref (vA V j 4), .ref (vA V j 5), .ref (vA V j 6), .ref (vA V j 7), .ref (vA V j 8), .ref (vA V j 9), .ref (vA V j 10), .ref (vA V j 11)])
  | 2 => .inr (0, [.int (B 2 0), .ref (vA V j 12), .ref (vA V j 13), .ref (vA V j 14), .ref (vA V j 15)])
  | 3 => .inl (vI V, 24, .inl (B 3))
  | 4 => .inl (vI V, 24, .inl (B 4))
  | 5 => .inl (vI V, 24, .inl (B 5))
  | 6 => .inl (vI V, 24, .inl (B 6))
  | 7 => .inl (vI V, 24, .inl (B 7))
  | 8 => .inl (vI V, 96, .inl (B 8))
  | 9 => .inl (vI V, 4, .inl (B 9))
  | 10 => .inl (vI V, 4, .inl (B 10))
  | 11 => .inl (vI V, 24, .inl (B 11))
  | 12 => .inl (vI V, 40, .inl (B 12))
  | 13 => .inl (vI V, 40, .inl (B 13))
  | 14 => .inl (vI V, 40, .inl (B 14))
  | 15 => .inl (vI V, 40, .inl (B 15))
  | 16 => .inl (vI V, 24, .inl (B 16))
  | 17 => .inl (vI V, 24, .inl (B 17))
  | 18 => .inl (vI V, 24, .inl (B 18))
  | 19 => .inl (vI V, 24, .inl (B 19))
  | _ => .inl (vI V, 24, .inl (B o))
def cellX (V : VT) (B : Blk) : Nat → va_E := fun o => match o with
  | 0 => .inr (5, [.ref (vA V 0 0), .ref (vA V 1 0), .ref (vA V 11 3), .ref (vA V 11 1), .ref (vA V 11 2), .ref (vA V 11 5)])
  | 1 => .inl (vM V, 2, .inr (.inr (.inr (.inr (fun i => some (vA V (2 + i) 0))))))
  | 2 => .inl (vZ V, 2, .inl (B 2))
  | 3 => .inr (1, [.ref (vA V 11 4), .int (B 3 1), .int (B 3 2)])
  | 4 => .inl (vM V, 7, .inr (.inr (.inr (.inr (fun i => some (vA V (4 + i) 0))))))
  | 5 => .inr (3, [.ref (vA V 11 6), .int (B 5 1), .int (B 5 2), .int (B 5 3), .ref (vA V 11 7), .int (B 5 5)])
  | 6 => .inl (vC V, 80, .inl (B 6))
  | _ => .inl (vI V, 5, .inl (B o))
def cellZ (V : VT) (B : Blk) : Nat → va_E := fun o => match o with
  | 0 => .inr (6, [.ref (vA V 12 1), .ref (vA V 12 2), .ref (vA V 12 3), .ref (vA V 12 4), .ref (vA V 12 5), .int (B 0 5), .int (B 0 6), .ref (vA V 12 6), .int (B 0 8), .ref (vA V 12 7), .ref (vA V 12 8), .int (B 0 11), .int (B 0 12), .ref (vA V 12 9), .ref (vA V 12 10), .ref (vA V 12 11), .int (B 0 16), .int (B 0 17), .int (B 0 18)])
  | 1 => .inl (vI V, 356, .inl (B 1))
  | 2 => .inl (vI V, 2136, .inl (B 2))
  | 3 => .inl (vI V, 712, .inl (B 3))
  | 4 => .inl (vZ V, 2, .inl (B 4))
  | 5 => .inl (vI V, 356, .inl (B 5))
  | 6 => .inl (vC V, 80, .inl (B 6))
  | 7 => .inl (vI V, 24, .inl (B 7))
  | 8 => .inl (vI V, 24, .inl (B 8))
  | 9 => .inl (vI V, 24, .inl (B 9))
  | 10 => .inl (vI V, 24, .inl (B 10))
  | _ => .inl (vI V, 252, .inl (B o))
def cellOf (V : VT) (M : Mem) (q : Nat × Nat) : va_E := if q.1 < 11 then cellM V q.1 (M q.1) q.2 else if q.1 = 11 then cellX V (M q.1) q.2 else cellZ V (M q.1) q.2
def places : List (Nat × Nat) := ((List.range 11).flatMap fun j => (List.range 21).map fun o => (j, o)) ++ (((List.range 8).map fun o => (11, o)) ++ ((List.range 12).map fun o => (12, o)))
def wsOf (V : VT) (M : Mem) : va_W := places.map fun q => (vA V q.1 q.2, cellOf V M q)
theorem places_nodup : places.Nodup := by decide +kernel
def isPl (j o : Nat) : Prop := ∃ i : Nat, places[i]? = some (j, o)
theorem pl_M {j o : Nat} (hj : j < 11) (ho : o < 21) : isPl j o := by
  have h : ∀ j, j < 11 → ∀ o, o < 21 → places[21 * j + o]? = some (j, o) := by decide +kernel
  exact ⟨_, h j hj o ho⟩
theorem pl_X {o : Nat} (ho : o < 8) : isPl 11 o := by
  have h : ∀ o, o < 8 → places[231 + o]? = some (11, o) := by decide +kernel
  exact ⟨_, h o ho⟩
theorem pl_Z {o : Nat} (ho : o < 12) : isPl 12 o := by
  have h : ∀ o, o < 12 → places[239 + o]? = some (12, o) := by decide +kernel
  exact ⟨_, h o ho⟩
theorem cellM_congr {V : VT} {j o : Nat} {B B' : Blk} (h : B o = B' o) : cellM V j B o = cellM V j B' o := by
  unfold cellM
  split <;> simp_all
theorem cellX_congr {V : VT} {o : Nat} {B B' : Blk} (h : B o = B' o) : cellX V B o = cellX V B' o := by
  unfold cellX
  split <;> simp_all
theorem cellZ_congr {V : VT} {o : Nat} {B B' : Blk} (h : B o = B' o) : cellZ V B o = cellZ V B' o := by
  unfold cellZ
  split <;> simp_all
theorem cellOf_congr {V : VT} {M M' : Mem} {j o : Nat} (h : M j o = M' j o) : cellOf V M (j, o) = cellOf V M' (j, o) := by
  unfold cellOf
  dsimp only
  split
  · exact cellM_congr h
  · split
    · exact cellX_congr h
    · exact cellZ_congr h
theorem ws_at {V : VT} {M : Mem} {i j o : Nat} (h : places[i]? = some (j, o)) : (wsOf V M)[i]? = some (vA V j o, cellOf V M (j, o)) := by
  unfold wsOf
  rw [List.getElem?_map, h]
  rfl
theorem ws_set {V : VT} {M M' : Mem} {i j o : Nat} (h : places[i]? = some (j, o)) (hM : ∀ j' o', (j', o') ≠ (j, o) → M' j' o' = M j' o') : (wsOf V M).set i (vA V j o, cellOf V M' (j, o)) = wsOf V M' := by
  have hi : i < places.length := (List.getElem?_eq_some_iff.mp h).1
  refine List.ext_getElem? fun k => ?_
  by_cases hk : i = k
  · subst hk
    rw [ws_at h, List.getElem?_set_self (by unfold wsOf; rw [List.length_map]; exact hi)]
  · rw [List.getElem?_set_ne hk]
    unfold wsOf
    rw [List.getElem?_map, List.getElem?_map]
    cases hp : places[k]? with
    | none => rfl
    | some q =>
      obtain ⟨j', o'⟩ := q
      have hne : (j', o') ≠ (j, o) := fun e => by
        rw [e] at hp
        exact hk ((List.getElem?_inj hi places_nodup).mp (h.trans hp.symm))
      show some (vA V j' o', cellOf V M (j', o')) = some (vA V j' o', cellOf V M' (j', o'))
      rw [cellOf_congr (hM j' o' hne)]
theorem jb_off {M : Mem} {j o : Nat} {B : Blk} (hB : ∀ o', o' ≠ o → B o' = M j o') : ∀ j' o', (j', o') ≠ (j, o) → jb M j B j' o' = M j' o' := by
  intro j' o' h
  by_cases hj : j' = j
  · subst hj
    rw [jb_at]
    exact hB o' (fun e => h (by rw [e]))
  · rw [jb_ne hj]
theorem bs_ne {B : Blk} {o k o' : Nat} {v : Int32} (h : o' ≠ o) : bs B o k v o' = B o' := if_neg h
theorem bs_at {B : Blk} {o k : Nat} {v : Int32} : bs B o k v o = upd (B o) k v := if_pos rfl
theorem bc_ne {B : Blk} {o o' : Nat} {f : Nat → Int32} (h : o' ≠ o) : bc B o f o' = B o' := if_neg h
theorem bc_at {B : Blk} {o : Nat} {f : Nat → Int32} : bc B o f o = f := if_pos rfl
/-- the world holds the memory M; nothing outside A has changed since H0 -/
def Wd (V : VT) (A : Nat → Prop) (H0 : Heap) (M : Mem) (s : State) (H : Heap) (locs : List Loc) : Prop := va_K (vD V) vwCl (vT V) s ∧ va_P (vD V) vwCl (wsOf V M) H ∧ va_D A (wsOf V M) ∧ va_S A H0 H locs
abbrev WE : Type := Program × Launch × Env × Room × State × MethodId × Array Value × List Frame × Method × Code × Nat × Nat × (State → Prop)
abbrev eP (E : WE) : Program := E.1
abbrev eL (E : WE) : Launch := E.2.1
abbrev eE (E : WE) : Env := E.2.2.1
abbrev eR (E : WE) : Room := E.2.2.2.1
abbrev eS (E : WE) : State := E.2.2.2.2.1
abbrev eM (E : WE) : MethodId := E.2.2.2.2.2.1
abbrev eA (E : WE) : Array Value := E.2.2.2.2.2.2.1
abbrev eB (E : WE) : List Frame := E.2.2.2.2.2.2.2.1
abbrev eH (E : WE) : Method := E.2.2.2.2.2.2.2.2.1
abbrev eC (E : WE) : Code := E.2.2.2.2.2.2.2.2.2.1
abbrev eNc (E : WE) : Nat := E.2.2.2.2.2.2.2.2.2.2.1
abbrev eNs (E : WE) : Nat := E.2.2.2.2.2.2.2.2.2.2.2.1
abbrev eQ (E : WE) : State → Prop := E.2.2.2.2.2.2.2.2.2.2.2.2
def Wq (E : WE) (H : Heap) (locs : List Loc) (pc : Nat) (ls : Array Slot) (st : List Value) : Prop := W (eP E) (eL E) (eE E) (eR E) (eS E) (eM E) (eA E) (eB E) (eH E) (eC E) H locs (eNc E) (eNs E) (eQ E) (F0 (eM E) pc ls st)
/-- what holds all through a method's body: the machine, its code, the words, room for calls -/
def CX (E : WE) (own : String) (cc : ByteArray) (nL fr lo : Nat) : Prop := (eP E).tables.exec = Jvm.exec ∧ (eC E).code = cc ∧ (eC E).maxLocals = nL ∧ (eS E).vm.findClass own = some (eM E).cls ∧ (∀ w ∈ lw_gd, w.before (eA E) (eS E) = true) ∧ fr ≤ (eR E).frames ∧ lo ≤ (eR E).locals ∧ eNc E ≤ (eR E).cells ∧ eNs E ≤ (eR E).slots
end
section
theorem q_iconst {E : WE} {own : String} {cc : ByteArray} {nL fr lo : Nat} (Cx : CX E own cc nL fr lo) {H : Heap} {locs : List Loc} {pc : Nat} {ls : Array Slot} {rest : List Value} {n : Int} {v : Int32} (hdg : decode cc pc = .ok (.iconst n, 1)) (hv : Int32.ofInt n = v) (k : Wq E H locs (pc + 1) ls (.int v :: rest)) : Wq E H locs pc ls (rest) := lv_iconst Cx.1 Cx.2.1 hdg hv k
theorem q_bipush {E : WE} {own : String} {cc : ByteArray} {nL fr lo : Nat} (Cx : CX E own cc nL fr lo) {H : Heap} {locs : List Loc} {pc : Nat} {ls : Array Slot} {rest : List Value} {n : Int} {v : Int32} (hdg : decode cc pc = .ok (.bipush n, 2)) (hv : (Int8.ofInt n).toInt32 = v) (k : Wq E H locs (pc + 2) ls (.int v :: rest)) : Wq E H locs pc ls (rest) := lv_bipush Cx.1 Cx.2.1 hdg hv k
theorem q_sipush {E : WE} {own : String} {cc : ByteArray} {nL fr lo : Nat} (Cx : CX E own cc nL fr lo) {H : Heap} {locs : List Loc} {pc : Nat} {ls : Array Slot} {rest : List Value} {n : Int} {v : Int32} (hdg : decode cc pc = .ok (.sipush n, 3)) (hv : (Int16.ofInt n).toInt32 = v) (k : Wq E H locs (pc + 3) ls (.int v :: rest)) : Wq E H locs pc ls (rest) := lv_sipush Cx.1 Cx.2.1 hdg hv k
theorem q_lconst {E : WE} {own : String} {cc : ByteArray} {nL fr lo : Nat} (Cx : CX E own cc nL fr lo) {H : Heap} {locs : List Loc} {pc : Nat} {ls : Array Slot} {rest : List Value} {n : Fin 2} {v : Int64} (hdg : decode cc pc = .ok (.lconst n, 1)) (hv : Int64.ofNat (n : Nat) = v) (k : Wq E H locs (pc + 1) ls (.long v :: rest)) : Wq E H locs pc ls (rest) := lv_lconst Cx.1 Cx.2.1 hdg hv k
theorem q_ldc {E : WE} {own : String} {cc : ByteArray} {nL fr lo : Nat} (Cx : CX E own cc nL fr lo) {H : Heap} {locs : List Loc} {pc : Nat} {ls : Array Slot} {rest : List Value} {index : Nat} {v : Int32} (hdg : decode cc pc = .ok (.ldc index, 2)) (hc : Cond.constant own index v ∈ lw_gd) (k : Wq E H locs (pc + 2) ls (.int v :: rest)) : Wq E H locs pc ls (rest) := lv_ldc Cx.1 Cx.2.1 Cx.2.2.2.1 (Cx.2.2.2.2.1 _ hc) hdg k
theorem q_ldc2 {E : WE} {own : String} {cc : ByteArray} {nL fr lo : Nat} (Cx : CX E own cc nL fr lo) {H : Heap} {locs : List Loc} {pc : Nat} {ls : Array Slot} {rest : List Value} {index : Nat} {v : Int64} (hdg : decode cc pc = .ok (.ldc2_w index, 3)) (hc : Cond.constantLong own index v ∈ lw_gd) (k : Wq E H locs (pc + 3) ls (.long v :: rest)) : Wq E H locs pc ls (rest) := lv_ldc2 Cx.1 Cx.2.1 Cx.2.2.2.1 (Cx.2.2.2.2.1 _ hc) hdg k
theorem q_iload_n {E : WE} {own : String} {cc : ByteArray} {nL fr lo : Nat} (Cx : CX E own cc nL fr lo) {H : Heap} {locs : List Loc} {pc : Nat} {ls : Array Slot} {rest : List Value} {n : Fin 4} {i : Nat} {x : Int32} (hdg : decode cc pc = .ok (.iload_n n, 1)) (hi : (n : Nat) = i) (hl : ls[i]? = some (.val (.int x))) (k : Wq E H locs (pc + 1) ls (.int x :: rest)) : Wq E H locs pc ls (rest) := lv_iload_n Cx.1 Cx.2.1 hdg hi hl k
theorem q_iload {E : WE} {own : String} {cc : ByteArray} {nL fr lo : Nat} (Cx : CX E own cc nL fr lo) {H : Heap} {locs : List Loc} {pc : Nat} {ls : Array Slot} {rest : List Value} {i : Nat} {x : Int32} (hdg : decode cc pc = .ok (.iload i, 2)) (hl : ls[i]? = some (.val (.int x))) (k : Wq E H locs (pc + 2) ls (.int x :: rest)) : Wq E H locs pc ls (rest) := lv_iload Cx.1 Cx.2.1 hdg hl k
theorem q_lload_n {E : WE} {own : String} {cc : ByteArray} {nL fr lo : Nat} (Cx : CX E own cc nL fr lo) {H : Heap} {locs : List Loc} {pc : Nat} {ls : Array Slot} {rest : List Value} {n : Fin 4} {i : Nat} {x : Int64} (hdg : decode cc pc = .ok (.lload_n n, 1)) (hi : (n : Nat) = i) (hl : ls[i]? = some (.val (.long x))) (k : Wq E H locs (pc + 1) ls (.long x :: rest)) : Wq E H locs pc ls (rest) := lv_lload_n Cx.1 Cx.2.1 hdg hi hl k
theorem q_lload {E : WE} {own : String} {cc : ByteArray} {nL fr lo : Nat} (Cx : CX E own cc nL fr lo) {H : Heap} {locs : List Loc} {pc : Nat} {ls : Array Slot} {rest : List Value} {i : Nat} {x : Int64} (hdg : decode cc pc = .ok (.lload i, 2)) (hl : ls[i]? = some (.val (.long x))) (k : Wq E H locs (pc + 2) ls (.long x :: rest)) : Wq E H locs pc ls (rest) := lv_lload Cx.1 Cx.2.1 hdg hl k
theorem q_aload_n {E : WE} {own : String} {cc : ByteArray} {nL fr lo : Nat} (Cx : CX E own cc nL fr lo) {H : Heap} {locs : List Loc} {pc : Nat} {ls : Array Slot} {rest : List Value} {n : Fin 4} {i : Nat} {x : Nat} (hdg : decode cc pc = .ok (.aload_n n, 1)) (hi : (n : Nat) = i) (hl : ls[i]? = some (.val (.ref x))) (k : Wq E H locs (pc + 1) ls (.ref x :: rest)) : Wq E H locs pc ls (rest) := lv_aload_n Cx.1 Cx.2.1 hdg hi hl k
theorem q_aload {E : WE} {own : String} {cc : ByteArray} {nL fr lo : Nat} (Cx : CX E own cc nL fr lo) {H : Heap} {locs : List Loc} {pc : Nat} {ls : Array Slot} {rest : List Value} {i : Nat} {x : Nat} (hdg : decode cc pc = .ok (.aload i, 2)) (hl : ls[i]? = some (.val (.ref x))) (k : Wq E H locs (pc + 2) ls (.ref x :: rest)) : Wq E H locs pc ls (rest) := lv_aload Cx.1 Cx.2.1 hdg hl k
theorem q_istore_n {E : WE} {own : String} {cc : ByteArray} {nL fr lo : Nat} (Cx : CX E own cc nL fr lo) {H : Heap} {locs : List Loc} {pc : Nat} {ls : Array Slot} {rest : List Value} {n : Fin 4} {i : Nat} {x : Int32} {lv lv' : List (Nat × Value)} (hdg : decode cc pc = .ok (.istore_n n, 1)) (hi : (n : Nat) = i) (h : lv_has ls nL lv) (hn : i < nL) (hl : (i, Value.int x) :: lv.filter (fun q => !(q.1 == i) && !(q.1 + 1 == i && q.2.category == 2)) = lv') (kk : ∀ ls' : Array Slot, lv_has ls' nL lv' → Wq E H locs (pc + 1) ls' rest) : Wq E H locs pc ls (.int x :: rest) := lv_istore_n Cx.1 Cx.2.1 hdg hi h hn hl kk
theorem q_istore {E : WE} {own : String} {cc : ByteArray} {nL fr lo : Nat} (Cx : CX E own cc nL fr lo) {H : Heap} {locs : List Loc} {pc : Nat} {ls : Array Slot} {rest : List Value} {i : Nat} {x : Int32} {lv lv' : List (Nat × Value)} (hdg : decode cc pc = .ok (.istore i, 2)) (h : lv_has ls nL lv) (hn : i < nL) (hl : (i, Value.int x) :: lv.filter (fun q => !(q.1 == i) && !(q.1 + 1 == i && q.2.category == 2)) = lv') (kk : ∀ ls' : Array Slot, lv_has ls' nL lv' → Wq E H locs (pc + 2) ls' rest) : Wq E H locs pc ls (.int x :: rest) := lv_istore Cx.1 Cx.2.1 hdg h hn hl kk
theorem q_astore_n {E : WE} {own : String} {cc : ByteArray} {nL fr lo : Nat} (Cx : CX E own cc nL fr lo) {H : Heap} {locs : List Loc} {pc : Nat} {ls : Array Slot} {rest : List Value} {n : Fin 4} {i : Nat} {x : Nat} {lv lv' : List (Nat × Value)} (hdg : decode cc pc = .ok (.astore_n n, 1)) (hi : (n : Nat) = i) (h : lv_has ls nL lv) (hn : i < nL) (hl : (i, Value.ref x) :: lv.filter (fun q => !(q.1 == i) && !(q.1 + 1 == i && q.2.category == 2)) = lv') (kk : ∀ ls' : Array Slot, lv_has ls' nL lv' → Wq E H locs (pc + 1) ls' rest) : Wq E H locs pc ls (.ref x :: rest) := lv_astore_n Cx.1 Cx.2.1 hdg hi h hn hl kk
theorem q_astore {E : WE} {own : String} {cc : ByteArray} {nL fr lo : Nat} (Cx : CX E own cc nL fr lo) {H : Heap} {locs : List Loc} {pc : Nat} {ls : Array Slot} {rest : List Value} {i : Nat} {x : Nat} {lv lv' : List (Nat × Value)} (hdg : decode cc pc = .ok (.astore i, 2)) (h : lv_has ls nL lv) (hn : i < nL) (hl : (i, Value.ref x) :: lv.filter (fun q => !(q.1 == i) && !(q.1 + 1 == i && q.2.category == 2)) = lv') (kk : ∀ ls' : Array Slot, lv_has ls' nL lv' → Wq E H locs (pc + 2) ls' rest) : Wq E H locs pc ls (.ref x :: rest) := lv_astore Cx.1 Cx.2.1 hdg h hn hl kk
theorem q_lstore_n {E : WE} {own : String} {cc : ByteArray} {nL fr lo : Nat} (Cx : CX E own cc nL fr lo) {H : Heap} {locs : List Loc} {pc : Nat} {ls : Array Slot} {rest : List Value} {n : Fin 4} {i : Nat} {x : Int64} {lv lv' : List (Nat × Value)} (hdg : decode cc pc = .ok (.lstore_n n, 1)) (hi : (n : Nat) = i) (h : lv_has ls nL lv) (hn : i + 1 < nL) (hl : (i, Value.long x) :: lv.filter (fun q => !(q.1 == i) && (!(q.1 == i + 1) && !(q.1 + 1 == i && q.2.category == 2))) = lv') (kk : ∀ ls' : Array Slot, lv_has ls' nL lv' → Wq E H locs (pc + 1) ls' rest) : Wq E H locs pc ls (.long x :: rest) := lv_lstore_n Cx.1 Cx.2.1 hdg hi h hn hl kk
theorem q_lstore {E : WE} {own : String} {cc : ByteArray} {nL fr lo : Nat} (Cx : CX E own cc nL fr lo) {H : Heap} {locs : List Loc} {pc : Nat} {ls : Array Slot} {rest : List Value} {i : Nat} {x : Int64} {lv lv' : List (Nat × Value)} (hdg : decode cc pc = .ok (.lstore i, 2)) (h : lv_has ls nL lv) (hn : i + 1 < nL) (hl : (i, Value.long x) :: lv.filter (fun q => !(q.1 == i) && (!(q.1 == i + 1) && !(q.1 + 1 == i && q.2.category == 2))) = lv') (kk : ∀ ls' : Array Slot, lv_has ls' nL lv' → Wq E H locs (pc + 2) ls' rest) : Wq E H locs pc ls (.long x :: rest) := lv_lstore Cx.1 Cx.2.1 hdg h hn hl kk
theorem q_iinc {E : WE} {own : String} {cc : ByteArray} {nL fr lo : Nat} (Cx : CX E own cc nL fr lo) {H : Heap} {locs : List Loc} {pc : Nat} {ls : Array Slot} {rest : List Value} {i k : Nat} {n : Int} {x v : Int32} {lv lv' : List (Nat × Value)} (hdg : decode cc pc = .ok (.iinc i n, 3)) (h : lv_has ls nL lv) (hk : lv[k]? = some (i, .int x)) (hv : x + Int32.ofInt n = v) (hn : i < nL) (hl : (i, Value.int v) :: lv.filter (fun q => !(q.1 == i) && !(q.1 + 1 == i && q.2.category == 2)) = lv') (kk : ∀ ls' : Array Slot, lv_has ls' nL lv' → Wq E H locs (pc + 3) ls' rest) : Wq E H locs pc ls rest := lv_iinc Cx.1 Cx.2.1 hdg h hk hv hn hl kk
theorem q_iadd {E : WE} {own : String} {cc : ByteArray} {nL fr lo : Nat} (Cx : CX E own cc nL fr lo) {H : Heap} {locs : List Loc} {pc : Nat} {ls : Array Slot} {rest : List Value} {x y : Int32} (hdg : decode cc pc = .ok (.iadd, 1)) (k : Wq E H locs (pc + 1) ls (.int (x + y) :: rest)) : Wq E H locs pc ls (.int y :: .int x :: rest) := lv_iadd Cx.1 Cx.2.1 hdg k
theorem q_isub {E : WE} {own : String} {cc : ByteArray} {nL fr lo : Nat} (Cx : CX E own cc nL fr lo) {H : Heap} {locs : List Loc} {pc : Nat} {ls : Array Slot} {rest : List Value} {x y : Int32} (hdg : decode cc pc = .ok (.isub, 1)) (k : Wq E H locs (pc + 1) ls (.int (x - y) :: rest)) : Wq E H locs pc ls (.int y :: .int x :: rest) := lv_isub Cx.1 Cx.2.1 hdg k
theorem q_imul {E : WE} {own : String} {cc : ByteArray} {nL fr lo : Nat} (Cx : CX E own cc nL fr lo) {H : Heap} {locs : List Loc} {pc : Nat} {ls : Array Slot} {rest : List Value} {x y : Int32} (hdg : decode cc pc = .ok (.imul, 1)) (k : Wq E H locs (pc + 1) ls (.int (x * y) :: rest)) : Wq E H locs pc ls (.int y :: .int x :: rest) := lv_imul Cx.1 Cx.2.1 hdg k
theorem q_iand {E : WE} {own : String} {cc : ByteArray} {nL fr lo : Nat} (Cx : CX E own cc nL fr lo) {H : Heap} {locs : List Loc} {pc : Nat} {ls : Array Slot} {rest : List Value} {x y : Int32} (hdg : decode cc pc = .ok (.iand, 1)) (k : Wq E H locs (pc + 1) ls (.int (x &&& y) :: rest)) : Wq E H locs pc ls (.int y :: .int x :: rest) := lv_iand Cx.1 Cx.2.1 hdg k
theorem q_ior {E : WE} {own : String} {cc : ByteArray} {nL fr lo : Nat} (Cx : CX E own cc nL fr lo) {H : Heap} {locs : List Loc} {pc : Nat} {ls : Array Slot} {rest : List Value} {x y : Int32} (hdg : decode cc pc = .ok (.ior, 1)) (k : Wq E H locs (pc + 1) ls (.int (x ||| y) :: rest)) : Wq E H locs pc ls (.int y :: .int x :: rest) := lv_ior Cx.1 Cx.2.1 hdg k
theorem q_ishl {E : WE} {own : String} {cc : ByteArray} {nL fr lo : Nat} (Cx : CX E own cc nL fr lo) {H : Heap} {locs : List Loc} {pc : Nat} {ls : Array Slot} {rest : List Value} {x y : Int32} (hdg : decode cc pc = .ok (.ishl, 1)) (k : Wq E H locs (pc + 1) ls (.int (x <<< (y &&& 31)) :: rest)) : Wq E H locs pc ls (.int y :: .int x :: rest) := lv_ishl Cx.1 Cx.2.1 hdg k
theorem q_ishr {E : WE} {own : String} {cc : ByteArray} {nL fr lo : Nat} (Cx : CX E own cc nL fr lo) {H : Heap} {locs : List Loc} {pc : Nat} {ls : Array Slot} {rest : List Value} {x y : Int32} (hdg : decode cc pc = .ok (.ishr, 1)) (k : Wq E H locs (pc + 1) ls (.int (x >>> (y &&& 31)) :: rest)) : Wq E H locs pc ls (.int y :: .int x :: rest) := lv_ishr Cx.1 Cx.2.1 hdg k
theorem q_idiv {E : WE} {own : String} {cc : ByteArray} {nL fr lo : Nat} (Cx : CX E own cc nL fr lo) {H : Heap} {locs : List Loc} {pc : Nat} {ls : Array Slot} {rest : List Value} {x y : Int32} (hdg : decode cc pc = .ok (.idiv, 1)) (hne : ¬ y = 0) (k : Wq E H locs (pc + 1) ls (.int (x / y) :: rest)) : Wq E H locs pc ls (.int y :: .int x :: rest) := lv_idiv Cx.1 Cx.2.1 hdg hne k
theorem q_irem {E : WE} {own : String} {cc : ByteArray} {nL fr lo : Nat} (Cx : CX E own cc nL fr lo) {H : Heap} {locs : List Loc} {pc : Nat} {ls : Array Slot} {rest : List Value} {x y : Int32} (hdg : decode cc pc = .ok (.irem, 1)) (hne : ¬ y = 0) (k : Wq E H locs (pc + 1) ls (.int (x - x / y * y) :: rest)) : Wq E H locs pc ls (.int y :: .int x :: rest) := lv_irem Cx.1 Cx.2.1 hdg hne k
theorem q_land {E : WE} {own : String} {cc : ByteArray} {nL fr lo : Nat} (Cx : CX E own cc nL fr lo) {H : Heap} {locs : List Loc} {pc : Nat} {ls : Array Slot} {rest : List Value} {x y : Int64} (hdg : decode cc pc = .ok (.land, 1)) (k : Wq E H locs (pc + 1) ls (.long (x &&& y) :: rest)) : Wq E H locs pc ls (.long y :: .long x :: rest) := lv_land Cx.1 Cx.2.1 hdg k
theorem q_lor {E : WE} {own : String} {cc : ByteArray} {nL fr lo : Nat} (Cx : CX E own cc nL fr lo) {H : Heap} {locs : List Loc} {pc : Nat} {ls : Array Slot} {rest : List Value} {x y : Int64} (hdg : decode cc pc = .ok (.lor, 1)) (k : Wq E H locs (pc + 1) ls (.long (x ||| y) :: rest)) : Wq E H locs pc ls (.long y :: .long x :: rest) := lv_lor Cx.1 Cx.2.1 hdg k
theorem q_lcmp {E : WE} {own : String} {cc : ByteArray} {nL fr lo : Nat} (Cx : CX E own cc nL fr lo) {H : Heap} {locs : List Loc} {pc : Nat} {ls : Array Slot} {rest : List Value} {x y : Int64} (hdg : decode cc pc = .ok (.lcmp, 1)) (k : Wq E H locs (pc + 1) ls (.int (lg_cmp x y) :: rest)) : Wq E H locs pc ls (.long y :: .long x :: rest) := W.lcmp Cx.1 Cx.2.1 hdg k
theorem q_i2l {E : WE} {own : String} {cc : ByteArray} {nL fr lo : Nat} (Cx : CX E own cc nL fr lo) {H : Heap} {locs : List Loc} {pc : Nat} {ls : Array Slot} {rest : List Value} {x : Int32} (hdg : decode cc pc = .ok (.i2l, 1)) (k : Wq E H locs (pc + 1) ls (.long x.toInt64 :: rest)) : Wq E H locs pc ls (.int x :: rest) := lv_i2l Cx.1 Cx.2.1 hdg rfl k
theorem q_l2i {E : WE} {own : String} {cc : ByteArray} {nL fr lo : Nat} (Cx : CX E own cc nL fr lo) {H : Heap} {locs : List Loc} {pc : Nat} {ls : Array Slot} {rest : List Value} {x : Int64} (hdg : decode cc pc = .ok (.l2i, 1)) (k : Wq E H locs (pc + 1) ls (.int x.toInt32 :: rest)) : Wq E H locs pc ls (.long x :: rest) := lv_l2i Cx.1 Cx.2.1 hdg rfl k
theorem q_i2c {E : WE} {own : String} {cc : ByteArray} {nL fr lo : Nat} (Cx : CX E own cc nL fr lo) {H : Heap} {locs : List Loc} {pc : Nat} {ls : Array Slot} {rest : List Value} {x : Int32} (hdg : decode cc pc = .ok (.i2c, 1)) (k : Wq E H locs (pc + 1) ls (.int (x.toUInt32 % 65536).toInt32 :: rest)) : Wq E H locs pc ls (.int x :: rest) := lv_i2c Cx.1 Cx.2.1 hdg rfl k
theorem q_lushr {E : WE} {own : String} {cc : ByteArray} {nL fr lo : Nat} (Cx : CX E own cc nL fr lo) {H : Heap} {locs : List Loc} {pc : Nat} {ls : Array Slot} {rest : List Value} {x : Int64} {y : Int32} (hdg : decode cc pc = .ok (.lushr, 1)) (k : Wq E H locs (pc + 1) ls (.long (x.toUInt64 >>> (y.toInt64.toUInt64 &&& Int64.toUInt64 63)).toInt64 :: rest)) : Wq E H locs pc ls (.int y :: .long x :: rest) := lv_lushr Cx.1 Cx.2.1 hdg rfl k
theorem q_lshl {E : WE} {own : String} {cc : ByteArray} {nL fr lo : Nat} (Cx : CX E own cc nL fr lo) {H : Heap} {locs : List Loc} {pc : Nat} {ls : Array Slot} {rest : List Value} {x : Int64} {y : Int32} (hdg : decode cc pc = .ok (.lshl, 1)) (k : Wq E H locs (pc + 1) ls (.long (x <<< (y.toInt64 &&& 63)) :: rest)) : Wq E H locs pc ls (.int y :: .long x :: rest) := lv_lshl Cx.1 Cx.2.1 hdg rfl k
theorem q_dup {E : WE} {own : String} {cc : ByteArray} {nL fr lo : Nat} (Cx : CX E own cc nL fr lo) {H : Heap} {locs : List Loc} {pc : Nat} {ls : Array Slot} {rest : List Value} {va : Value} (hdg : decode cc pc = .ok (.dup, 1)) (hva : va.category = 1) (k : Wq E H locs (pc + 1) ls (va :: va :: rest)) : Wq E H locs pc ls (va :: rest) := lv_dup Cx.1 Cx.2.1 hdg hva k
theorem q_pop {E : WE} {own : String} {cc : ByteArray} {nL fr lo : Nat} (Cx : CX E own cc nL fr lo) {H : Heap} {locs : List Loc} {pc : Nat} {ls : Array Slot} {rest : List Value} {va : Value} (hdg : decode cc pc = .ok (.pop, 1)) (hva : va.category = 1) (k : Wq E H locs (pc + 1) ls (rest)) : Wq E H locs pc ls (va :: rest) := lv_pop Cx.1 Cx.2.1 hdg hva k
theorem q_dup2 {E : WE} {own : String} {cc : ByteArray} {nL fr lo : Nat} (Cx : CX E own cc nL fr lo) {H : Heap} {locs : List Loc} {pc : Nat} {ls : Array Slot} {rest : List Value} {va vb : Value} (hdg : decode cc pc = .ok (.dup2, 1)) (hva : va.category = 1) (hvb : vb.category = 1) (k : Wq E H locs (pc + 1) ls (va :: vb :: va :: vb :: rest)) : Wq E H locs pc ls (va :: vb :: rest) := lv_dup2_11 Cx.1 Cx.2.1 hdg hva hvb k
theorem q_if_eq {E : WE} {own : String} {cc : ByteArray} {nL fr lo : Nat} (Cx : CX E own cc nL fr lo) {H : Heap} {locs : List Loc} {pc : Nat} {ls : Array Slot} {rest : List Value} {x : Int32} {off : Int} {tgt : Nat} (hdg : decode cc pc = .ok (.ifCond .eq off, 3)) (ht : (pc : Int) + off = (tgt : Int)) (kt : x = 0 → Wq E H locs tgt ls rest) (kf : ¬ x = 0 → Wq E H locs (pc + 3) ls rest) : Wq E H locs pc ls (.int x :: rest) := lv_if_eq Cx.1 Cx.2.1 hdg ht kt kf
theorem q_if_ne {E : WE} {own : String} {cc : ByteArray} {nL fr lo : Nat} (Cx : CX E own cc nL fr lo) {H : Heap} {locs : List Loc} {pc : Nat} {ls : Array Slot} {rest : List Value} {x : Int32} {off : Int} {tgt : Nat} (hdg : decode cc pc = .ok (.ifCond .ne off, 3)) (ht : (pc : Int) + off = (tgt : Int)) (kt : ¬ x = 0 → Wq E H locs tgt ls rest) (kf : x = 0 → Wq E H locs (pc + 3) ls rest) : Wq E H locs pc ls (.int x :: rest) := lv_if_ne Cx.1 Cx.2.1 hdg ht kt kf
theorem q_if_lt {E : WE} {own : String} {cc : ByteArray} {nL fr lo : Nat} (Cx : CX E own cc nL fr lo) {H : Heap} {locs : List Loc} {pc : Nat} {ls : Array Slot} {rest : List Value} {x : Int32} {off : Int} {tgt : Nat} (hdg : decode cc pc = .ok (.ifCond .lt off, 3)) (ht : (pc : Int) + off = (tgt : Int)) (kt : x < 0 → Wq E H locs tgt ls rest) (kf : ¬ x < 0 → Wq E H locs (pc + 3) ls rest) : Wq E H locs pc ls (.int x :: rest) := lv_if_lt Cx.1 Cx.2.1 hdg ht kt kf
theorem q_if_ge {E : WE} {own : String} {cc : ByteArray} {nL fr lo : Nat} (Cx : CX E own cc nL fr lo) {H : Heap} {locs : List Loc} {pc : Nat} {ls : Array Slot} {rest : List Value} {x : Int32} {off : Int} {tgt : Nat} (hdg : decode cc pc = .ok (.ifCond .ge off, 3)) (ht : (pc : Int) + off = (tgt : Int)) (kt : 0 ≤ x → Wq E H locs tgt ls rest) (kf : ¬ 0 ≤ x → Wq E H locs (pc + 3) ls rest) : Wq E H locs pc ls (.int x :: rest) := lv_if_ge Cx.1 Cx.2.1 hdg ht kt kf
theorem q_if_gt {E : WE} {own : String} {cc : ByteArray} {nL fr lo : Nat} (Cx : CX E own cc nL fr lo) {H : Heap} {locs : List Loc} {pc : Nat} {ls : Array Slot} {rest : List Value} {x : Int32} {off : Int} {tgt : Nat} (hdg : decode cc pc = .ok (.ifCond .gt off, 3)) (ht : (pc : Int) + off = (tgt : Int)) (kt : 0 < x → Wq E H locs tgt ls rest) (kf : ¬ 0 < x → Wq E H locs (pc + 3) ls rest) : Wq E H locs pc ls (.int x :: rest) := lv_if_gt Cx.1 Cx.2.1 hdg ht kt kf
theorem q_if_le {E : WE} {own : String} {cc : ByteArray} {nL fr lo : Nat} (Cx : CX E own cc nL fr lo) {H : Heap} {locs : List Loc} {pc : Nat} {ls : Array Slot} {rest : List Value} {x : Int32} {off : Int} {tgt : Nat} (hdg : decode cc pc = .ok (.ifCond .le off, 3)) (ht : (pc : Int) + off = (tgt : Int)) (kt : x ≤ 0 → Wq E H locs tgt ls rest) (kf : ¬ x ≤ 0 → Wq E H locs (pc + 3) ls rest) : Wq E H locs pc ls (.int x :: rest) := lv_if_le Cx.1 Cx.2.1 hdg ht kt kf
theorem q_icmp_eq {E : WE} {own : String} {cc : ByteArray} {nL fr lo : Nat} (Cx : CX E own cc nL fr lo) {H : Heap} {locs : List Loc} {pc : Nat} {ls : Array Slot} {rest : List Value} {x y : Int32} {off : Int} {tgt : Nat} (hdg : decode cc pc = .ok (.if_icmp .eq off, 3)) (ht : (pc : Int) + off = (tgt : Int)) (kt : x = y → Wq E H locs tgt ls rest) (kf : ¬ x = y → Wq E H locs (pc + 3) ls rest) : Wq E H locs pc ls (.int y :: .int x :: rest) := lv_icmp_eq Cx.1 Cx.2.1 hdg ht kt kf
theorem q_icmp_ne {E : WE} {own : String} {cc : ByteArray} {nL fr lo : Nat} (Cx : CX E own cc nL fr lo) {H : Heap} {locs : List Loc} {pc : Nat} {ls : Array Slot} {rest : List Value} {x y : Int32} {off : Int} {tgt : Nat} (hdg : decode cc pc = .ok (.if_icmp .ne off, 3)) (ht : (pc : Int) + off = (tgt : Int)) (kt : ¬ x = y → Wq E H locs tgt ls rest) (kf : x = y → Wq E H locs (pc + 3) ls rest) : Wq E H locs pc ls (.int y :: .int x :: rest) := lv_icmp_ne Cx.1 Cx.2.1 hdg ht kt kf
theorem q_icmp_lt {E : WE} {own : String} {cc : ByteArray} {nL fr lo : Nat} (Cx : CX E own cc nL fr lo) {H : Heap} {locs : List Loc} {pc : Nat} {ls : Array Slot} {rest : List Value} {x y : Int32} {off : Int} {tgt : Nat} (hdg : decode cc pc = .ok (.if_icmp .lt off, 3)) (ht : (pc : Int) + off = (tgt : Int)) (kt : x < y → Wq E H locs tgt ls rest) (kf : ¬ x < y → Wq E H locs (pc + 3) ls rest) : Wq E H locs pc ls (.int y :: .int x :: rest) := lv_icmp_lt Cx.1 Cx.2.1 hdg ht kt kf
theorem q_icmp_ge {E : WE} {own : String} {cc : ByteArray} {nL fr lo : Nat} (Cx : CX E own cc nL fr lo) {H : Heap} {locs : List Loc} {pc : Nat} {ls : Array Slot} {rest : List Value} {x y : Int32} {off : Int} {tgt : Nat} (hdg : decode cc pc = .ok (.if_icmp .ge off, 3)) (ht : (pc : Int) + off = (tgt : Int)) (kt : y ≤ x → Wq E H locs tgt ls rest) (kf : ¬ y ≤ x → Wq E H locs (pc + 3) ls rest) : Wq E H locs pc ls (.int y :: .int x :: rest) := lv_icmp_ge Cx.1 Cx.2.1 hdg ht kt kf
theorem q_icmp_gt {E : WE} {own : String} {cc : ByteArray} {nL fr lo : Nat} (Cx : CX E own cc nL fr lo) {H : Heap} {locs : List Loc} {pc : Nat} {ls : Array Slot} {rest : List Value} {x y : Int32} {off : Int} {tgt : Nat} (hdg : decode cc pc = .ok (.if_icmp .gt off, 3)) (ht : (pc : Int) + off = (tgt : Int)) (kt : y < x → Wq E H locs tgt ls rest) (kf : ¬ y < x → Wq E H locs (pc + 3) ls rest) : Wq E H locs pc ls (.int y :: .int x :: rest) := lv_icmp_gt Cx.1 Cx.2.1 hdg ht kt kf
theorem q_icmp_le {E : WE} {own : String} {cc : ByteArray} {nL fr lo : Nat} (Cx : CX E own cc nL fr lo) {H : Heap} {locs : List Loc} {pc : Nat} {ls : Array Slot} {rest : List Value} {x y : Int32} {off : Int} {tgt : Nat} (hdg : decode cc pc = .ok (.if_icmp .le off, 3)) (ht : (pc : Int) + off = (tgt : Int)) (kt : x ≤ y → Wq E H locs tgt ls rest) (kf : ¬ x ≤ y → Wq E H locs (pc + 3) ls rest) : Wq E H locs pc ls (.int y :: .int x :: rest) := lv_icmp_le Cx.1 Cx.2.1 hdg ht kt kf
theorem q_goto {E : WE} {own : String} {cc : ByteArray} {nL fr lo : Nat} (Cx : CX E own cc nL fr lo) {H : Heap} {locs : List Loc} {pc : Nat} {ls : Array Slot} {rest : List Value} {off : Int} {tgt : Nat} (hdg : decode cc pc = .ok (.goto off, 3)) (ht : (pc : Int) + off = (tgt : Int)) (k : Wq E H locs tgt ls rest) : Wq E H locs pc ls rest := lv_goto Cx.1 Cx.2.1 hdg ht k
theorem q_ifnull {E : WE} {own : String} {cc : ByteArray} {nL fr lo : Nat} (Cx : CX E own cc nL fr lo) {H : Heap} {locs : List Loc} {pc : Nat} {ls : Array Slot} {rest : List Value} {x : Nat} {off : Int} (hdg : decode cc pc = .ok (.ifnull off, 3)) (k : Wq E H locs (pc + 3) ls rest) : Wq E H locs pc ls (.ref x :: rest) := lv_ifnull Cx.1 Cx.2.1 hdg k
theorem q_ifnonnull {E : WE} {own : String} {cc : ByteArray} {nL fr lo : Nat} (Cx : CX E own cc nL fr lo) {H : Heap} {locs : List Loc} {pc : Nat} {ls : Array Slot} {rest : List Value} {x : Nat} {off : Int} {tgt : Nat} (hdg : decode cc pc = .ok (.ifnonnull off, 3)) (ht : (pc : Int) + off = (tgt : Int)) (k : Wq E H locs tgt ls rest) : Wq E H locs pc ls (.ref x :: rest) := lv_ifnonnull Cx.1 Cx.2.1 hdg ht k
theorem q_lookup {E : WE} {own : String} {cc : ByteArray} {nL fr lo : Nat} (Cx : CX E own cc nL fr lo) {H : Heap} {locs : List Loc} {pc : Nat} {ls : Array Slot} {rest : List Value} {dflt : Int} {ps : Array (Int × Int)} {len : Nat} {x : Int32} {off : Int} {tgt : Nat} (hdg : decode cc pc = .ok (.lookupswitch dflt ps, len)) (hp : (ps.toList.zip (ps.toList.drop 1)).all (fun (a, next) => a.1 < next.1) = true) (ho : Op.lookupswitch.offset ps.toList dflt x.toInt = off) (ht : (pc : Int) + off = (tgt : Int)) (k : Wq E H locs tgt ls rest) : Wq E H locs pc ls (.int x :: rest) := lv_lookup Cx.1 Cx.2.1 hdg hp ho ht k
theorem q_tableOut {E : WE} {own : String} {cc : ByteArray} {nL fr lo : Nat} (Cx : CX E own cc nL fr lo) {H : Heap} {locs : List Loc} {pc : Nat} {ls : Array Slot} {rest : List Value} {dflt l0 hi : Int} {offs : Array Int} {len : Nat} {x : Int32} {tgt : Nat} (hdg : decode cc pc = .ok (.tableswitch dflt l0 hi offs, len)) (h : x.toInt < l0 ∨ hi < x.toInt) (ht : (pc : Int) + dflt = (tgt : Int)) (k : Wq E H locs tgt ls rest) : Wq E H locs pc ls (.int x :: rest) := lv_tableOut Cx.1 Cx.2.1 hdg h ht k
theorem q_tableIn {E : WE} {own : String} {cc : ByteArray} {nL fr lo : Nat} (Cx : CX E own cc nL fr lo) {H : Heap} {locs : List Loc} {pc : Nat} {ls : Array Slot} {rest : List Value} {dflt l0 hi : Int} {offs : Array Int} {len : Nat} {x : Int32} {off : Int} {tgt : Nat} (hdg : decode cc pc = .ok (.tableswitch dflt l0 hi offs, len)) (h1 : ¬ x.toInt < l0) (h2 : ¬ hi < x.toInt) (ho : offs[(x.toInt - l0).toNat]? = some off) (ht : (pc : Int) + off = (tgt : Int)) (k : Wq E H locs tgt ls rest) : Wq E H locs pc ls (.int x :: rest) := lv_tableIn Cx.1 Cx.2.1 hdg h1 h2 ho ht k
/-! the heap -/
def isI (j o n t : Nat) : Prop := isPl j o ∧ ∀ (V : VT) (M : Mem), ∃ (cA : ClassId) (ty : FieldType), (vT V)[t]? = some (cA, ty) ∧ cellOf V M (j, o) = .inl (cA, n, .inl (M j o))
/-- an object's cell: its class, its fields -/
def isO (V : VT) (j o ci : Nat) (fs : Blk → List Value) : Prop := isPl j o ∧ ∀ (M : Mem), cellOf V M (j, o) = .inr (ci, fs (M j))
theorem isI_M0 {j o : Nat} (hj : j < 11) (h : o < 21) {n : Nat} (hc : ∀ (V : VT) (B : Blk), cellM V j B o = .inl (vI V, n, .inl (B o))) : isI j o n 0 := ⟨pl_M hj h, fun V M => ⟨vI V, .int, rfl, by unfold cellOf; dsimp only; rw [if_pos hj]; exact hc V _⟩⟩
theorem ai_3 {j : Nat} (hj : j < 11) : isI j 3 24 0 := isI_M0 hj (by decide) (fun _ _ => rfl)
theorem ai_4 {j : Nat} (hj : j < 11) : isI j 4 24 0 := isI_M0 hj (by decide) (fun _ _ => rfl)
theorem ai_5 {j : Nat} (hj : j < 11) : isI j 5 24 0 := isI_M0 hj (by decide) (fun _ _ => rfl)
theorem ai_6 {j : Nat} (hj : j < 11) : isI j 6 24 0 := isI_M0 hj (by decide) (fun _ _ => rfl)
theorem ai_7 {j : Nat} (hj : j < 11) : isI j 7 24 0 := isI_M0 hj (by decide) (fun _ _ => rfl)
theorem ai_8 {j : Nat} (hj : j < 11) : isI j 8 96 0 := isI_M0 hj (by decide) (fun _ _ => rfl)
theorem ai_9 {j : Nat} (hj : j < 11) : isI j 9 4 0 := isI_M0 hj (by decide) (fun _ _ => rfl)
theorem ai_10 {j : Nat} (hj : j < 11) : isI j 10 4 0 := isI_M0 hj (by decide) (fun _ _ => rfl)
theorem ai_11 {j : Nat} (hj : j < 11) : isI j 11 24 0 := isI_M0 hj (by decide) (fun _ _ => rfl)
theorem ai_12 {j : Nat} (hj : j < 11) : isI j 12 40 0 := isI_M0 hj (by decide) (fun _ _ => rfl)
theorem ai_13 {j : Nat} (hj : j < 11) : isI j 13 40 0 := isI_M0 hj (by decide) (fun _ _ => rfl)
theorem ai_14 {j : Nat} (hj : j < 11) : isI j 14 40 0 := isI_M0 hj (by decide) (fun _ _ => rfl)
theorem ai_15 {j : Nat} (hj : j < 11) : isI j 15 40 0 := isI_M0 hj (by decide) (fun _ _ => rfl)
theorem ai_16 {j : Nat} (hj : j < 11) : isI j 16 24 0 := isI_M0 hj (by decide) (fun _ _ => rfl)
theorem ai_17 {j : Nat} (hj : j < 11) : isI j 17 24 0 := isI_M0 hj (by decide) (fun _ _ => rfl)
theorem ai_18 {j : Nat} (hj : j < 11) : isI j 18 24 0 := isI_M0 hj (by decide) (fun _ _ => rfl)
theorem ai_19 {j : Nat} (hj : j < 11) : isI j 19 24 0 := isI_M0 hj (by decide) (fun _ _ => rfl)
theorem ai_20 {j : Nat} (hj : j < 11) : isI j 20 24 0 := isI_M0 hj (by decide) (fun _ _ => rfl)
theorem ax_2 : isI 11 2 2 1 := ⟨pl_X (by decide), fun V M => ⟨vZ V, .boolean, rfl, rfl⟩⟩
theorem ax_6 : isI 11 6 80 2 := ⟨pl_X (by decide), fun V M => ⟨vC V, .char, rfl, rfl⟩⟩
theorem ax_7 : isI 11 7 5 0 := ⟨pl_X (by decide), fun V M => ⟨vI V, .int, rfl, rfl⟩⟩
theorem az_1 : isI 12 1 356 0 := ⟨pl_Z (by decide), fun V M => ⟨vI V, .int, rfl, rfl⟩⟩
theorem az_2 : isI 12 2 2136 0 := ⟨pl_Z (by decide), fun V M => ⟨vI V, .int, rfl, rfl⟩⟩
theorem az_3 : isI 12 3 712 0 := ⟨pl_Z (by decide), fun V M => ⟨vI V, .int, rfl, rfl⟩⟩
theorem az_4 : isI 12 4 2 1 := ⟨pl_Z (by decide), fun V M => ⟨vZ V, .boolean, rfl, rfl⟩⟩
theorem az_5 : isI 12 5 356 0 := ⟨pl_Z (by decide), fun V M => ⟨vI V, .int, rfl, rfl⟩⟩
theorem az_6 : isI 12 6 80 2 := ⟨pl_Z (by decide), fun V M => ⟨vC V, .char, rfl, rfl⟩⟩
theorem az_7 : isI 12 7 24 0 := ⟨pl_Z (by decide), fun V M => ⟨vI V, .int, rfl, rfl⟩⟩
theorem az_8 : isI 12 8 24 0 := ⟨pl_Z (by decide), fun V M => ⟨vI V, .int, rfl, rfl⟩⟩
theorem az_9 : isI 12 9 24 0 := ⟨pl_Z (by decide), fun V M => ⟨vI V, .int, rfl, rfl⟩⟩
theorem az_10 : isI 12 10 24 0 := ⟨pl_Z (by decide), fun V M => ⟨vI V, .int, rfl, rfl⟩⟩
theorem az_11 : isI 12 11 252 0 := ⟨pl_Z (by decide), fun V M => ⟨vI V, .int, rfl, rfl⟩⟩
theorem oM {V : VT} {j : Nat} (hj : j < 11) : isO V j 0 2 (fun B => [.ref (vA V j 1), .ref (vA V j 2), .int (B 0 2), .int (B 0 3), .ref (vA V j 16), .ref (vA V j 17), .ref (vA V j 18), .ref (vA V j 19), .ref (vA V j 20)]) := ⟨pl_M hj (by decide), fun M => by unfold cellOf; dsimp only; rw [if_pos hj]; rfl⟩
theorem oP {V : VT} {j : Nat} (hj : j < 11) : isO V j 1 4 (fun B => [.int (B 1 0), .ref (vA V j 3), .ref (vA V j 4), .ref (vA V j 5), .ref (vA V j 6), .ref (vA V j 7), .ref (vA V j 8), .ref (vA V j 9), .ref (vA V j 10), .ref (vA V j 11)]) := ⟨pl_M hj (by decide), fun M => by unfold cellOf; dsimp only; rw [if_pos hj]; rfl⟩
theorem oC {V : VT} {j : Nat} (hj : j < 11) : isO V j 2 0 (fun B => [.int (B 2 0), .ref (vA V j 12), .ref (vA V j 13), .ref (vA V j 14), .ref (vA V j 15)]) := ⟨pl_M hj (by decide), fun M => by unfold cellOf; dsimp only; rw [if_pos hj]; rfl⟩
theorem oX {V : VT} : isO V 11 0 5 (fun _ => [.ref (vA V 0 0), .ref (vA V 1 0), .ref (vA V 11 3), .ref (vA V 11 1), .ref (vA V 11 2), .ref (vA V 11 5)]) := ⟨pl_X (by decide), fun _ => rfl⟩
theorem oH {V : VT} : isO V 11 3 1 (fun B => [.ref (vA V 11 4), .int (B 3 1), .int (B 3 2)]) := ⟨pl_X (by decide), fun _ => rfl⟩
theorem oQ {V : VT} : isO V 11 5 3 (fun B => [.ref (vA V 11 6), .int (B 5 1), .int (B 5 2), .int (B 5 3), .ref (vA V 11 7), .int (B 5 5)]) := ⟨pl_X (by decide), fun _ => rfl⟩
theorem oZ {V : VT} : isO V 12 0 6 (fun B => [.ref (vA V 12 1), .ref (vA V 12 2), .ref (vA V 12 3), .ref (vA V 12 4), .ref (vA V 12 5), .int (B 0 5), .int (B 0 6), .ref (vA V 12 6), .int (B 0 8), .ref (vA V 12 7), .ref (vA V 12 8), .int (B 0 11), .int (B 0 12), .ref (vA V 12 9), .ref (vA V 12 10), .ref (vA V 12 11), .int (B 0 16), .int (B 0 17), .int (B 0 18)]) := ⟨pl_Z (by decide), fun _ => rfl⟩
/-- a class of the world: its number, name, fields -/
def isC (ci : Nat) (C : String) (T : u_T) (N : Nat) (ty : Nat → FieldType) : Prop := vwCl[ci]? = some (C, T, N) ∧ (∀ w ∈ u_ws C T N, w ∈ lw_gd) ∧ (∀ k, k < N → parseFieldDescriptor (T k).2.2.1 = some (ty k)) ∧ (∀ a, a < N → ∀ b, b < N → a ≠ b → (T a).2.1 ≠ (T b).2.1)
theorem ic0 : isC 0 RX0 TX0 5 tyX0 := ⟨rfl, gd_X0, tyX0_ok, nmX0⟩
theorem ic1 : isC 1 RX1 TX1 3 tyX1 := ⟨rfl, gd_X1, tyX1_ok, nmX1⟩
theorem ic2 : isC 2 RX2 TX2 9 tyX2 := ⟨rfl, gd_X2, tyX2_ok, nmX2⟩
theorem ic3 : isC 3 RX3 TX3 6 tyX3 := ⟨rfl, gd_X3, tyX3_ok, nmX3⟩
theorem ic4 : isC 4 RX4 TX4 10 tyX4 := ⟨rfl, gd_X4, tyX4_ok, nmX4⟩
theorem ic5 : isC 5 RX5 TX5 6 tyX5 := ⟨rfl, gd_X5, tyX5_ok, nmX5⟩
theorem ic6 : isC 6 RX6 TX6 19 tyX6 := ⟨rfl, gd_X6, tyX6_ok, nmX6⟩
/-- a field is read: 'v' is what the cell's list holds -/
theorem q_get {E : WE} {own : String} {cc : ByteArray} {nL fr lo : Nat} (Cx : CX E own cc nL fr lo) {H : Heap} {locs : List Loc} {pc : Nat} {ls : Array Slot} {rest : List Value} {V : VT} {A : Nat → Prop} {H0 : Heap} {M : Mem} (hW : Wd V A H0 M (eS E) H locs) {j o ci : Nat} {fs : Blk → List Value} (ho : isO V j o ci fs) {C : String} {T : u_T} {N : Nat} {ty : Nat → FieldType} (hc : isC ci C T N ty) (k : Nat) {v : Value} (hk : k < N) (hv : (fs (M j))[k]? = some v) {index : Nat} (hlink : Cond.fieldLink own index (T k).1 (T k).2.1 (T k).2.2.1 ∈ lw_gd) (hdg : decode cc pc = .ok (.getfield index, 3)) (kk : Wq E H locs (pc + 3) ls (v :: rest)) : Wq E H locs pc ls (.ref (vA V j o) :: rest) := by
  obtain ⟨hK, hP, hD, hS⟩ := hW
  obtain ⟨⟨i, hi⟩, hcell⟩ := ho
  exact va_get (D := vD V) (cl := vwCl) (ws := wsOf V M) (C := C) (T := T) (N := N) (ci := ci) (own := own) (Ts := lw_gd) Cx.1 Cx.2.1 Cx.2.2.2.2.1 hc.2.1 Cx.2.2.2.1 hK hP i ((ws_at hi).trans (by rw [hcell])) hc.1 k hk (Cx.2.2.2.2.1 _ hlink) (fun _ h => h) hv hdg kk
/-- a field is written -/
theorem q_put {E : WE} {own : String} {cc : ByteArray} {nL fr lo : Nat} (Cx : CX E own cc nL fr lo) {H : Heap} {locs : List Loc} {pc : Nat} {ls : Array Slot} {rest : List Value} {V : VT} {A : Nat → Prop} {H0 : Heap} {M : Mem} (hW : Wd V A H0 M (eS E) H locs) {j o ci : Nat} {fs : Blk → List Value} (ho : isO V j o ci fs) {C : String} {T : u_T} {N : Nat} {ty : Nat → FieldType} (hc : isC ci C T N ty) (k : Nat) {v : Int32} {B' : Blk} (hk : k < N) (hlen : k < (fs (M j)).length) (hB : ∀ o', o' ≠ o → B' o' = M j o') (hset : (fs (M j)).set k (.int v) = fs B') (hfin : (T k).2.2.2 = false) (hty : narrow (ty k) (.int v) = .int v ∧ fits (ty k) (.int v) = true) {index : Nat} (hlink : Cond.fieldLink own index (T k).1 (T k).2.1 (T k).2.2.1 ∈ lw_gd) (hdg : decode cc pc = .ok (.putfield index, 3)) (kk : ∀ (H1 : Heap) (locs1 : List Loc), Wd V A H0 (jb M j B') (eS E) H1 locs1 → Wq E H1 locs1 (pc + 3) ls rest) : Wq E H locs pc ls (.int v :: .ref (vA V j o) :: rest) := by
  obtain ⟨hK, hP, hD, hS⟩ := hW
  obtain ⟨⟨i, hi⟩, hcell⟩ := ho
  have e1 : (wsOf V M).set i (vA V j o, .inr (ci, (fs (M j)).set k (.int v))) = wsOf V (jb M j B') := by
    rw [hset, ← ws_set hi (jb_off hB), hcell (jb M j B'), jb_at]
  refine va_put (D := vD V) (cl := vwCl) (ws := wsOf V M) (C := C) (T := T) (N := N) (ci := ci) (own := own) (Ts := lw_gd) Cx.1 Cx.2.1 Cx.2.2.2.2.1 hc.2.1 ty hc.2.2.1 hc.2.2.2 Cx.2.2.2.1 hK hP hD hS i ((ws_at hi).trans (by rw [hcell])) hc.1 k hk (Cx.2.2.2.2.1 _ hlink) (fun _ h => h) hfin (hc.2.2.1 k hk) hty.1 hty.2 hlen hdg (fun H1 locs1 hP1 hD1 hS1 => ?_)
  rw [e1] at hP1 hD1
  exact kk H1 locs1 ⟨hK, hP1, hD1, hS1⟩
theorem isI_at {j o n t : Nat} {V : VT} {M : Mem} (h : isI j o n t) : ∃ (i : Nat) (cA : ClassId) (ty : FieldType), (vT V)[t]? = some (cA, ty) ∧ (wsOf V M)[i]? = some (vA V j o, .inl (cA, n, .inl (M j o))) ∧ ∀ (f : Nat → Int32), (wsOf V M).set i (vA V j o, .inl (cA, n, .inl f)) = wsOf V (jb M j (bc (M j) o f)) := by
  obtain ⟨⟨i, hi⟩, hc⟩ := h
  obtain ⟨cA, ty, h1, h2⟩ := hc V M
  refine ⟨i, cA, ty, h1, (ws_at hi).trans (by rw [h2]), fun f => ?_⟩
  rw [← ws_set hi (jb_off (M := M) (j := j) (o := o) (B := bc (M j) o f) (fun o' ho => bc_ne ho))]
  obtain ⟨cA2, ty2, h3, h4⟩ := hc V (jb M j (bc (M j) o f))
  have e : cA2 = cA := by rw [h1] at h3; cases h3; rfl
  rw [h4, e, jb_at, bc_at]
theorem bc_upd {B : Blk} {o k : Nat} {x : Int32} : bc B o (upd (B o) k x) = bs B o k x := rfl
theorem q_iald {E : WE} {own : String} {cc : ByteArray} {nL fr lo : Nat} (Cx : CX E own cc nL fr lo) {H : Heap} {locs : List Loc} {pc : Nat} {ls : Array Slot} {rest : List Value} {V : VT} {A : Nat → Prop} {H0 : Heap} {M : Mem} (hW : Wd V A H0 M (eS E) H locs) {j o n : Nat} (ho : isI j o n 0) {i v : Int32} (hin : vp_in i n) (hv : v = M j o i.toNatClampNeg) (hdg : decode cc pc = .ok (.iaload, 1)) (kk : Wq E H locs (pc + 1) ls (.int v :: rest)) : Wq E H locs pc ls (.int i :: .ref (vA V j o) :: rest) := by
  obtain ⟨hK, hP, hD, hS⟩ := hW
  obtain ⟨p, cA, ty, h1, h2, -⟩ := isI_at (V := V) (M := M) ho
  cases h1
  subst hv
  exact va_iald (D := vD V) (cl := vwCl) (tys := vT V) (ws := wsOf V M) Cx.1 Cx.2.1 hK hP p 0 h2 rfl hin hdg kk
theorem q_zald {E : WE} {own : String} {cc : ByteArray} {nL fr lo : Nat} (Cx : CX E own cc nL fr lo) {H : Heap} {locs : List Loc} {pc : Nat} {ls : Array Slot} {rest : List Value} {V : VT} {A : Nat → Prop} {H0 : Heap} {M : Mem} (hW : Wd V A H0 M (eS E) H locs) {j o n : Nat} (ho : isI j o n 1) {i v : Int32} (hin : vp_in i n) (hv : v = M j o i.toNatClampNeg) (hdg : decode cc pc = .ok (.baload, 1)) (kk : Wq E H locs (pc + 1) ls (.int v :: rest)) : Wq E H locs pc ls (.int i :: .ref (vA V j o) :: rest) := by
  obtain ⟨hK, hP, hD, hS⟩ := hW
  obtain ⟨p, cA, ty, h1, h2, -⟩ := isI_at (V := V) (M := M) ho
  cases h1
  subst hv
  exact va_zald (D := vD V) (cl := vwCl) (tys := vT V) (ws := wsOf V M) Cx.1 Cx.2.1 hK hP p 1 h2 rfl hin hdg kk
theorem q_cald {E : WE} {own : String} {cc : ByteArray} {nL fr lo : Nat} (Cx : CX E own cc nL fr lo) {H : Heap} {locs : List Loc} {pc : Nat} {ls : Array Slot} {rest : List Value} {V : VT} {A : Nat → Prop} {H0 : Heap} {M : Mem} (hW : Wd V A H0 M (eS E) H locs) {j o n : Nat} (ho : isI j o n 2) {i v : Int32} (hin : vp_in i n) (hv : v = M j o i.toNatClampNeg) (hdg : decode cc pc = .ok (.caload, 1)) (kk : Wq E H locs (pc + 1) ls (.int v :: rest)) : Wq E H locs pc ls (.int i :: .ref (vA V j o) :: rest) := by
  obtain ⟨hK, hP, hD, hS⟩ := hW
  obtain ⟨p, cA, ty, h1, h2, -⟩ := isI_at (V := V) (M := M) ho
  cases h1
  subst hv
  exact va_cald (D := vD V) (cl := vwCl) (tys := vT V) (ws := wsOf V M) Cx.1 Cx.2.1 hK hP p 2 h2 rfl hin hdg kk
theorem q_iast {E : WE} {own : String} {cc : ByteArray} {nL fr lo : Nat} (Cx : CX E own cc nL fr lo) {H : Heap} {locs : List Loc} {pc : Nat} {ls : Array Slot} {rest : List Value} {V : VT} {A : Nat → Prop} {H0 : Heap} {M : Mem} (hW : Wd V A H0 M (eS E) H locs) {j o n : Nat} (ho : isI j o n 0) {i x : Int32} (hin : vp_in i n) {B' : Blk} (hB : B' = bs (M j) o i.toNatClampNeg x) (hdg : decode cc pc = .ok (.iastore, 1)) (kk : ∀ (H1 : Heap) (locs1 : List Loc), Wd V A H0 (jb M j B') (eS E) H1 locs1 → Wq E H1 locs1 (pc + 1) ls rest) : Wq E H locs pc ls (.int x :: .int i :: .ref (vA V j o) :: rest) := by
  obtain ⟨hK, hP, hD, hS⟩ := hW
  obtain ⟨p, cA, ty, h1, h2, h3⟩ := isI_at (V := V) (M := M) ho
  cases h1
  refine va_iast (D := vD V) (cl := vwCl) (tys := vT V) (ws := wsOf V M) Cx.1 Cx.2.1 hK hP hD hS p 0 h2 rfl hin hdg (fun H1 locs1 hP1 hD1 hS1 => ?_)
  rw [h3, bc_upd, ← hB] at hP1 hD1
  exact kk H1 locs1 ⟨hK, hP1, hD1, hS1⟩
theorem q_zast {E : WE} {own : String} {cc : ByteArray} {nL fr lo : Nat} (Cx : CX E own cc nL fr lo) {H : Heap} {locs : List Loc} {pc : Nat} {ls : Array Slot} {rest : List Value} {V : VT} {A : Nat → Prop} {H0 : Heap} {M : Mem} (hW : Wd V A H0 M (eS E) H locs) {j o n : Nat} (ho : isI j o n 1) {i x : Int32} (hin : vp_in i n) {B' : Blk} (hB : B' = bs (M j) o i.toNatClampNeg (vp_nar .boolean x)) (hdg : decode cc pc = .ok (.bastore, 1)) (kk : ∀ (H1 : Heap) (locs1 : List Loc), Wd V A H0 (jb M j B') (eS E) H1 locs1 → Wq E H1 locs1 (pc + 1) ls rest) : Wq E H locs pc ls (.int x :: .int i :: .ref (vA V j o) :: rest) := by
  obtain ⟨hK, hP, hD, hS⟩ := hW
  obtain ⟨p, cA, ty, h1, h2, h3⟩ := isI_at (V := V) (M := M) ho
  cases h1
  refine va_zast (D := vD V) (cl := vwCl) (tys := vT V) (ws := wsOf V M) Cx.1 Cx.2.1 hK hP hD hS p 1 h2 rfl hin hdg (fun H1 locs1 hP1 hD1 hS1 => ?_)
  rw [h3, bc_upd, ← hB] at hP1 hD1
  exact kk H1 locs1 ⟨hK, hP1, hD1, hS1⟩
theorem q_cast {E : WE} {own : String} {cc : ByteArray} {nL fr lo : Nat} (Cx : CX E own cc nL fr lo) {H : Heap} {locs : List Loc} {pc : Nat} {ls : Array Slot} {rest : List Value} {V : VT} {A : Nat → Prop} {H0 : Heap} {M : Mem} (hW : Wd V A H0 M (eS E) H locs) {j o n : Nat} (ho : isI j o n 2) {i x : Int32} (hin : vp_in i n) {B' : Blk} (hB : B' = bs (M j) o i.toNatClampNeg (vp_nar .char x)) (hdg : decode cc pc = .ok (.castore, 1)) (kk : ∀ (H1 : Heap) (locs1 : List Loc), Wd V A H0 (jb M j B') (eS E) H1 locs1 → Wq E H1 locs1 (pc + 1) ls rest) : Wq E H locs pc ls (.int x :: .int i :: .ref (vA V j o) :: rest) := by
  obtain ⟨hK, hP, hD, hS⟩ := hW
  obtain ⟨p, cA, ty, h1, h2, h3⟩ := isI_at (V := V) (M := M) ho
  cases h1
  refine va_cast (D := vD V) (cl := vwCl) (tys := vT V) (ws := wsOf V M) Cx.1 Cx.2.1 hK hP hD hS p 2 h2 rfl hin hdg (fun H1 locs1 hP1 hD1 hS1 => ?_)
  rw [h3, bc_upd, ← hB] at hP1 hD1
  exact kk H1 locs1 ⟨hK, hP1, hD1, hS1⟩
theorem q_alen {E : WE} {own : String} {cc : ByteArray} {nL fr lo : Nat} (Cx : CX E own cc nL fr lo) {H : Heap} {locs : List Loc} {pc : Nat} {ls : Array Slot} {rest : List Value} {V : VT} {A : Nat → Prop} {H0 : Heap} {M : Mem} (hW : Wd V A H0 M (eS E) H locs) {j o n : Nat} (ho : isI j o n 0) {v : Int32} (hv : Int32.ofNat n = v) (hdg : decode cc pc = .ok (.arraylength, 1)) (kk : Wq E H locs (pc + 1) ls (.int v :: rest)) : Wq E H locs pc ls (.ref (vA V j o) :: rest) := by
  obtain ⟨hK, hP, hD, hS⟩ := hW
  obtain ⟨p, cA, ty, h1, h2, -⟩ := isI_at (V := V) (M := M) ho
  cases h1
  exact va_alen (D := vD V) (cl := vwCl) (tys := vT V) (ws := wsOf V M) Cx.1 Cx.2.1 hK hP p 0 h2 rfl hv hdg kk
/-- the rows of references: slots (11, 1), ring (11, 4) -/
def isR (o n b : Nat) : Prop := isPl 11 o ∧ ∀ (V : VT) (M : Mem), cellOf V M (11, o) = .inl (vM V, n, .inr (.inr (.inr (.inr (fun i => some (vA V (b + i) 0))))))
theorem ar_1 : isR 1 2 2 := ⟨pl_X (by decide), fun _ _ => rfl⟩
theorem ar_4 : isR 4 7 4 := ⟨pl_X (by decide), fun _ _ => rfl⟩
theorem q_aald {E : WE} {own : String} {cc : ByteArray} {nL fr lo : Nat} (Cx : CX E own cc nL fr lo) {H : Heap} {locs : List Loc} {pc : Nat} {ls : Array Slot} {rest : List Value} {V : VT} {A : Nat → Prop} {H0 : Heap} {M : Mem} (hW : Wd V A H0 M (eS E) H locs) {o n b : Nat} (ho : isR o n b) {i : Int32} (hin : vp_in i n) (hdg : decode cc pc = .ok (.aaload, 1)) (kk : Wq E H locs (pc + 1) ls (.ref (vA V (b + i.toNatClampNeg) 0) :: rest)) : Wq E H locs pc ls (.int i :: .ref (vA V 11 o) :: rest) := by
  obtain ⟨hK, hP, hD, hS⟩ := hW
  obtain ⟨⟨p, hp⟩, hc⟩ := ho
  exact va_aldq (D := vD V) (cl := vwCl) (tys := vT V) (ws := wsOf V M) Cx.1 Cx.2.1 hK hP p 3 (f := fun i => some (vA V (b + i) 0)) (C := "SlackMarket$Market") ((ws_at hp).trans (by rw [hc])) rfl hin hdg kk
theorem q_alenR {E : WE} {own : String} {cc : ByteArray} {nL fr lo : Nat} (Cx : CX E own cc nL fr lo) {H : Heap} {locs : List Loc} {pc : Nat} {ls : Array Slot} {rest : List Value} {V : VT} {A : Nat → Prop} {H0 : Heap} {M : Mem} (hW : Wd V A H0 M (eS E) H locs) {o n b : Nat} (ho : isR o n b) {v : Int32} (hv : Int32.ofNat n = v) (hdg : decode cc pc = .ok (.arraylength, 1)) (kk : Wq E H locs (pc + 1) ls (.int v :: rest)) : Wq E H locs pc ls (.ref (vA V 11 o) :: rest) := by
  obtain ⟨hK, hP, hD, hS⟩ := hW
  obtain ⟨⟨p, hp⟩, hc⟩ := ho
  exact va_alen (D := vD V) (cl := vwCl) (tys := vT V) (ws := wsOf V M) Cx.1 Cx.2.1 hK hP p 3 ((ws_at hp).trans (by rw [hc])) rfl hv hdg kk
theorem q_max {E : WE} {own : String} {cc : ByteArray} {nL fr lo : Nat} (Cx : CX E own cc nL fr lo) {H : Heap} {locs : List Loc} {pc : Nat} {ls : Array Slot} {rest : List Value} {x y v : Int32} {index : Nat} (hlink : Cond.methodLink own index Lib.Math.max.name ∈ lw_gd) (hstat : Cond.static Lib.Math.max.name ∈ lw_gd) (hini : Cond.initialized "java/lang/Math" ∈ lw_gd) (hcode : Cond.code Lib.Math.max.name Lib.Math.max.code 2 (some .int) ∈ lw_gd) (hls : ls.size = nL) (hfr : 1 ≤ fr) (hlo : (rest.map fun v => v.category).sum + 13 ≤ lo) (hv : (if x < y then y else x) = v) (hdg : decode cc pc = .ok (.invokestatic index, 3)) (kk : Wq E H locs (pc + 3) ls (.int v :: rest)) : Wq E H locs pc ls (.int y :: .int x :: rest) := by
  subst hv
  exact va_mmax Cx.1 Cx.2.1 (Cx.2.2.1.trans hls.symm) Cx.2.2.2.1 (Cx.2.2.2.2.1 _ hlink) (Cx.2.2.2.2.1 _ hstat) (Cx.2.2.2.2.1 _ hini) (Cx.2.2.2.2.1 _ hcode) (Nat.le_trans hfr Cx.2.2.2.2.2.1) (Nat.le_trans hlo Cx.2.2.2.2.2.2.1) Cx.2.2.2.2.2.2.2.1 Cx.2.2.2.2.2.2.2.2 hdg kk
theorem q_min {E : WE} {own : String} {cc : ByteArray} {nL fr lo : Nat} (Cx : CX E own cc nL fr lo) {H : Heap} {locs : List Loc} {pc : Nat} {ls : Array Slot} {rest : List Value} {x y v : Int32} {index : Nat} (hlink : Cond.methodLink own index Lib.Math.min.name ∈ lw_gd) (hstat : Cond.static Lib.Math.min.name ∈ lw_gd) (hini : Cond.initialized "java/lang/Math" ∈ lw_gd) (hcode : Cond.code Lib.Math.min.name Lib.Math.min.code 2 (some .int) ∈ lw_gd) (hls : ls.size = nL) (hfr : 1 ≤ fr) (hlo : (rest.map fun v => v.category).sum + 13 ≤ lo) (hv : (if y < x then y else x) = v) (hdg : decode cc pc = .ok (.invokestatic index, 3)) (kk : Wq E H locs (pc + 3) ls (.int v :: rest)) : Wq E H locs pc ls (.int y :: .int x :: rest) := by
  subst hv
  exact va_mmin Cx.1 Cx.2.1 (Cx.2.2.1.trans hls.symm) Cx.2.2.2.1 (Cx.2.2.2.2.1 _ hlink) (Cx.2.2.2.2.1 _ hstat) (Cx.2.2.2.2.1 _ hini) (Cx.2.2.2.2.1 _ hcode) (Nat.le_trans hfr Cx.2.2.2.2.2.1) (Nat.le_trans hlo Cx.2.2.2.2.2.2.1) Cx.2.2.2.2.2.2.2.1 Cx.2.2.2.2.2.2.2.2 hdg kk
/-- System.arraycopy from place (j0, o) to place (j, o), both from 0 on -/
theorem q_copy {E : WE} {own : String} {cc : ByteArray} {nL fr lo : Nat} (Cx : CX E own cc nL fr lo) {H : Heap} {locs : List Loc} {pc : Nat} {ls : Array Slot} {rest : List Value} {V : VT} {A : Nat → Prop} {H0 : Heap} {M : Mem} (hW : Wd V A H0 M (eS E) H locs) {j0 o0 n0 j o n : Nat} (ho0 : isI j0 o0 n0 0) (ho : isI j o n 0) {cnt : Int32} (hc : ¬ cnt < 0) (hn0 : cnt.toNatClampNeg ≤ n0) (hn : cnt.toNatClampNeg ≤ n) {B' : Blk} (hB : B' = bc (M j) o (va_cpy (M j0 o0) (M j o) 0 0 cnt.toNatClampNeg)) {index : Nat} (hlink : Cond.methodLink own index arraycopyName ∈ lw_gd) (hnat : Cond.native arraycopyName ∈ lw_gd) (hstat : Cond.static arraycopyName ∈ lw_gd) (hini : Cond.initialized "java/lang/System" ∈ lw_gd) (hls : ls.size = nL) (hfr : 1 ≤ fr) (hlo : (rest.map fun v => v.category).sum + (nativeFrameWords "java/lang/System" "arraycopy" 5 + 11) ≤ lo) (hdg : decode cc pc = .ok (.invokestatic index, 3)) (kk : ∀ (H1 : Heap) (locs1 : List Loc), Wd V A H0 (jb M j B') (eS E) H1 locs1 → Wq E H1 locs1 (pc + 3) ls rest) : Wq E H locs pc ls (.int cnt :: .int 0 :: .ref (vA V j o) :: .int 0 :: .ref (vA V j0 o0) :: rest) := by
  obtain ⟨hK, hP, hD, hS⟩ := hW
  obtain ⟨p0, cA0, ty0, h01, h02, -⟩ := isI_at (V := V) (M := M) ho0
  obtain ⟨p, cA, ty, h1, h2, h3⟩ := isI_at (V := V) (M := M) ho
  cases h01
  cases h1
  refine va_copyi (D := vD V) (cl := vwCl) (tys := vT V) (ws := wsOf V M) Cx.1 Cx.2.1 (Cx.2.2.1.trans hls.symm) Cx.2.2.2.1 (Cx.2.2.2.2.1 _ hlink) (Cx.2.2.2.2.1 _ hnat) (Cx.2.2.2.2.1 _ hstat) (Cx.2.2.2.2.1 _ hini) hK hP hD hS p0 p 0 0 h02 h2 rfl rfl rfl (by decide) (by decide) hc (by rw [show (0 : Int32).toNatClampNeg = 0 from rfl, Nat.zero_add]; exact hn0) (by rw [show (0 : Int32).toNatClampNeg = 0 from rfl, Nat.zero_add]; exact hn) (fun _ _ => rfl) (Nat.le_trans hfr Cx.2.2.2.2.2.1) (Nat.le_trans hlo Cx.2.2.2.2.2.2.1) hdg (fun H1 locs1 hP1 hD1 hS1 => ?_)
  rw [h3] at hP1 hD1
  subst hB
  exact kk H1 locs1 ⟨hK, hP1, hD1, hS1⟩
end
section
/-! CONTRACTS over memories, and calls -/
def AV (V : VT) : Nat → Prop := fun q => ∃ (i : Nat) (p : Nat × Nat), places[i]? = some p ∧ q = vA V p.1 p.2
def W0 (V : VT) (M : Mem) (U : State) : Prop := va_K (vD V) vwCl (vT V) U ∧ va_P (vD V) vwCl (wsOf V M) U.heap ∧ va_D (AV V) (wsOf V M)
theorem W0.blind {V : VT} {M : Mem} {U : State} {g : JFrame} {mk : MethodId} {a : Array Value} (h : W0 V M U) : W0 V M (U.calling g mk a) := ⟨va_K.moved (u := U) (U := U.calling g mk a) (Vm.Alike.refl U.vm) h.1, h.2.1, h.2.2⟩
def MetI (l : Launch) (V : VT) (y : MethodName) (cc : ByteArray) (nL : Nat) (ret : FieldType) (rm : Room) (as : List Value) (r : Int32) (M M' : Mem) : Prop := Met l y (Cond.code y cc nL (some ret) :: lw_gd) rm (va_Pc as (W0 V M)) (va_Qi (fun (x : Int32) (_ : Unit) => x = r) (fun _ t => W0 V M' t) (AV V)) 0 0 (AV V)
def MetV (l : Launch) (V : VT) (y : MethodName) (cc : ByteArray) (nL : Nat) (rm : Room) (as : List Value) (M M' : Mem) : Prop := Met l y (Cond.code y cc nL none :: lw_gd) rm (va_Pc as (W0 V M)) (va_Qv (fun (_ : Unit) => True) (fun _ t => W0 V M' t) (AV V)) 0 0 (AV V)
def MetL (l : Launch) (V : VT) (y : MethodName) (cc : ByteArray) (nL : Nat) (rm : Room) (as : List Value) (r : Int64) (M M' : Mem) : Prop := Met l y (Cond.code y cc nL (some .long) :: lw_gd) rm (va_Pc as (W0 V M)) (va_Ql (fun (x : Int64) (_ : Unit) => x = r) (fun _ t => W0 V M' t) (AV V)) 0 0 (AV V)
/-- the ends of a body -/
def RetI (E : WE) (V : VT) (A : Nat → Prop) (H0 : Heap) (cc : ByteArray) (ret : FieldType) (r : Int32) (M' : Mem) : Prop := ∀ (pc : Nat) (H : Heap) (locs : List Loc) (ls : Array Slot), decode cc pc = .ok (.ireturn, 1) → narrow ret (.int r) = .int r → Wd V A H0 M' (eS E) H locs → Wq E H locs pc ls [.int r]
def RetL (E : WE) (V : VT) (A : Nat → Prop) (H0 : Heap) (cc : ByteArray) (r : Int64) (M' : Mem) : Prop := ∀ (pc : Nat) (H : Heap) (locs : List Loc) (ls : Array Slot), decode cc pc = .ok (.lreturn, 1) → Wd V A H0 M' (eS E) H locs → Wq E H locs pc ls [.long r]
def RetV (E : WE) (V : VT) (A : Nat → Prop) (H0 : Heap) (cc : ByteArray) (M' : Mem) : Prop := ∀ (pc : Nat) (H : Heap) (locs : List Loc) (ls : Array Slot), decode cc pc = .ok (.return_, 1) → Wd V A H0 M' (eS E) H locs → Wq E H locs pc ls []
/-- what the calls of a method need of the tables -/
def CalOK (y : MethodName) (cc : ByteArray) (nL : Nat) (ret : Option FieldType) (n : Nat) : Prop := Cond.initialized y.cls ∈ lw_gd ∧ Cond.code y cc nL ret ∈ lw_gd ∧ (y.cls ≠ "java/lang/invoke/MethodHandle" ∧ y.cls ≠ "java/lang/invoke/VarHandle" ∧ (parseMethodDescriptor y.desc).map (fun d => d.parameters.length) = some n)
def VirOK (y : MethodName) : Prop := Cond.instanceMethod y ∈ lw_gd ∧ Cond.selects y.cls y y ∈ lw_gd
theorem W0_of_Wd {V : VT} {A : Nat → Prop} {H0 : Heap} {M : Mem} {s : State} {H : Heap} {locs : List Loc} (hW : Wd V A H0 M s H locs) {U : State} (hU : U.heap = H) (ha : s.WarmedH U.vm) : W0 V M U := by
  obtain ⟨hK, hP, hD, hS⟩ := hW
  refine ⟨va_K.moved ha.alike hK, by rw [hU]; exact hP, hD.1, fun k q hk => ?_⟩
  unfold wsOf at hk
  rw [List.getElem?_map] at hk
  cases hp : places[k]? with
  | none => rw [hp] at hk; cases hk
  | some p => rw [hp] at hk; cases hk; exact ⟨k, p, hp, rfl⟩
theorem AV_A {V : VT} {A : Nat → Prop} {H0 : Heap} {M : Mem} {s : State} {H : Heap} {locs : List Loc} (hW : Wd V A H0 M s H locs) : ∀ q, AV V q → A q := by
  rintro q ⟨i, p, hp, rfl⟩
  obtain ⟨j, o⟩ := p
  exact hW.2.2.1.2 i _ (ws_at hp)
theorem Wd_after {V : VT} {A : Nat → Prop} {H0 : Heap} {M M' : Mem} {s : State} {H H1 : Heap} {locs locs1 : List Loc} (hW : Wd V A H0 M s H locs) {t : State} (ht : t.heap = H1) (hv : s.vm.Alike t.vm) (h0 : W0 V M' t) (hS : va_S A H0 H1 locs1) : Wd V A H0 M' s H1 locs1 :=
  ⟨va_K.moved hv.symm h0.1, by rw [← ht]; exact h0.2.1, h0.2.2.weaken (fun _ _ _ h => AV_A hW _ h), hS⟩
section CALLS
variable {E : WE} {own : String} {cc : ByteArray} {nL fr lo : Nat} {H : Heap} {locs : List Loc} {pc : Nat} {ls : Array Slot} {rest st : List Value} {V : VT} {A : Nat → Prop} {H0 : Heap} {M M' : Mem} {y : MethodName} {bytes : ByteArray} {maxL n index : Nat} {rm : Room} {as : List Value}
theorem call_cwV (Cx : CX E own cc nL fr lo) {ret : Option FieldType} (ok : CalOK y bytes maxL ret n) (ov : VirOK y) (hl : Cond.methodLink own index y ∈ lw_gd) (hrm : rm.cells = 0 ∧ rm.slots = 0 ∧ rm.frames + 1 ≤ fr ∧ 8 + (maxL + 11) + rm.locals ≤ lo) : CallW (eR E) (eS E) (eA E) own y.cls index y bytes maxL ret (Cond.code y bytes maxL ret :: lw_gd) rm 0 0 n := by
  have hg : GoodIn lw_gd (wsV own index y.cls y (Cond.code y bytes maxL ret :: lw_gd)) := by
    intro w hw
    unfold wsV at hw
    have hm : w ∈ lw_gd := by
      rcases List.mem_append.mp hw with h | h
      · simp only [List.mem_cons, List.not_mem_nil, or_false] at h
        rcases h with rfl | rfl | rfl | rfl
        · exact hl
        · exact ov.1
        · exact ov.2
        · exact ok.1
      · rcases List.mem_cons.mp h with rfl | h
        · exact ok.2.1
        · exact h
    exact ⟨hm, good_of_word (gd_good _ hm)⟩
  exact cwV n Cx.2.2.2.2.1 hg rfl hrm.1 hrm.2.1 ⟨rfl, ok.2.2⟩ ⟨Nat.le_trans hrm.2.2.1 Cx.2.2.2.2.2.1, Nat.le_trans hrm.2.2.2 Cx.2.2.2.2.2.2.1⟩
theorem call_cwS (Cx : CX E own cc nL fr lo) {ret : Option FieldType} (ok : CalOK y bytes maxL ret n) (os : Cond.static y ∈ lw_gd) (hown : y.cls = own) (hl : Cond.methodLink own index y ∈ lw_gd) (hrm : rm.cells = 0 ∧ rm.slots = 0 ∧ rm.frames + 1 ≤ fr ∧ 8 + (maxL + 11) + rm.locals ≤ lo) : CallB (eR E) (eS E) (eA E) own index y bytes maxL ret (Cond.code y bytes maxL ret :: lw_gd) rm 0 0 n ∧ (Cond.static y).before (eA E) (eS E) = true := by
  have hg : GoodIn lw_gd (wsS own index y (Cond.code y bytes maxL ret :: lw_gd)) := by
    intro w hw
    unfold wsS at hw
    have hm : w ∈ lw_gd := by
      rcases List.mem_append.mp hw with h | h
      · simp only [List.mem_cons, List.not_mem_nil, or_false] at h
        rcases h with rfl | rfl | rfl
        · exact hl
        · exact os
        · rw [← hown]; exact ok.1
      · rcases List.mem_cons.mp h with rfl | h
        · exact ok.2.1
        · exact h
    exact ⟨hm, good_of_word (gd_good _ hm)⟩
  exact cwS n Cx.2.2.2.2.1 hg rfl hrm.1 hrm.2.1 ⟨hown, ok.2.2⟩ ⟨Nat.le_trans hrm.2.2.1 Cx.2.2.2.2.2.1, Nat.le_trans hrm.2.2.2 Cx.2.2.2.2.2.2.1⟩
theorem call_preV (hW : Wd V A H0 M (eS E) H locs) {j o ci : Nat} {fs : Blk → List Value} (ho : isO V j o ci fs) {T : u_T} {N : Nat} {ty : Nat → FieldType} (hc : isC ci y.cls T N ty) : PreV (eS E) H y.cls (vA V j o) (va_Pc (.ref (vA V j o) :: as) (W0 V M)) as := by
  obtain ⟨⟨i, hi⟩, hcell⟩ := ho
  refine ⟨fun a U g mk q => ⟨q.1, q.2.blind⟩, ?_, fun U hU hv => ⟨rfl, W0_of_Wd hW hU hv⟩⟩
  exact va_recv hW.1 hW.2.1 (ci := ci) (q0 := i) hc.1 ((ws_at hi).trans (by rw [hcell]))
theorem q_callI (Cx : CX E own cc nL fr lo) {ret : FieldType} {r : Int32} {j o ci : Nat} {fs : Blk → List Value} {T : u_T} {N : Nat} {ty : Nat → FieldType} (hM : MetI (eL E) V y bytes maxL ret rm (.ref (vA V j o) :: as) r M M') (ok : CalOK y bytes maxL (some ret) n) (ov : VirOK y) (hl : Cond.methodLink own index y ∈ lw_gd) (hrm : rm.cells = 0 ∧ rm.slots = 0 ∧ rm.frames + 1 ≤ fr ∧ 8 + (maxL + 11) + rm.locals ≤ lo) (hW : Wd V A H0 M (eS E) H locs) (ho : isO V j o ci fs) (hc : isC ci y.cls T N ty) (hn : as.length = n) (hls : ls.size = nL) (hrest : (rest.map fun v => v.category).sum ≤ 8) (hst : st = as.reverse ++ .ref (vA V j o) :: rest) (hdg : decode cc pc = .ok (.invokevirtual index, 3))
    (kk : ∀ (H1 : Heap) (locs1 : List Loc), Wd V A H0 M' (eS E) H1 locs1 → Wq E H1 locs1 (pc + 3) ls (.int r :: rest)) : Wq E H locs pc ls st := by
  subst hst
  refine va_calli (A1 := AV V) (va_runV (As := as) (rest := rest) (n := n) ⟨Cx.1, Cx.2.1, Cx.2.2.1, Cx.2.2.2.1, Cx.2.2.2.2.1⟩ hM (call_cwV Cx ok ov hl hrm) (call_preV hW ho hc) rfl hn hls rfl (lv_room hrest) hdg ⟨Cx.2.2.2.2.2.2.2.1, Cx.2.2.2.2.2.2.2.2⟩) hW.2.2.2 (fun q _ h => AV_A hW q h) (fun q h => AV_A hW q h) (fun r1 u t H1 locs1 ht hv hr hB hz hk hS => ?_)
  subst hr
  exact kk H1 locs1 (Wd_after hW ht hv hB hS)
theorem q_callL (Cx : CX E own cc nL fr lo) {r : Int64} {j o ci : Nat} {fs : Blk → List Value} {T : u_T} {N : Nat} {ty : Nat → FieldType} (hM : MetL (eL E) V y bytes maxL rm (.ref (vA V j o) :: as) r M M') (ok : CalOK y bytes maxL (some .long) n) (ov : VirOK y) (hl : Cond.methodLink own index y ∈ lw_gd) (hrm : rm.cells = 0 ∧ rm.slots = 0 ∧ rm.frames + 1 ≤ fr ∧ 8 + (maxL + 11) + rm.locals ≤ lo) (hW : Wd V A H0 M (eS E) H locs) (ho : isO V j o ci fs) (hc : isC ci y.cls T N ty) (hn : as.length = n) (hls : ls.size = nL) (hrest : (rest.map fun v => v.category).sum ≤ 8) (hst : st = as.reverse ++ .ref (vA V j o) :: rest) (hdg : decode cc pc = .ok (.invokevirtual index, 3))
    (kk : ∀ (H1 : Heap) (locs1 : List Loc), Wd V A H0 M' (eS E) H1 locs1 → Wq E H1 locs1 (pc + 3) ls (.long r :: rest)) : Wq E H locs pc ls st := by
  subst hst
  refine va_calll (A1 := AV V) (va_runV (As := as) (rest := rest) (n := n) ⟨Cx.1, Cx.2.1, Cx.2.2.1, Cx.2.2.2.1, Cx.2.2.2.2.1⟩ hM (call_cwV Cx ok ov hl hrm) (call_preV hW ho hc) rfl hn hls rfl (lv_room hrest) hdg ⟨Cx.2.2.2.2.2.2.2.1, Cx.2.2.2.2.2.2.2.2⟩) hW.2.2.2 (fun q _ h => AV_A hW q h) (fun q h => AV_A hW q h) (fun r1 u t H1 locs1 ht hv hr hB hz hk hS => ?_)
  subst hr
  exact kk H1 locs1 (Wd_after hW ht hv hB hS)
theorem q_callV (Cx : CX E own cc nL fr lo) {j o ci : Nat} {fs : Blk → List Value} {T : u_T} {N : Nat} {ty : Nat → FieldType} (hM : MetV (eL E) V y bytes maxL rm (.ref (vA V j o) :: as) M M') (ok : CalOK y bytes maxL none n) (ov : VirOK y) (hl : Cond.methodLink own index y ∈ lw_gd) (hrm : rm.cells = 0 ∧ rm.slots = 0 ∧ rm.frames + 1 ≤ fr ∧ 8 + (maxL + 11) + rm.locals ≤ lo) (hW : Wd V A H0 M (eS E) H locs) (ho : isO V j o ci fs) (hc : isC ci y.cls T N ty) (hn : as.length = n) (hls : ls.size = nL) (hrest : (rest.map fun v => v.category).sum ≤ 8) (hst : st = as.reverse ++ .ref (vA V j o) :: rest) (hdg : decode cc pc = .ok (.invokevirtual index, 3))
    (kk : ∀ (H1 : Heap) (locs1 : List Loc), Wd V A H0 M' (eS E) H1 locs1 → Wq E H1 locs1 (pc + 3) ls rest) : Wq E H locs pc ls st := by
  subst hst
  refine va_callv (A1 := AV V) (va_runV (As := as) (rest := rest) (n := n) ⟨Cx.1, Cx.2.1, Cx.2.2.1, Cx.2.2.2.1, Cx.2.2.2.2.1⟩ hM (call_cwV Cx ok ov hl hrm) (call_preV hW ho hc) rfl hn hls rfl (lv_room hrest) hdg ⟨Cx.2.2.2.2.2.2.2.1, Cx.2.2.2.2.2.2.2.2⟩) hW.2.2.2 (fun q _ h => AV_A hW q h) (fun q h => AV_A hW q h) (fun u t H1 locs1 ht hv hr hB hz hk hS => ?_)
  exact kk H1 locs1 (Wd_after hW ht hv hB hS)
theorem q_callSI (Cx : CX E own cc nL fr lo) {ret : FieldType} {r : Int32} (hM : MetI (eL E) V y bytes maxL ret rm as r M M') (ok : CalOK y bytes maxL (some ret) n) (os : Cond.static y ∈ lw_gd) (hown : y.cls = own) (hl : Cond.methodLink own index y ∈ lw_gd) (hrm : rm.cells = 0 ∧ rm.slots = 0 ∧ rm.frames + 1 ≤ fr ∧ 8 + (maxL + 11) + rm.locals ≤ lo) (hW : Wd V A H0 M (eS E) H locs) (hn : as.length = n) (hls : ls.size = nL) (hrest : (rest.map fun v => v.category).sum ≤ 8) (hst : st = as.reverse ++ rest) (hdg : decode cc pc = .ok (.invokestatic index, 3))
    (kk : ∀ (H1 : Heap) (locs1 : List Loc), Wd V A H0 M' (eS E) H1 locs1 → Wq E H1 locs1 (pc + 3) ls (.int r :: rest)) : Wq E H locs pc ls st := by
  subst hst
  refine va_calli (A1 := AV V) (va_runS (As := as) (rest := rest) (n := n) ⟨Cx.1, Cx.2.1, Cx.2.2.1, Cx.2.2.2.1, Cx.2.2.2.2.1⟩ hM (call_cwS Cx ok os hown hl hrm) ⟨fun a U g mk q => ⟨q.1, q.2.blind⟩, fun U hU hv => ⟨rfl, W0_of_Wd hW hU hv⟩⟩ rfl hn hls rfl (lv_room hrest) hdg ⟨Cx.2.2.2.2.2.2.2.1, Cx.2.2.2.2.2.2.2.2⟩) hW.2.2.2 (fun q _ h => AV_A hW q h) (fun q h => AV_A hW q h) (fun r1 u t H1 locs1 ht hv hr hB hz hk hS => ?_)
  subst hr
  exact kk H1 locs1 (Wd_after hW ht hv hB hS)
end CALLS
/-- a body's world, at its start -/
theorem Wd_start {V : VT} {M : Mem} {s : State} (h : W0 V M s) : Wd V (AV V) s.heap M s s.heap [] := ⟨h.1, h.2.1, h.2.2, va_S.rf⟩
theorem W0_end {V : VT} {H0 : Heap} {M : Mem} {s : State} {H : Heap} {locs : List Loc} (hW : Wd V (AV V) H0 M s H locs) {t : State} (ht : t.heap = H) (hv : s.WarmedH t.vm) : W0 V M t := ⟨va_K.moved hv.alike hW.1, by rw [ht]; exact hW.2.1, hW.2.2.1⟩
theorem metI_of {l : Launch} {V : VT} {y : MethodName} {cc : ByteArray} {nL : Nat} {ret : FieldType} {rm : Room} {as : List Value} {r : Int32} {M M' : Mem} (hy : plainName y.cls = true) (hlen : (lg_sl as).length ≤ nL)
    (body : ∀ (E : WE) (H0 : Heap), eL E = l → CX E y.cls cc nL rm.frames rm.locals → RetI E V (AV V) H0 cc ret r M' → ∀ (H : Heap) (locs : List Loc) (ls : Array Slot), Wd V (AV V) H0 M (eS E) H locs → lv_has ls nL (lv_args 0 as) → Wq E H locs 0 ls []) : MetI l V y cc nL ret rm as r M M' := by
  refine Met.ofW (cc := cc) (maxL := nL) (ret := some ret) hy rfl ?_
  intro p e s m args below meth c s₁ B hml hv
  obtain ⟨rfl, hW⟩ := hv
  have hts := atoms_spec (ws := Cond.code y cc nL (some ret) :: lw_gd) B.pre
  have hl := lv_entry as (n := nL) hlen
  rw [lg_entry_eq]
  have hlocks := B.notSynchronized
  refine body (p, l, e, rm, s, m, as.toArray, below, meth, c, 0, 0, _) s.heap rfl ⟨B.exec, B.bytes, hml, findClass_of_methodNamed B.named, fun w hw => hts w (List.mem_cons_of_mem _ hw), Nat.le_refl _, Nat.le_refl _, Nat.zero_le _, Nat.zero_le _⟩ (fun pc H locs ls hdg hn hW1 => ?_) s.heap [] _ (Wd_start hW) hl
  exact W.zret (v := r) B.exec B.bytes B.returns hn (fun t ht hv => ⟨⟨r, (), rfl, rfl, W0_end hW1 ht hv⟩, hW1.2.2.2.F ht⟩) hW1.2.2.2.2.2 hdg
theorem metL_of {l : Launch} {V : VT} {y : MethodName} {cc : ByteArray} {nL : Nat} {rm : Room} {as : List Value} {r : Int64} {M M' : Mem} (hy : plainName y.cls = true) (hlen : (lg_sl as).length ≤ nL)
    (body : ∀ (E : WE) (H0 : Heap), eL E = l → CX E y.cls cc nL rm.frames rm.locals → RetL E V (AV V) H0 cc r M' → ∀ (H : Heap) (locs : List Loc) (ls : Array Slot), Wd V (AV V) H0 M (eS E) H locs → lv_has ls nL (lv_args 0 as) → Wq E H locs 0 ls []) : MetL l V y cc nL rm as r M M' := by
  refine Met.ofW (cc := cc) (maxL := nL) (ret := some .long) hy rfl ?_
  intro p e s m args below meth c s₁ B hml hv
  obtain ⟨rfl, hW⟩ := hv
  have hts := atoms_spec (ws := Cond.code y cc nL (some .long) :: lw_gd) B.pre
  have hl := lv_entry as (n := nL) hlen
  rw [lg_entry_eq]
  have hlocks := B.notSynchronized
  refine body (p, l, e, rm, s, m, as.toArray, below, meth, c, 0, 0, _) s.heap rfl ⟨B.exec, B.bytes, hml, findClass_of_methodNamed B.named, fun w hw => hts w (List.mem_cons_of_mem _ hw), Nat.le_refl _, Nat.le_refl _, Nat.zero_le _, Nat.zero_le _⟩ (fun pc H locs ls hdg hW1 => ?_) s.heap [] _ (Wd_start hW) hl
  exact W.lret (v := r) B.exec B.bytes B.returns (fun t ht hv => ⟨⟨r, (), rfl, rfl, W0_end hW1 ht hv⟩, hW1.2.2.2.F ht⟩) hW1.2.2.2.2.2 hdg
theorem metV_of {l : Launch} {V : VT} {y : MethodName} {cc : ByteArray} {nL : Nat} {rm : Room} {as : List Value} {M M' : Mem} (hy : plainName y.cls = true) (hlen : (lg_sl as).length ≤ nL)
    (body : ∀ (E : WE) (H0 : Heap), eL E = l → CX E y.cls cc nL rm.frames rm.locals → RetV E V (AV V) H0 cc M' → ∀ (H : Heap) (locs : List Loc) (ls : Array Slot), Wd V (AV V) H0 M (eS E) H locs → lv_has ls nL (lv_args 0 as) → Wq E H locs 0 ls []) : MetV l V y cc nL rm as M M' := by
  refine Met.ofW (cc := cc) (maxL := nL) (ret := none) hy rfl ?_
  intro p e s m args below meth c s₁ B hml hv
  obtain ⟨rfl, hW⟩ := hv
  have hts := atoms_spec (ws := Cond.code y cc nL none :: lw_gd) B.pre
  have hl := lv_entry as (n := nL) hlen
  rw [lg_entry_eq]
  have hlocks := B.notSynchronized
  refine body (p, l, e, rm, s, m, as.toArray, below, meth, c, 0, 0, _) s.heap rfl ⟨B.exec, B.bytes, hml, findClass_of_methodNamed B.named, fun w hw => hts w (List.mem_cons_of_mem _ hw), Nat.le_refl _, Nat.le_refl _, Nat.zero_le _, Nat.zero_le _⟩ (fun pc H locs ls hdg hW1 => ?_) s.heap [] _ (Wd_start hW) hl
  exact W.vret B.exec B.bytes B.returns (fun t ht hv => ⟨⟨(), rfl, trivial, W0_end hW1 ht hv⟩, hW1.2.2.2.F ht⟩) hW1.2.2.2.2.2 hdg
/-! THE WORDS OF THE PURE FUNCTIONS (F_..): a method's answer and memory as a plain function, 'none' where the machine itself would throw -/
section PURE
variable {α β γ : Type}
def ld (f : Nat → Int32) (n : Nat) (i : Int32) (k : Int32 → Option α) : Option α := if i < 0 ∨ n ≤ i.toNatClampNeg then none else k (f i.toNatClampNeg)
def stb (B : Blk) (o n : Nat) (i v : Int32) (k : Blk → Option α) : Option α := if i < 0 ∨ n ≤ i.toNatClampNeg then none else k (bs B o i.toNatClampNeg v)
def gi (i : Int32) (n : Nat) (k : Option α) : Option α := if i < 0 ∨ n ≤ i.toNatClampNeg then none else k
def lt1 (x : β) (k : β → Option α) : Option α := k x
def nz (y : Int32) (k : Option α) : Option α := if y = 0 then none else k
def c1 (x : Option β) (k : β → Option α) : Option α := match x with
  | none => none
  | some r => k r
def c2 (x : Option (β × γ)) (k : β → γ → Option α) : Option α := match x with
  | none => none
  | some r => k r.1 r.2
def rZ (v : Int32) (k : Option α) : Option α := if v = 0 ∨ v = 1 then k else none
def fu : Nat := 100000
theorem ld_some {f : Nat → Int32} {n : Nat} {i : Int32} {k : Int32 → Option α} {x : α} (h : ld f n i k = some x) : vp_in i n ∧ ∃ v, v = f i.toNatClampNeg ∧ k v = some x := by
  unfold ld at h
  by_cases hi : i < 0 ∨ n ≤ i.toNatClampNeg
  · rw [if_pos hi] at h; cases h
  · rw [if_neg hi] at h; exact ⟨hi, _, rfl, h⟩
theorem stb_some {B : Blk} {o n : Nat} {i v : Int32} {k : Blk → Option α} {x : α} (h : stb B o n i v k = some x) : vp_in i n ∧ ∃ B', B' = bs B o i.toNatClampNeg v ∧ k B' = some x := by
  unfold stb at h
  by_cases hi : i < 0 ∨ n ≤ i.toNatClampNeg
  · rw [if_pos hi] at h; cases h
  · rw [if_neg hi] at h; exact ⟨hi, _, rfl, h⟩
theorem gi_some {i : Int32} {n : Nat} {k : Option α} {x : α} (h : gi i n k = some x) : vp_in i n ∧ k = some x := by
  unfold gi at h
  by_cases hi : i < 0 ∨ n ≤ i.toNatClampNeg
  · rw [if_pos hi] at h; cases h
  · rw [if_neg hi] at h; exact ⟨hi, h⟩
theorem lt1_some {y : β} {k : β → Option α} {x : α} (h : lt1 y k = some x) : ∃ z, z = y ∧ k z = some x := ⟨y, rfl, h⟩
theorem nz_some {y : Int32} {k : Option α} {x : α} (h : nz y k = some x) : ¬ y = 0 ∧ k = some x := by
  unfold nz at h
  by_cases hy : y = 0
  · rw [if_pos hy] at h; cases h
  · rw [if_neg hy] at h; exact ⟨hy, h⟩
theorem c1_some {y : Option β} {k : β → Option α} {x : α} (h : c1 y k = some x) : ∃ z, y = some z ∧ k z = some x := by
  cases y with
  | none => cases h
  | some z => exact ⟨z, rfl, h⟩
theorem c2_some {y : Option (β × γ)} {k : β → γ → Option α} {x : α} (h : c2 y k = some x) : ∃ z w, y = some (z, w) ∧ k z w = some x := by
  cases y with
  | none => cases h
  | some z => exact ⟨z.1, z.2, rfl, h⟩
theorem rZ_some {v : Int32} {k : Option α} {x : α} (h : rZ v k = some x) : narrow .boolean (.int v) = .int v ∧ k = some x := by
  unfold rZ at h
  by_cases hv : v = 0 ∨ v = 1
  · rw [if_pos hv] at h
    refine ⟨?_, h⟩
    rcases hv with rfl | rfl <;> rfl
  · rw [if_neg hv] at h; cases h
theorem nI32 (r : Int32) : narrow .int (.int r) = .int r := rfl
end PURE
end
section
/-! the same rows over one block B of the memory (qb_), and over the whole memory with a new name for it (qw_) -/
theorem q_topi {E : WE} {H : Heap} {locs : List Loc} {pc : Nat} {ls : Array Slot} {rest : List Value} {x y : Int32} (e : y = x) (k : Wq E H locs pc ls (.int y :: rest)) : Wq E H locs pc ls (.int x :: rest) := e ▸ k
theorem q_topl {E : WE} {H : Heap} {locs : List Loc} {pc : Nat} {ls : Array Slot} {rest : List Value} {x y : Int64} (e : y = x) (k : Wq E H locs pc ls (.long y :: rest)) : Wq E H locs pc ls (.long x :: rest) := e ▸ k
theorem qb_get {E : WE} {own : String} {cc : ByteArray} {nL fr lo : Nat} (Cx : CX E own cc nL fr lo) {H : Heap} {locs : List Loc} {pc : Nat} {ls : Array Slot} {rest : List Value} {V : VT} {A : Nat → Prop} {H0 : Heap} {M : Mem} {j : Nat} {B : Blk} (hW : Wd V A H0 (jb M j B) (eS E) H locs) {o ci : Nat} {fs : Blk → List Value} (ho : isO V j o ci fs) {C : String} {T : u_T} {N : Nat} {ty : Nat → FieldType} (hc : isC ci C T N ty) (k : Nat) {v : Value} (hk : k < N) (hv : (fs B)[k]? = some v) {index : Nat} (hlink : Cond.fieldLink own index (T k).1 (T k).2.1 (T k).2.2.1 ∈ lw_gd) (hdg : decode cc pc = .ok (.getfield index, 3)) (kk : Wq E H locs (pc + 3) ls (v :: rest)) : Wq E H locs pc ls (.ref (vA V j o) :: rest) := q_get Cx hW ho hc k hk (by rw [jb_at]; exact hv) hlink hdg kk
theorem qb_put {E : WE} {own : String} {cc : ByteArray} {nL fr lo : Nat} (Cx : CX E own cc nL fr lo) {H : Heap} {locs : List Loc} {pc : Nat} {ls : Array Slot} {rest : List Value} {V : VT} {A : Nat → Prop} {H0 : Heap} {M : Mem} {j : Nat} {B : Blk} (hW : Wd V A H0 (jb M j B) (eS E) H locs) {o ci : Nat} {fs : Blk → List Value} (ho : isO V j o ci fs) {C : String} {T : u_T} {N : Nat} {ty : Nat → FieldType} (hc : isC ci C T N ty) (k : Nat) {v : Int32} {B' : Blk} (hk : k < N) (hlen : k < (fs B).length) (hB : B' = bs B o k v) (hset : (fs B).set k (.int v) = fs (bs B o k v)) (hfin : (T k).2.2.2 = false) (hty : narrow (ty k) (.int v) = .int v ∧ fits (ty k) (.int v) = true) {index : Nat} (hlink : Cond.fieldLink own index (T k).1 (T k).2.1 (T k).2.2.1 ∈ lw_gd) (hdg : decode cc pc = .ok (.putfield index, 3)) (kk : ∀ (H1 : Heap) (locs1 : List Loc), Wd V A H0 (jb M j B') (eS E) H1 locs1 → Wq E H1 locs1 (pc + 3) ls rest) : Wq E H locs pc ls (.int v :: .ref (vA V j o) :: rest) := by
  subst hB
  refine q_put Cx hW ho hc k (B' := bs B o k v) hk (by rw [jb_at]; exact hlen) (fun o' h => by rw [jb_at]; exact bs_ne h) (by rw [jb_at]; exact hset) hfin hty hlink hdg (fun H1 locs1 hW1 => kk H1 locs1 (by rw [jb_jb] at hW1; exact hW1))
theorem qw_put {E : WE} {own : String} {cc : ByteArray} {nL fr lo : Nat} (Cx : CX E own cc nL fr lo) {H : Heap} {locs : List Loc} {pc : Nat} {ls : Array Slot} {rest : List Value} {V : VT} {A : Nat → Prop} {H0 : Heap} {M : Mem} {j : Nat} (hW : Wd V A H0 M (eS E) H locs) {o ci : Nat} {fs : Blk → List Value} (ho : isO V j o ci fs) {C : String} {T : u_T} {N : Nat} {ty : Nat → FieldType} (hc : isC ci C T N ty) (k : Nat) {v : Int32} {M' : Mem} (hk : k < N) (hlen : k < (fs (M j)).length) (hM : M' = jb M j (bs (M j) o k v)) (hset : (fs (M j)).set k (.int v) = fs (bs (M j) o k v)) (hfin : (T k).2.2.2 = false) (hty : narrow (ty k) (.int v) = .int v ∧ fits (ty k) (.int v) = true) {index : Nat} (hlink : Cond.fieldLink own index (T k).1 (T k).2.1 (T k).2.2.1 ∈ lw_gd) (hdg : decode cc pc = .ok (.putfield index, 3)) (kk : ∀ (H1 : Heap) (locs1 : List Loc), Wd V A H0 M' (eS E) H1 locs1 → Wq E H1 locs1 (pc + 3) ls rest) : Wq E H locs pc ls (.int v :: .ref (vA V j o) :: rest) := by
  subst hM
  exact q_put Cx hW ho hc k (B' := bs (M j) o k v) hk hlen (fun o' h => bs_ne h) hset hfin hty hlink hdg kk
theorem qb_iald {E : WE} {own : String} {cc : ByteArray} {nL fr lo : Nat} (Cx : CX E own cc nL fr lo) {H : Heap} {locs : List Loc} {pc : Nat} {ls : Array Slot} {rest : List Value} {V : VT} {A : Nat → Prop} {H0 : Heap} {M : Mem} {j : Nat} {B : Blk} (hW : Wd V A H0 (jb M j B) (eS E) H locs) {o n : Nat} (ho : isI j o n 0) {i v : Int32} (hin : vp_in i n) (hv : v = B o i.toNatClampNeg) (hdg : decode cc pc = .ok (.iaload, 1)) (kk : Wq E H locs (pc + 1) ls (.int v :: rest)) : Wq E H locs pc ls (.int i :: .ref (vA V j o) :: rest) := q_iald Cx hW ho hin (by rw [jb_at]; exact hv) hdg kk
theorem qb_zald {E : WE} {own : String} {cc : ByteArray} {nL fr lo : Nat} (Cx : CX E own cc nL fr lo) {H : Heap} {locs : List Loc} {pc : Nat} {ls : Array Slot} {rest : List Value} {V : VT} {A : Nat → Prop} {H0 : Heap} {M : Mem} {j : Nat} {B : Blk} (hW : Wd V A H0 (jb M j B) (eS E) H locs) {o n : Nat} (ho : isI j o n 1) {i v : Int32} (hin : vp_in i n) (hv : v = B o i.toNatClampNeg) (hdg : decode cc pc = .ok (.baload, 1)) (kk : Wq E H locs (pc + 1) ls (.int v :: rest)) : Wq E H locs pc ls (.int i :: .ref (vA V j o) :: rest) := q_zald Cx hW ho hin (by rw [jb_at]; exact hv) hdg kk
theorem qb_cald {E : WE} {own : String} {cc : ByteArray} {nL fr lo : Nat} (Cx : CX E own cc nL fr lo) {H : Heap} {locs : List Loc} {pc : Nat} {ls : Array Slot} {rest : List Value} {V : VT} {A : Nat → Prop} {H0 : Heap} {M : Mem} {j : Nat} {B : Blk} (hW : Wd V A H0 (jb M j B) (eS E) H locs) {o n : Nat} (ho : isI j o n 2) {i v : Int32} (hin : vp_in i n) (hv : v = B o i.toNatClampNeg) (hdg : decode cc pc = .ok (.caload, 1)) (kk : Wq E H locs (pc + 1) ls (.int v :: rest)) : Wq E H locs pc ls (.int i :: .ref (vA V j o) :: rest) := q_cald Cx hW ho hin (by rw [jb_at]; exact hv) hdg kk
theorem qb_iast {E : WE} {own : String} {cc : ByteArray} {nL fr lo : Nat} (Cx : CX E own cc nL fr lo) {H : Heap} {locs : List Loc} {pc : Nat} {ls : Array Slot} {rest : List Value} {V : VT} {A : Nat → Prop} {H0 : Heap} {M : Mem} {j : Nat} {B : Blk} (hW : Wd V A H0 (jb M j B) (eS E) H locs) {o n : Nat} (ho : isI j o n 0) {i x : Int32} (hin : vp_in i n) {B' : Blk} (hB : B' = bs B o i.toNatClampNeg x) (hdg : decode cc pc = .ok (.iastore, 1)) (kk : ∀ (H1 : Heap) (locs1 : List Loc), Wd V A H0 (jb M j B') (eS E) H1 locs1 → Wq E H1 locs1 (pc + 1) ls rest) : Wq E H locs pc ls (.int x :: .int i :: .ref (vA V j o) :: rest) := q_iast Cx hW ho hin (B' := B') (by rw [jb_at]; exact hB) hdg (fun H1 locs1 hW1 => kk H1 locs1 (by rw [jb_jb] at hW1; exact hW1))
theorem qw_iast {E : WE} {own : String} {cc : ByteArray} {nL fr lo : Nat} (Cx : CX E own cc nL fr lo) {H : Heap} {locs : List Loc} {pc : Nat} {ls : Array Slot} {rest : List Value} {V : VT} {A : Nat → Prop} {H0 : Heap} {M : Mem} {j : Nat} (hW : Wd V A H0 M (eS E) H locs) {o n : Nat} (ho : isI j o n 0) {i x : Int32} (hin : vp_in i n) {M' : Mem} (hM : M' = jb M j (bs (M j) o i.toNatClampNeg x)) (hdg : decode cc pc = .ok (.iastore, 1)) (kk : ∀ (H1 : Heap) (locs1 : List Loc), Wd V A H0 M' (eS E) H1 locs1 → Wq E H1 locs1 (pc + 1) ls rest) : Wq E H locs pc ls (.int x :: .int i :: .ref (vA V j o) :: rest) := by
  subst hM
  exact q_iast Cx hW ho hin rfl hdg kk
theorem qb_zast {E : WE} {own : String} {cc : ByteArray} {nL fr lo : Nat} (Cx : CX E own cc nL fr lo) {H : Heap} {locs : List Loc} {pc : Nat} {ls : Array Slot} {rest : List Value} {V : VT} {A : Nat → Prop} {H0 : Heap} {M : Mem} {j : Nat} {B : Blk} (hW : Wd V A H0 (jb M j B) (eS E) H locs) {o n : Nat} (ho : isI j o n 1) {i x : Int32} (hin : vp_in i n) {B' : Blk} (hB : B' = bs B o i.toNatClampNeg (vp_nar .boolean x)) (hdg : decode cc pc = .ok (.bastore, 1)) (kk : ∀ (H1 : Heap) (locs1 : List Loc), Wd V A H0 (jb M j B') (eS E) H1 locs1 → Wq E H1 locs1 (pc + 1) ls rest) : Wq E H locs pc ls (.int x :: .int i :: .ref (vA V j o) :: rest) := q_zast Cx hW ho hin (B' := B') (by rw [jb_at]; exact hB) hdg (fun H1 locs1 hW1 => kk H1 locs1 (by rw [jb_jb] at hW1; exact hW1))
theorem qw_zast {E : WE} {own : String} {cc : ByteArray} {nL fr lo : Nat} (Cx : CX E own cc nL fr lo) {H : Heap} {locs : List Loc} {pc : Nat} {ls : Array Slot} {rest : List Value} {V : VT} {A : Nat → Prop} {H0 : Heap} {M : Mem} {j : Nat} (hW : Wd V A H0 M (eS E) H locs) {o n : Nat} (ho : isI j o n 1) {i x : Int32} (hin : vp_in i n) {M' : Mem} (hM : M' = jb M j (bs (M j) o i.toNatClampNeg (vp_nar .boolean x))) (hdg : decode cc pc = .ok (.bastore, 1)) (kk : ∀ (H1 : Heap) (locs1 : List Loc), Wd V A H0 M' (eS E) H1 locs1 → Wq E H1 locs1 (pc + 1) ls rest) : Wq E H locs pc ls (.int x :: .int i :: .ref (vA V j o) :: rest) := by
  subst hM
  exact q_zast Cx hW ho hin rfl hdg kk
theorem qb_cast {E : WE} {own : String} {cc : ByteArray} {nL fr lo : Nat} (Cx : CX E own cc nL fr lo) {H : Heap} {locs : List Loc} {pc : Nat} {ls : Array Slot} {rest : List Value} {V : VT} {A : Nat → Prop} {H0 : Heap} {M : Mem} {j : Nat} {B : Blk} (hW : Wd V A H0 (jb M j B) (eS E) H locs) {o n : Nat} (ho : isI j o n 2) {i x : Int32} (hin : vp_in i n) {B' : Blk} (hB : B' = bs B o i.toNatClampNeg (vp_nar .char x)) (hdg : decode cc pc = .ok (.castore, 1)) (kk : ∀ (H1 : Heap) (locs1 : List Loc), Wd V A H0 (jb M j B') (eS E) H1 locs1 → Wq E H1 locs1 (pc + 1) ls rest) : Wq E H locs pc ls (.int x :: .int i :: .ref (vA V j o) :: rest) := q_cast Cx hW ho hin (B' := B') (by rw [jb_at]; exact hB) hdg (fun H1 locs1 hW1 => kk H1 locs1 (by rw [jb_jb] at hW1; exact hW1))
theorem qw_cast {E : WE} {own : String} {cc : ByteArray} {nL fr lo : Nat} (Cx : CX E own cc nL fr lo) {H : Heap} {locs : List Loc} {pc : Nat} {ls : Array Slot} {rest : List Value} {V : VT} {A : Nat → Prop} {H0 : Heap} {M : Mem} {j : Nat} (hW : Wd V A H0 M (eS E) H locs) {o n : Nat} (ho : isI j o n 2) {i x : Int32} (hin : vp_in i n) {M' : Mem} (hM : M' = jb M j (bs (M j) o i.toNatClampNeg (vp_nar .char x))) (hdg : decode cc pc = .ok (.castore, 1)) (kk : ∀ (H1 : Heap) (locs1 : List Loc), Wd V A H0 M' (eS E) H1 locs1 → Wq E H1 locs1 (pc + 1) ls rest) : Wq E H locs pc ls (.int x :: .int i :: .ref (vA V j o) :: rest) := by
  subst hM
  exact q_cast Cx hW ho hin rfl hdg kk
theorem qb_copy {E : WE} {own : String} {cc : ByteArray} {nL fr lo : Nat} (Cx : CX E own cc nL fr lo) {H : Heap} {locs : List Loc} {pc : Nat} {ls : Array Slot} {rest : List Value} {V : VT} {A : Nat → Prop} {H0 : Heap} {M : Mem} {j : Nat} {B : Blk} (hW : Wd V A H0 (jb M j B) (eS E) H locs) {j0 o0 n0 o n : Nat} (ho0 : isI j0 o0 n0 0) (ho : isI j o n 0) (hne : j0 ≠ j) {cnt : Int32} (hc : ¬ cnt < 0) (hn0 : cnt.toNatClampNeg ≤ n0) (hn : cnt.toNatClampNeg ≤ n) {B' : Blk} (hB : B' = bc B o (va_cpy (M j0 o0) (B o) 0 0 cnt.toNatClampNeg)) {index : Nat} (hlink : Cond.methodLink own index arraycopyName ∈ lw_gd) (hnat : Cond.native arraycopyName ∈ lw_gd) (hstat : Cond.static arraycopyName ∈ lw_gd) (hini : Cond.initialized "java/lang/System" ∈ lw_gd) (hls : ls.size = nL) (hfr : 1 ≤ fr) (hlo : (rest.map fun v => v.category).sum + (nativeFrameWords "java/lang/System" "arraycopy" 5 + 11) ≤ lo) (hdg : decode cc pc = .ok (.invokestatic index, 3)) (kk : ∀ (H1 : Heap) (locs1 : List Loc), Wd V A H0 (jb M j B') (eS E) H1 locs1 → Wq E H1 locs1 (pc + 3) ls rest) : Wq E H locs pc ls (.int cnt :: .int 0 :: .ref (vA V j o) :: .int 0 :: .ref (vA V j0 o0) :: rest) := q_copy Cx hW ho0 ho hc hn0 hn (B' := B') (by rw [jb_at, jb_ne hne]; exact hB) hlink hnat hstat hini hls hfr hlo hdg (fun H1 locs1 hW1 => kk H1 locs1 (by rw [jb_jb] at hW1; exact hW1))
theorem vp_lt {i : Int32} {n : Nat} (h : vp_in i n) : i.toNatClampNeg < n := Nat.not_le.mp fun q => h (Or.inr q)
theorem met_w {l : Launch} {V : VT} {y : MethodName} {cc : ByteArray} {nL : Nat} {ret : FieldType} {rm : Room} {as : List Value} {r : Int32} {M M' : Mem} {j : Nat} (h : MetI l V y cc nL ret rm as r (jb M j (M j)) M') : MetI l V y cc nL ret rm as r M M' := by rw [jb_self] at h; exact h
theorem met_r {l : Launch} {V : VT} {y : MethodName} {cc : ByteArray} {nL : Nat} {ret : FieldType} {rm : Room} {as : List Value} {r : Int32} {M : Mem} {j : Nat} (h : MetI l V y cc nL ret rm as r (jb M j (M j)) (jb M j (M j))) : MetI l V y cc nL ret rm as r M M := by rw [jb_self] at h; exact h
theorem met_v {l : Launch} {V : VT} {y : MethodName} {cc : ByteArray} {nL : Nat} {rm : Room} {as : List Value} {M M' : Mem} {j : Nat} (h : MetV l V y cc nL rm as (jb M j (M j)) M') : MetV l V y cc nL rm as M M' := by rw [jb_self] at h; exact h
section PURE2
variable {α : Type}
def stm (M : Mem) (j o n : Nat) (i v : Int32) (k : Mem → Option α) : Option α := if i < 0 ∨ n ≤ i.toNatClampNeg then none else k (jb M j (bs (M j) o i.toNatClampNeg v))
theorem stm_some {M : Mem} {j o n : Nat} {i v : Int32} {k : Mem → Option α} {x : α} (h : stm M j o n i v k = some x) : vp_in i n ∧ ∃ M', M' = jb M j (bs (M j) o i.toNatClampNeg v) ∧ k M' = some x := by
  unfold stm at h
  by_cases hi : i < 0 ∨ n ≤ i.toNatClampNeg
  · rw [if_pos hi] at h; cases h
  · rw [if_neg hi] at h; exact ⟨hi, _, rfl, h⟩
end PURE2
theorem tbl_out {x : Int32} {l0 hi : Int} (h : ∀ i : Int, l0 ≤ i → i ≤ hi → x.toInt ≠ i) : x.toInt < l0 ∨ hi < x.toInt := by
  rcases Int.lt_or_le x.toInt l0 with h1 | h1
  · exact Or.inl h1
  · rcases Int.lt_or_le hi x.toInt with h2 | h2
    · exact Or.inr h2
    · exact absurd rfl (h _ h1 h2)
theorem tbl_cons {x : Int32} {l0 hi l1 : Int} {k : Int32} (hk : k.toInt = l0) (h1 : l1 = l0 + 1) (hne : ¬ x = k) (h : ∀ i : Int, l1 ≤ i → i ≤ hi → x.toInt ≠ i) : ∀ i : Int, l0 ≤ i → i ≤ hi → x.toInt ≠ i := by
  intro i ha hb he
  rcases Int.lt_or_le i l1 with h2 | h2
  · have : i = l0 := by omega
    subst this
    exact hne (Int32.toInt_inj.mp (he.trans hk.symm))
  · exact h i h2 hb he
theorem tbl_nil {x : Int32} {l0 hi : Int} (h1 : hi < l0) : ∀ i : Int, l0 ≤ i → i ≤ hi → x.toInt ≠ i := by
  intro i ha hb
  omega
end
