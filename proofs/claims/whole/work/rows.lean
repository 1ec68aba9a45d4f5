section
-- ===== PART A: goes FIRST, ahead of the names: the tables' words, and 'selects' of the private methods out of them =====
/-- a private method of a class that the tables say can be made, by its rows of tables_1 -/
def lw_okq (q : MethodName × Nat) : Prop := (q.1.cls ≠ "java/lang/invoke/MethodHandle" ∧ q.1.cls ≠ "java/lang/invoke/VarHandle") ∧ Cond.instantiable q.1.cls q.2 ∈ tables_1 ∧ Cond.privateMethod q.1 ∈ tables_1 ∧ Cond.instanceMethod q.1 ∈ tables_1
theorem lw_p0 : lw_okq (⟨"SlackMarket$Plan", "scheduleRow", "(II)I"⟩, 10) := ⟨⟨by decide +kernel, by decide +kernel⟩, List.mem_of_getElem? (i := 25) (by decide +kernel), List.mem_of_getElem? (i := 256) (by decide +kernel), List.mem_of_getElem? (i := 257) (by decide +kernel)⟩
theorem lw_p1 : lw_okq (⟨"SlackMarket$Market", "setOffer", "(III)V"⟩, 9) := ⟨⟨by decide +kernel, by decide +kernel⟩, List.mem_of_getElem? (i := 19) (by decide +kernel), List.mem_of_getElem? (i := 305) (by decide +kernel), List.mem_of_getElem? (i := 306) (by decide +kernel)⟩
theorem lw_p2 : lw_okq (⟨"SlackMarket$Market", "latestExcept", "(I)I"⟩, 9) := ⟨⟨by decide +kernel, by decide +kernel⟩, List.mem_of_getElem? (i := 19) (by decide +kernel), List.mem_of_getElem? (i := 317) (by decide +kernel), List.mem_of_getElem? (i := 318) (by decide +kernel)⟩
theorem lw_p3 : lw_okq (⟨"SlackMarket$Plan", "linkFrom", "(I)V"⟩, 10) := ⟨⟨by decide +kernel, by decide +kernel⟩, List.mem_of_getElem? (i := 25) (by decide +kernel), List.mem_of_getElem? (i := 334) (by decide +kernel), List.mem_of_getElem? (i := 335) (by decide +kernel)⟩
theorem lw_p4 : lw_okq (⟨"SlackMarket$Market", "bestSellerExcept", "(I)I"⟩, 9) := ⟨⟨by decide +kernel, by decide +kernel⟩, List.mem_of_getElem? (i := 19) (by decide +kernel), List.mem_of_getElem? (i := 338) (by decide +kernel), List.mem_of_getElem? (i := 339) (by decide +kernel)⟩
theorem lw_p5 : lw_okq (⟨"SlackMarket$Market", "isInReach", "(I)Z"⟩, 9) := ⟨⟨by decide +kernel, by decide +kernel⟩, List.mem_of_getElem? (i := 19) (by decide +kernel), List.mem_of_getElem? (i := 342) (by decide +kernel), List.mem_of_getElem? (i := 343) (by decide +kernel)⟩
theorem lw_p6 : lw_okq (⟨"SlackMarket$Market", "isBetterSeller", "(II)Z"⟩, 9) := ⟨⟨by decide +kernel, by decide +kernel⟩, List.mem_of_getElem? (i := 19) (by decide +kernel), List.mem_of_getElem? (i := 346) (by decide +kernel), List.mem_of_getElem? (i := 347) (by decide +kernel)⟩
theorem lw_p7 : lw_okq (⟨"SlackMarket$Market", "buyFrom", "(II)V"⟩, 9) := ⟨⟨by decide +kernel, by decide +kernel⟩, List.mem_of_getElem? (i := 19) (by decide +kernel), List.mem_of_getElem? (i := 350) (by decide +kernel), List.mem_of_getElem? (i := 351) (by decide +kernel)⟩
theorem lw_p8 : lw_okq (⟨"SlackMarket$Contracts", "remove", "(I)V"⟩, 5) := ⟨⟨by decide +kernel, by decide +kernel⟩, List.mem_of_getElem? (i := 73) (by decide +kernel), List.mem_of_getElem? (i := 386) (by decide +kernel), List.mem_of_getElem? (i := 387) (by decide +kernel)⟩
theorem lw_p9 : lw_okq (⟨"SlackMarket$Market", "slackOf", "(I)I"⟩, 9) := ⟨⟨by decide +kernel, by decide +kernel⟩, List.mem_of_getElem? (i := 19) (by decide +kernel), List.mem_of_getElem? (i := 411) (by decide +kernel), List.mem_of_getElem? (i := 412) (by decide +kernel)⟩
theorem lw_p10 : lw_okq (⟨"SlackMarket$Market", "lowerLatestEnd", "(II)V"⟩, 9) := ⟨⟨by decide +kernel, by decide +kernel⟩, List.mem_of_getElem? (i := 19) (by decide +kernel), List.mem_of_getElem? (i := 423) (by decide +kernel), List.mem_of_getElem? (i := 424) (by decide +kernel)⟩
theorem lw_p11 : lw_okq (⟨"SlackMarket$Market", "offers", "()I"⟩, 9) := ⟨⟨by decide +kernel, by decide +kernel⟩, List.mem_of_getElem? (i := 19) (by decide +kernel), List.mem_of_getElem? (i := 471) (by decide +kernel), List.mem_of_getElem? (i := 472) (by decide +kernel)⟩
theorem lw_p12 : lw_okq (⟨"SlackMarket$Market", "lateTasks", "()I"⟩, 9) := ⟨⟨by decide +kernel, by decide +kernel⟩, List.mem_of_getElem? (i := 19) (by decide +kernel), List.mem_of_getElem? (i := 475) (by decide +kernel), List.mem_of_getElem? (i := 476) (by decide +kernel)⟩
theorem lw_p13 : lw_okq (⟨"SlackMarket$Market", "allMoney", "()I"⟩, 9) := ⟨⟨by decide +kernel, by decide +kernel⟩, List.mem_of_getElem? (i := 19) (by decide +kernel), List.mem_of_getElem? (i := 483) (by decide +kernel), List.mem_of_getElem? (i := 484) (by decide +kernel)⟩
theorem lw_p14 : lw_okq (⟨"SlackMarket$Plan", "waitedFor", "(I)I"⟩, 10) := ⟨⟨by decide +kernel, by decide +kernel⟩, List.mem_of_getElem? (i := 25) (by decide +kernel), List.mem_of_getElem? (i := 535) (by decide +kernel), List.mem_of_getElem? (i := 536) (by decide +kernel)⟩
theorem lw_p15 : lw_okq (⟨"SlackMarket$Pad", "here", "()I"⟩, 6) := ⟨⟨by decide +kernel, by decide +kernel⟩, List.mem_of_getElem? (i := 153) (by decide +kernel), List.mem_of_getElem? (i := 581) (by decide +kernel), List.mem_of_getElem? (i := 582) (by decide +kernel)⟩
def lw_privs_1 : List (MethodName × Nat) := [(⟨"SlackMarket$Plan", "scheduleRow", "(II)I"⟩, 10), (⟨"SlackMarket$Market", "setOffer", "(III)V"⟩, 9), (⟨"SlackMarket$Market", "latestExcept", "(I)I"⟩, 9), (⟨"SlackMarket$Plan", "linkFrom", "(I)V"⟩, 10), (⟨"SlackMarket$Market", "bestSellerExcept", "(I)I"⟩, 9), (⟨"SlackMarket$Market", "isInReach", "(I)Z"⟩, 9), (⟨"SlackMarket$Market", "isBetterSeller", "(II)Z"⟩, 9), (⟨"SlackMarket$Market", "buyFrom", "(II)V"⟩, 9), (⟨"SlackMarket$Contracts", "remove", "(I)V"⟩, 5), (⟨"SlackMarket$Market", "slackOf", "(I)I"⟩, 9), (⟨"SlackMarket$Market", "lowerLatestEnd", "(II)V"⟩, 9), (⟨"SlackMarket$Market", "offers", "()I"⟩, 9), (⟨"SlackMarket$Market", "lateTasks", "()I"⟩, 9), (⟨"SlackMarket$Market", "allMoney", "()I"⟩, 9), (⟨"SlackMarket$Plan", "waitedFor", "(I)I"⟩, 10), (⟨"SlackMarket$Pad", "here", "()I"⟩, 6)]
theorem lw_r1 : ∀ q ∈ lw_privs_1, lw_okq q := List.forall_mem_cons.mpr ⟨lw_p0, List.forall_mem_cons.mpr ⟨lw_p1, List.forall_mem_cons.mpr ⟨lw_p2, List.forall_mem_cons.mpr ⟨lw_p3, List.forall_mem_cons.mpr ⟨lw_p4, List.forall_mem_cons.mpr ⟨lw_p5, List.forall_mem_cons.mpr ⟨lw_p6, List.forall_mem_cons.mpr ⟨lw_p7, List.forall_mem_cons.mpr ⟨lw_p8, List.forall_mem_cons.mpr ⟨lw_p9, List.forall_mem_cons.mpr ⟨lw_p10, List.forall_mem_cons.mpr ⟨lw_p11, List.forall_mem_cons.mpr ⟨lw_p12, List.forall_mem_cons.mpr ⟨lw_p13, List.forall_mem_cons.mpr ⟨lw_p14, List.forall_mem_cons.mpr ⟨lw_p15, fun _ h => absurd h List.not_mem_nil⟩⟩⟩⟩⟩⟩⟩⟩⟩⟩⟩⟩⟩⟩⟩⟩
theorem lw_p16 : lw_okq (⟨"SlackMarket$Pad", "readSign", "(C)Z"⟩, 6) := ⟨⟨by decide +kernel, by decide +kernel⟩, List.mem_of_getElem? (i := 153) (by decide +kernel), List.mem_of_getElem? (i := 585) (by decide +kernel), List.mem_of_getElem? (i := 586) (by decide +kernel)⟩
theorem lw_p17 : lw_okq (⟨"SlackMarket$Pad", "readTask", "()Z"⟩, 6) := ⟨⟨by decide +kernel, by decide +kernel⟩, List.mem_of_getElem? (i := 153) (by decide +kernel), List.mem_of_getElem? (i := 589) (by decide +kernel), List.mem_of_getElem? (i := 590) (by decide +kernel)⟩
theorem lw_p18 : lw_okq (⟨"SlackMarket$Pad", "readDigit", "()Z"⟩, 6) := ⟨⟨by decide +kernel, by decide +kernel⟩, List.mem_of_getElem? (i := 153) (by decide +kernel), List.mem_of_getElem? (i := 593) (by decide +kernel), List.mem_of_getElem? (i := 594) (by decide +kernel)⟩
theorem lw_p19 : lw_okq (⟨"SlackMarket$Pad", "isDigit", "()Z"⟩, 6) := ⟨⟨by decide +kernel, by decide +kernel⟩, List.mem_of_getElem? (i := 153) (by decide +kernel), List.mem_of_getElem? (i := 597) (by decide +kernel), List.mem_of_getElem? (i := 598) (by decide +kernel)⟩
theorem lw_p20 : lw_okq (⟨"SlackMarket$Pad", "keep", "(I)Z"⟩, 6) := ⟨⟨by decide +kernel, by decide +kernel⟩, List.mem_of_getElem? (i := 153) (by decide +kernel), List.mem_of_getElem? (i := 601) (by decide +kernel), List.mem_of_getElem? (i := 602) (by decide +kernel)⟩
theorem lw_p21 : lw_okq (⟨"SlackMarket$Pad", "readNumber", "()Z"⟩, 6) := ⟨⟨by decide +kernel, by decide +kernel⟩, List.mem_of_getElem? (i := 153) (by decide +kernel), List.mem_of_getElem? (i := 605) (by decide +kernel), List.mem_of_getElem? (i := 606) (by decide +kernel)⟩
theorem lw_p22 : lw_okq (⟨"SlackMarket$Pad", "readPair", "(C)Z"⟩, 6) := ⟨⟨by decide +kernel, by decide +kernel⟩, List.mem_of_getElem? (i := 153) (by decide +kernel), List.mem_of_getElem? (i := 609) (by decide +kernel), List.mem_of_getElem? (i := 610) (by decide +kernel)⟩
theorem lw_p23 : lw_okq (⟨"SlackMarket", "carryOrders", "()I"⟩, 6) := ⟨⟨by decide +kernel, by decide +kernel⟩, List.mem_of_getElem? (i := 11) (by decide +kernel), List.mem_of_getElem? (i := 621) (by decide +kernel), List.mem_of_getElem? (i := 622) (by decide +kernel)⟩
theorem lw_p24 : lw_okq (⟨"SlackMarket", "carryOrder", "()I"⟩, 6) := ⟨⟨by decide +kernel, by decide +kernel⟩, List.mem_of_getElem? (i := 11) (by decide +kernel), List.mem_of_getElem? (i := 627) (by decide +kernel), List.mem_of_getElem? (i := 628) (by decide +kernel)⟩
theorem lw_p25 : lw_okq (⟨"SlackMarketModel", "record", "()V"⟩, 19) := ⟨⟨by decide +kernel, by decide +kernel⟩, List.mem_of_getElem? (i := 648) (by decide +kernel), List.mem_of_getElem? (i := 727) (by decide +kernel), List.mem_of_getElem? (i := 728) (by decide +kernel)⟩
theorem lw_p26 : lw_okq (⟨"SlackMarketModel", "isTask", "(I)Z"⟩, 19) := ⟨⟨by decide +kernel, by decide +kernel⟩, List.mem_of_getElem? (i := 648) (by decide +kernel), List.mem_of_getElem? (i := 739) (by decide +kernel), List.mem_of_getElem? (i := 740) (by decide +kernel)⟩
theorem lw_p27 : lw_okq (⟨"SlackMarketModel", "manyOn", "(I)I"⟩, 19) := ⟨⟨by decide +kernel, by decide +kernel⟩, List.mem_of_getElem? (i := 648) (by decide +kernel), List.mem_of_getElem? (i := 744) (by decide +kernel), List.mem_of_getElem? (i := 745) (by decide +kernel)⟩
theorem lw_p28 : lw_okq (⟨"SlackMarketModel", "putAt", "(II)V"⟩, 19) := ⟨⟨by decide +kernel, by decide +kernel⟩, List.mem_of_getElem? (i := 648) (by decide +kernel), List.mem_of_getElem? (i := 756) (by decide +kernel), List.mem_of_getElem? (i := 757) (by decide +kernel)⟩
theorem lw_p29 : lw_okq (⟨"SlackMarketModel", "reckon", "()Z"⟩, 19) := ⟨⟨by decide +kernel, by decide +kernel⟩, List.mem_of_getElem? (i := 648) (by decide +kernel), List.mem_of_getElem? (i := 760) (by decide +kernel), List.mem_of_getElem? (i := 761) (by decide +kernel)⟩
theorem lw_p30 : lw_okq (⟨"SlackMarketModel", "endOf", "(I)I"⟩, 19) := ⟨⟨by decide +kernel, by decide +kernel⟩, List.mem_of_getElem? (i := 648) (by decide +kernel), List.mem_of_getElem? (i := 764) (by decide +kernel), List.mem_of_getElem? (i := 765) (by decide +kernel)⟩
theorem lw_p31 : lw_okq (⟨"SlackMarketModel", "taskAt", "(II)I"⟩, 19) := ⟨⟨by decide +kernel, by decide +kernel⟩, List.mem_of_getElem? (i := 648) (by decide +kernel), List.mem_of_getElem? (i := 768) (by decide +kernel), List.mem_of_getElem? (i := 769) (by decide +kernel)⟩
def lw_privs_2 : List (MethodName × Nat) := [(⟨"SlackMarket$Pad", "readSign", "(C)Z"⟩, 6), (⟨"SlackMarket$Pad", "readTask", "()Z"⟩, 6), (⟨"SlackMarket$Pad", "readDigit", "()Z"⟩, 6), (⟨"SlackMarket$Pad", "isDigit", "()Z"⟩, 6), (⟨"SlackMarket$Pad", "keep", "(I)Z"⟩, 6), (⟨"SlackMarket$Pad", "readNumber", "()Z"⟩, 6), (⟨"SlackMarket$Pad", "readPair", "(C)Z"⟩, 6), (⟨"SlackMarket", "carryOrders", "()I"⟩, 6), (⟨"SlackMarket", "carryOrder", "()I"⟩, 6), (⟨"SlackMarketModel", "record", "()V"⟩, 19), (⟨"SlackMarketModel", "isTask", "(I)Z"⟩, 19), (⟨"SlackMarketModel", "manyOn", "(I)I"⟩, 19), (⟨"SlackMarketModel", "putAt", "(II)V"⟩, 19), (⟨"SlackMarketModel", "reckon", "()Z"⟩, 19), (⟨"SlackMarketModel", "endOf", "(I)I"⟩, 19), (⟨"SlackMarketModel", "taskAt", "(II)I"⟩, 19)]
theorem lw_r2 : ∀ q ∈ lw_privs_2, lw_okq q := List.forall_mem_cons.mpr ⟨lw_p16, List.forall_mem_cons.mpr ⟨lw_p17, List.forall_mem_cons.mpr ⟨lw_p18, List.forall_mem_cons.mpr ⟨lw_p19, List.forall_mem_cons.mpr ⟨lw_p20, List.forall_mem_cons.mpr ⟨lw_p21, List.forall_mem_cons.mpr ⟨lw_p22, List.forall_mem_cons.mpr ⟨lw_p23, List.forall_mem_cons.mpr ⟨lw_p24, List.forall_mem_cons.mpr ⟨lw_p25, List.forall_mem_cons.mpr ⟨lw_p26, List.forall_mem_cons.mpr ⟨lw_p27, List.forall_mem_cons.mpr ⟨lw_p28, List.forall_mem_cons.mpr ⟨lw_p29, List.forall_mem_cons.mpr ⟨lw_p30, List.forall_mem_cons.mpr ⟨lw_p31, fun _ h => absurd h List.not_mem_nil⟩⟩⟩⟩⟩⟩⟩⟩⟩⟩⟩⟩⟩⟩⟩⟩
theorem lw_p32 : lw_okq (⟨"SlackMarketModel", "measure", "(I)V"⟩, 19) := ⟨⟨by decide +kernel, by decide +kernel⟩, List.mem_of_getElem? (i := 648) (by decide +kernel), List.mem_of_getElem? (i := 776) (by decide +kernel), List.mem_of_getElem? (i := 777) (by decide +kernel)⟩
theorem lw_p33 : lw_okq (⟨"SlackMarketModel", "areLinked", "(II)Z"⟩, 19) := ⟨⟨by decide +kernel, by decide +kernel⟩, List.mem_of_getElem? (i := 648) (by decide +kernel), List.mem_of_getElem? (i := 780) (by decide +kernel), List.mem_of_getElem? (i := 781) (by decide +kernel)⟩
theorem lw_p34 : lw_okq (⟨"SlackMarketModel", "tradeAll", "()V"⟩, 19) := ⟨⟨by decide +kernel, by decide +kernel⟩, List.mem_of_getElem? (i := 648) (by decide +kernel), List.mem_of_getElem? (i := 792) (by decide +kernel), List.mem_of_getElem? (i := 793) (by decide +kernel)⟩
theorem lw_p35 : lw_okq (⟨"SlackMarketModel", "late", "(I)I"⟩, 19) := ⟨⟨by decide +kernel, by decide +kernel⟩, List.mem_of_getElem? (i := 648) (by decide +kernel), List.mem_of_getElem? (i := 796) (by decide +kernel), List.mem_of_getElem? (i := 797) (by decide +kernel)⟩
theorem lw_p36 : lw_okq (⟨"SlackMarketModel", "buys", "(I)V"⟩, 19) := ⟨⟨by decide +kernel, by decide +kernel⟩, List.mem_of_getElem? (i := 648) (by decide +kernel), List.mem_of_getElem? (i := 800) (by decide +kernel), List.mem_of_getElem? (i := 801) (by decide +kernel)⟩
theorem lw_p37 : lw_okq (⟨"SlackMarketModel", "nextOffer", "(II)I"⟩, 19) := ⟨⟨by decide +kernel, by decide +kernel⟩, List.mem_of_getElem? (i := 648) (by decide +kernel), List.mem_of_getElem? (i := 804) (by decide +kernel), List.mem_of_getElem? (i := 805) (by decide +kernel)⟩
theorem lw_p38 : lw_okq (⟨"SlackMarketModel", "isSooner", "(II)Z"⟩, 19) := ⟨⟨by decide +kernel, by decide +kernel⟩, List.mem_of_getElem? (i := 648) (by decide +kernel), List.mem_of_getElem? (i := 808) (by decide +kernel), List.mem_of_getElem? (i := 809) (by decide +kernel)⟩
theorem lw_p39 : lw_okq (⟨"SlackMarketModel", "hoursOf", "(II)I"⟩, 19) := ⟨⟨by decide +kernel, by decide +kernel⟩, List.mem_of_getElem? (i := 648) (by decide +kernel), List.mem_of_getElem? (i := 812) (by decide +kernel), List.mem_of_getElem? (i := 813) (by decide +kernel)⟩
theorem lw_p40 : lw_okq (⟨"SlackMarketModel", "spared", "(I)I"⟩, 19) := ⟨⟨by decide +kernel, by decide +kernel⟩, List.mem_of_getElem? (i := 648) (by decide +kernel), List.mem_of_getElem? (i := 819) (by decide +kernel), List.mem_of_getElem? (i := 820) (by decide +kernel)⟩
theorem lw_p41 : lw_okq (⟨"SlackMarketModel", "agree", "(III)V"⟩, 19) := ⟨⟨by decide +kernel, by decide +kernel⟩, List.mem_of_getElem? (i := 648) (by decide +kernel), List.mem_of_getElem? (i := 823) (by decide +kernel), List.mem_of_getElem? (i := 824) (by decide +kernel)⟩
theorem lw_p42 : lw_okq (⟨"SlackMarketModel", "isContract", "(I)Z"⟩, 19) := ⟨⟨by decide +kernel, by decide +kernel⟩, List.mem_of_getElem? (i := 648) (by decide +kernel), List.mem_of_getElem? (i := 831) (by decide +kernel), List.mem_of_getElem? (i := 832) (by decide +kernel)⟩
theorem lw_p43 : lw_okq (⟨"SlackMarketModel", "dropContract", "(I)V"⟩, 19) := ⟨⟨by decide +kernel, by decide +kernel⟩, List.mem_of_getElem? (i := 648) (by decide +kernel), List.mem_of_getElem? (i := 835) (by decide +kernel), List.mem_of_getElem? (i := 836) (by decide +kernel)⟩
theorem lw_p44 : lw_okq (⟨"SlackMarketModel", "slack", "(I)I"⟩, 19) := ⟨⟨by decide +kernel, by decide +kernel⟩, List.mem_of_getElem? (i := 648) (by decide +kernel), List.mem_of_getElem? (i := 847) (by decide +kernel), List.mem_of_getElem? (i := 848) (by decide +kernel)⟩
theorem lw_p45 : lw_okq (⟨"SlackMarketModel", "canBeHeld", "(II)Z"⟩, 19) := ⟨⟨by decide +kernel, by decide +kernel⟩, List.mem_of_getElem? (i := 648) (by decide +kernel), List.mem_of_getElem? (i := 851) (by decide +kernel), List.mem_of_getElem? (i := 852) (by decide +kernel)⟩
theorem lw_p46 : lw_okq (⟨"SlackMarketModel", "lateTogether", "()I"⟩, 19) := ⟨⟨by decide +kernel, by decide +kernel⟩, List.mem_of_getElem? (i := 648) (by decide +kernel), List.mem_of_getElem? (i := 855) (by decide +kernel), List.mem_of_getElem? (i := 856) (by decide +kernel)⟩
theorem lw_p47 : lw_okq (⟨"SlackMarketModel", "hoursBy", "(II)I"⟩, 19) := ⟨⟨by decide +kernel, by decide +kernel⟩, List.mem_of_getElem? (i := 648) (by decide +kernel), List.mem_of_getElem? (i := 859) (by decide +kernel), List.mem_of_getElem? (i := 860) (by decide +kernel)⟩
def lw_privs_3 : List (MethodName × Nat) := [(⟨"SlackMarketModel", "measure", "(I)V"⟩, 19), (⟨"SlackMarketModel", "areLinked", "(II)Z"⟩, 19), (⟨"SlackMarketModel", "tradeAll", "()V"⟩, 19), (⟨"SlackMarketModel", "late", "(I)I"⟩, 19), (⟨"SlackMarketModel", "buys", "(I)V"⟩, 19), (⟨"SlackMarketModel", "nextOffer", "(II)I"⟩, 19), (⟨"SlackMarketModel", "isSooner", "(II)Z"⟩, 19), (⟨"SlackMarketModel", "hoursOf", "(II)I"⟩, 19), (⟨"SlackMarketModel", "spared", "(I)I"⟩, 19), (⟨"SlackMarketModel", "agree", "(III)V"⟩, 19), (⟨"SlackMarketModel", "isContract", "(I)Z"⟩, 19), (⟨"SlackMarketModel", "dropContract", "(I)V"⟩, 19), (⟨"SlackMarketModel", "slack", "(I)I"⟩, 19), (⟨"SlackMarketModel", "canBeHeld", "(II)Z"⟩, 19), (⟨"SlackMarketModel", "lateTogether", "()I"⟩, 19), (⟨"SlackMarketModel", "hoursBy", "(II)I"⟩, 19)]
theorem lw_r3 : ∀ q ∈ lw_privs_3, lw_okq q := List.forall_mem_cons.mpr ⟨lw_p32, List.forall_mem_cons.mpr ⟨lw_p33, List.forall_mem_cons.mpr ⟨lw_p34, List.forall_mem_cons.mpr ⟨lw_p35, List.forall_mem_cons.mpr ⟨lw_p36, List.forall_mem_cons.mpr ⟨lw_p37, List.forall_mem_cons.mpr ⟨lw_p38, List.forall_mem_cons.mpr ⟨lw_p39, List.forall_mem_cons.mpr ⟨lw_p40, List.forall_mem_cons.mpr ⟨lw_p41, List.forall_mem_cons.mpr ⟨lw_p42, List.forall_mem_cons.mpr ⟨lw_p43, List.forall_mem_cons.mpr ⟨lw_p44, List.forall_mem_cons.mpr ⟨lw_p45, List.forall_mem_cons.mpr ⟨lw_p46, List.forall_mem_cons.mpr ⟨lw_p47, fun _ h => absurd h List.not_mem_nil⟩⟩⟩⟩⟩⟩⟩⟩⟩⟩⟩⟩⟩⟩⟩⟩
theorem lw_p48 : lw_okq (⟨"SlackMarketModel", "behind", "(I)I"⟩, 19) := ⟨⟨by decide +kernel, by decide +kernel⟩, List.mem_of_getElem? (i := 648) (by decide +kernel), List.mem_of_getElem? (i := 863) (by decide +kernel), List.mem_of_getElem? (i := 864) (by decide +kernel)⟩
theorem lw_p49 : lw_okq (⟨"SlackMarketModel", "offers", "()I"⟩, 19) := ⟨⟨by decide +kernel, by decide +kernel⟩, List.mem_of_getElem? (i := 648) (by decide +kernel), List.mem_of_getElem? (i := 888) (by decide +kernel), List.mem_of_getElem? (i := 889) (by decide +kernel)⟩
theorem lw_p50 : lw_okq (⟨"SlackMarketModel", "lateSet", "()I"⟩, 19) := ⟨⟨by decide +kernel, by decide +kernel⟩, List.mem_of_getElem? (i := 648) (by decide +kernel), List.mem_of_getElem? (i := 892) (by decide +kernel), List.mem_of_getElem? (i := 893) (by decide +kernel)⟩
theorem lw_p51 : lw_okq (⟨"SlackMarketModel", "endOfAll", "()I"⟩, 19) := ⟨⟨by decide +kernel, by decide +kernel⟩, List.mem_of_getElem? (i := 648) (by decide +kernel), List.mem_of_getElem? (i := 896) (by decide +kernel), List.mem_of_getElem? (i := 897) (by decide +kernel)⟩
theorem lw_p52 : lw_okq (⟨"SlackMarketModel", "sumOf", "(II)I"⟩, 19) := ⟨⟨by decide +kernel, by decide +kernel⟩, List.mem_of_getElem? (i := 648) (by decide +kernel), List.mem_of_getElem? (i := 900) (by decide +kernel), List.mem_of_getElem? (i := 901) (by decide +kernel)⟩
theorem lw_p53 : lw_okq (⟨"SlackMarketModel", "putAside", "()V"⟩, 19) := ⟨⟨by decide +kernel, by decide +kernel⟩, List.mem_of_getElem? (i := 648) (by decide +kernel), List.mem_of_getElem? (i := 908) (by decide +kernel), List.mem_of_getElem? (i := 909) (by decide +kernel)⟩
theorem lw_p54 : lw_okq (⟨"SlackMarketModel", "bringBack", "()V"⟩, 19) := ⟨⟨by decide +kernel, by decide +kernel⟩, List.mem_of_getElem? (i := 648) (by decide +kernel), List.mem_of_getElem? (i := 912) (by decide +kernel), List.mem_of_getElem? (i := 913) (by decide +kernel)⟩
theorem lw_p55 : lw_okq (⟨"SlackMarketModel", "readPad", "()V"⟩, 19) := ⟨⟨by decide +kernel, by decide +kernel⟩, List.mem_of_getElem? (i := 648) (by decide +kernel), List.mem_of_getElem? (i := 950) (by decide +kernel), List.mem_of_getElem? (i := 951) (by decide +kernel)⟩
theorem lw_p56 : lw_okq (⟨"SlackMarketModel", "readOrder", "(I)V"⟩, 19) := ⟨⟨by decide +kernel, by decide +kernel⟩, List.mem_of_getElem? (i := 648) (by decide +kernel), List.mem_of_getElem? (i := 954) (by decide +kernel), List.mem_of_getElem? (i := 955) (by decide +kernel)⟩
theorem lw_p57 : lw_okq (⟨"SlackMarketModel", "letter", "(I)I"⟩, 19) := ⟨⟨by decide +kernel, by decide +kernel⟩, List.mem_of_getElem? (i := 648) (by decide +kernel), List.mem_of_getElem? (i := 958) (by decide +kernel), List.mem_of_getElem? (i := 959) (by decide +kernel)⟩
theorem lw_p58 : lw_okq (⟨"SlackMarketModel", "readTask", "(I)V"⟩, 19) := ⟨⟨by decide +kernel, by decide +kernel⟩, List.mem_of_getElem? (i := 648) (by decide +kernel), List.mem_of_getElem? (i := 962) (by decide +kernel), List.mem_of_getElem? (i := 963) (by decide +kernel)⟩
theorem lw_p59 : lw_okq (⟨"SlackMarketModel", "takesMachine", "()I"⟩, 19) := ⟨⟨by decide +kernel, by decide +kernel⟩, List.mem_of_getElem? (i := 648) (by decide +kernel), List.mem_of_getElem? (i := 966) (by decide +kernel), List.mem_of_getElem? (i := 967) (by decide +kernel)⟩
theorem lw_p60 : lw_okq (⟨"SlackMarketModel", "fail", "()V"⟩, 19) := ⟨⟨by decide +kernel, by decide +kernel⟩, List.mem_of_getElem? (i := 648) (by decide +kernel), List.mem_of_getElem? (i := 970) (by decide +kernel), List.mem_of_getElem? (i := 971) (by decide +kernel)⟩
theorem lw_p61 : lw_okq (⟨"SlackMarketModel", "takes", "(I)V"⟩, 19) := ⟨⟨by decide +kernel, by decide +kernel⟩, List.mem_of_getElem? (i := 648) (by decide +kernel), List.mem_of_getElem? (i := 974) (by decide +kernel), List.mem_of_getElem? (i := 975) (by decide +kernel)⟩
theorem lw_p62 : lw_okq (⟨"SlackMarketModel", "takesNumber", "()I"⟩, 19) := ⟨⟨by decide +kernel, by decide +kernel⟩, List.mem_of_getElem? (i := 648) (by decide +kernel), List.mem_of_getElem? (i := 978) (by decide +kernel), List.mem_of_getElem? (i := 979) (by decide +kernel)⟩
theorem lw_p63 : lw_okq (⟨"SlackMarketModel", "isDigit", "(I)Z"⟩, 19) := ⟨⟨by decide +kernel, by decide +kernel⟩, List.mem_of_getElem? (i := 648) (by decide +kernel), List.mem_of_getElem? (i := 982) (by decide +kernel), List.mem_of_getElem? (i := 983) (by decide +kernel)⟩
def lw_privs_4 : List (MethodName × Nat) := [(⟨"SlackMarketModel", "behind", "(I)I"⟩, 19), (⟨"SlackMarketModel", "offers", "()I"⟩, 19), (⟨"SlackMarketModel", "lateSet", "()I"⟩, 19), (⟨"SlackMarketModel", "endOfAll", "()I"⟩, 19), (⟨"SlackMarketModel", "sumOf", "(II)I"⟩, 19), (⟨"SlackMarketModel", "putAside", "()V"⟩, 19), (⟨"SlackMarketModel", "bringBack", "()V"⟩, 19), (⟨"SlackMarketModel", "readPad", "()V"⟩, 19), (⟨"SlackMarketModel", "readOrder", "(I)V"⟩, 19), (⟨"SlackMarketModel", "letter", "(I)I"⟩, 19), (⟨"SlackMarketModel", "readTask", "(I)V"⟩, 19), (⟨"SlackMarketModel", "takesMachine", "()I"⟩, 19), (⟨"SlackMarketModel", "fail", "()V"⟩, 19), (⟨"SlackMarketModel", "takes", "(I)V"⟩, 19), (⟨"SlackMarketModel", "takesNumber", "()I"⟩, 19), (⟨"SlackMarketModel", "isDigit", "(I)Z"⟩, 19)]
theorem lw_r4 : ∀ q ∈ lw_privs_4, lw_okq q := List.forall_mem_cons.mpr ⟨lw_p48, List.forall_mem_cons.mpr ⟨lw_p49, List.forall_mem_cons.mpr ⟨lw_p50, List.forall_mem_cons.mpr ⟨lw_p51, List.forall_mem_cons.mpr ⟨lw_p52, List.forall_mem_cons.mpr ⟨lw_p53, List.forall_mem_cons.mpr ⟨lw_p54, List.forall_mem_cons.mpr ⟨lw_p55, List.forall_mem_cons.mpr ⟨lw_p56, List.forall_mem_cons.mpr ⟨lw_p57, List.forall_mem_cons.mpr ⟨lw_p58, List.forall_mem_cons.mpr ⟨lw_p59, List.forall_mem_cons.mpr ⟨lw_p60, List.forall_mem_cons.mpr ⟨lw_p61, List.forall_mem_cons.mpr ⟨lw_p62, List.forall_mem_cons.mpr ⟨lw_p63, fun _ h => absurd h List.not_mem_nil⟩⟩⟩⟩⟩⟩⟩⟩⟩⟩⟩⟩⟩⟩⟩⟩
theorem lw_p64 : lw_okq (⟨"SlackMarketModel", "readTwo", "(II)V"⟩, 19) := ⟨⟨by decide +kernel, by decide +kernel⟩, List.mem_of_getElem? (i := 648) (by decide +kernel), List.mem_of_getElem? (i := 986) (by decide +kernel), List.mem_of_getElem? (i := 987) (by decide +kernel)⟩
theorem lw_p65 : lw_okq (⟨"SlackMarketModel", "does", "(I)I"⟩, 19) := ⟨⟨by decide +kernel, by decide +kernel⟩, List.mem_of_getElem? (i := 648) (by decide +kernel), List.mem_of_getElem? (i := 994) (by decide +kernel), List.mem_of_getElem? (i := 995) (by decide +kernel)⟩
def lw_privs_5 : List (MethodName × Nat) := [(⟨"SlackMarketModel", "readTwo", "(II)V"⟩, 19), (⟨"SlackMarketModel", "does", "(I)I"⟩, 19)]
theorem lw_r5 : ∀ q ∈ lw_privs_5, lw_okq q := List.forall_mem_cons.mpr ⟨lw_p64, List.forall_mem_cons.mpr ⟨lw_p65, fun _ h => absurd h List.not_mem_nil⟩⟩
def lw_privs : List (MethodName × Nat) := lw_privs_1 ++ (lw_privs_2 ++ (lw_privs_3 ++ (lw_privs_4 ++ (lw_privs_5))))
def lw_tbl : List Cond := k2_sels lw_privs ++ tables_1
theorem lw_privs_ok : ∀ q ∈ lw_privs, lw_okq q := by
  show ∀ q ∈ lw_privs_1 ++ (lw_privs_2 ++ (lw_privs_3 ++ (lw_privs_4 ++ (lw_privs_5)))), lw_okq q
  exact List.forall_mem_append.mpr ⟨lw_r1, List.forall_mem_append.mpr ⟨lw_r2, List.forall_mem_append.mpr ⟨lw_r3, List.forall_mem_append.mpr ⟨lw_r4, lw_r5⟩⟩⟩⟩
-- ===== end of PART A; then your names; then what follows =====
def RX0 : String := "SlackMarket$Contracts"
def TX0 : u_T := fun k => match k with
  | 0 => ("SlackMarket$Contracts", "total", "I", false)
  | 1 => ("SlackMarket$Contracts", "sellers", "[I", true)
  | 2 => ("SlackMarket$Contracts", "buyers", "[I", true)
  | 3 => ("SlackMarket$Contracts", "hours", "[I", true)
  | _ => ("SlackMarket$Contracts", "prices", "[I", true)
def tyX0 : Nat → FieldType := fun k => match k with
  | 0 => .int
  | 1 => .array .int
  | 2 => .array .int
  | 3 => .array .int
  | _ => .array .int
abbrev wsX00 : List Cond := u_ws RX0 TX0 5
theorem nmX0 : ∀ a, a < 5 → ∀ b, b < 5 → a ≠ b → (TX0 a).2.1 ≠ (TX0 b).2.1 := by decide +kernel
theorem tyX0_ok : ∀ k, k < 5 → parseFieldDescriptor (TX0 k).2.2.1 = some (tyX0 k) := by decide +kernel
abbrev cX0_init : ByteArray := prog_2_method_1_code
def yX0_init : MethodName := ⟨RX0, "<init>", "()V"⟩
abbrev cX0_copyFrom : ByteArray := prog_2_method_2_code
def yX0_copyFrom : MethodName := ⟨RX0, "copyFrom", "(LSlackMarket$Contracts;)V"⟩
abbrev cX0_has : ByteArray := prog_2_method_3_code
def yX0_has : MethodName := ⟨RX0, "has", "(I)Z"⟩
abbrev cX0_tell : ByteArray := prog_2_method_4_code
def yX0_tell : MethodName := ⟨RX0, "tell", "(II)I"⟩
abbrev cX0_isFull : ByteArray := prog_2_method_5_code
def yX0_isFull : MethodName := ⟨RX0, "isFull", "()Z"⟩
abbrev cX0_append : ByteArray := prog_2_method_6_code
def yX0_append : MethodName := ⟨RX0, "append", "(IIII)V"⟩
abbrev cX0_lessen : ByteArray := prog_2_method_7_code
def yX0_lessen : MethodName := ⟨RX0, "lessen", "(II)I"⟩
abbrev cX0_remove : ByteArray := prog_2_method_8_code
def yX0_remove : MethodName := ⟨RX0, "remove", "(I)V"⟩
abbrev cX0_soldBy : ByteArray := prog_2_method_9_code
def yX0_soldBy : MethodName := ⟨RX0, "soldBy", "(I)I"⟩
abbrev cX0_boughtBy : ByteArray := prog_2_method_10_code
def yX0_boughtBy : MethodName := ⟨RX0, "boughtBy", "(I)I"⟩
abbrev cX0_allHours : ByteArray := prog_2_method_11_code
def yX0_allHours : MethodName := ⟨RX0, "allHours", "()I"⟩
abbrev cX0_sellersSince : ByteArray := prog_2_method_12_code
def yX0_sellersSince : MethodName := ⟨RX0, "sellersSince", "(I)I"⟩
def RX1 : String := "SlackMarket$History"
def TX1 : u_T := fun k => match k with
  | 0 => ("SlackMarket$History", "ring", "[LSlackMarket$Market;", true)
  | 1 => ("SlackMarket$History", "first", "I", false)
  | _ => ("SlackMarket$History", "kept", "I", false)
def tyX1 : Nat → FieldType := fun k => match k with
  | 0 => .array (.object "SlackMarket$Market")
  | 1 => .int
  | _ => .int
abbrev wsX10 : List Cond := u_ws RX1 TX1 3
theorem nmX1 : ∀ a, a < 3 → ∀ b, b < 3 → a ≠ b → (TX1 a).2.1 ≠ (TX1 b).2.1 := by decide +kernel
theorem tyX1_ok : ∀ k, k < 3 → parseFieldDescriptor (TX1 k).2.2.1 = some (tyX1 k) := by decide +kernel
abbrev cX1_init : ByteArray := prog_3_method_1_code
def yX1_init : MethodName := ⟨RX1, "<init>", "()V"⟩
abbrev cX1_prepare : ByteArray := prog_3_method_2_code
def yX1_prepare : MethodName := ⟨RX1, "prepare", "(LSlackMarket$Market;)V"⟩
abbrev cX1_record : ByteArray := prog_3_method_3_code
def yX1_record : MethodName := ⟨RX1, "record", "(I)I"⟩
abbrev cX1_takeBack : ByteArray := prog_3_method_4_code
def yX1_takeBack : MethodName := ⟨RX1, "takeBack", "(LSlackMarket$Market;)I"⟩
def RX2 : String := "SlackMarket$Market"
def TX2 : u_T := fun k => match k with
  | 0 => ("SlackMarket$Market", "plan", "LSlackMarket$Plan;", true)
  | 1 => ("SlackMarket$Market", "contracts", "LSlackMarket$Contracts;", true)
  | 2 => ("SlackMarket$Market", "refundPercent", "I", false)
  | 3 => ("SlackMarket$Market", "reach", "I", false)
  | 4 => ("SlackMarket$Market", "dueOf", "[I", true)
  | 5 => ("SlackMarket$Market", "moneyOf", "[I", true)
  | 6 => ("SlackMarket$Market", "offered", "[I", true)
  | 7 => ("SlackMarket$Market", "prices", "[I", true)
  | _ => ("SlackMarket$Market", "latestEnds", "[I", true)
def tyX2 : Nat → FieldType := fun k => match k with
  | 0 => .object "SlackMarket$Plan"
  | 1 => .object "SlackMarket$Contracts"
  | 2 => .int
  | 3 => .int
  | 4 => .array .int
  | 5 => .array .int
  | 6 => .array .int
  | 7 => .array .int
  | _ => .array .int
abbrev wsX20 : List Cond := u_ws RX2 TX2 9
theorem nmX2 : ∀ a, a < 9 → ∀ b, b < 9 → a ≠ b → (TX2 a).2.1 ≠ (TX2 b).2.1 := by decide +kernel
theorem tyX2_ok : ∀ k, k < 9 → parseFieldDescriptor (TX2 k).2.2.1 = some (tyX2 k) := by decide +kernel
abbrev cX2_init : ByteArray := prog_4_method_1_code
def yX2_init : MethodName := ⟨RX2, "<init>", "()V"⟩
abbrev cX2_copyFrom : ByteArray := prog_4_method_2_code
def yX2_copyFrom : MethodName := ⟨RX2, "copyFrom", "(LSlackMarket$Market;)V"⟩
abbrev cX2_changeSetting : ByteArray := prog_4_method_3_code
def yX2_changeSetting : MethodName := ⟨RX2, "changeSetting", "(II)I"⟩
abbrev cX2_addTask : ByteArray := prog_4_method_4_code
def yX2_addTask : MethodName := ⟨RX2, "addTask", "(IIIII)I"⟩
abbrev cX2_changeDuration : ByteArray := prog_4_method_5_code
def yX2_changeDuration : MethodName := ⟨RX2, "changeDuration", "(II)I"⟩
abbrev cX2_moveTask : ByteArray := prog_4_method_6_code
def yX2_moveTask : MethodName := ⟨RX2, "moveTask", "(II)I"⟩
abbrev cX2_makeOffer : ByteArray := prog_4_method_7_code
def yX2_makeOffer : MethodName := ⟨RX2, "makeOffer", "(III)I"⟩
abbrev cX2_setOffer : ByteArray := prog_4_method_8_code
def yX2_setOffer : MethodName := ⟨RX2, "setOffer", "(III)V"⟩
abbrev cX2_giveMoney : ByteArray := prog_4_method_9_code
def yX2_giveMoney : MethodName := ⟨RX2, "giveMoney", "(III)I"⟩
abbrev cX2_giveBack : ByteArray := prog_4_method_10_code
def yX2_giveBack : MethodName := ⟨RX2, "giveBack", "(II)I"⟩
abbrev cX2_tradeAll : ByteArray := prog_4_method_11_code
def yX2_tradeAll : MethodName := ⟨RX2, "tradeAll", "()I"⟩
abbrev cX2_latestExcept : ByteArray := prog_4_method_12_code
def yX2_latestExcept : MethodName := ⟨RX2, "latestExcept", "(I)I"⟩
abbrev cX2_buyFor : ByteArray := prog_4_method_13_code
def yX2_buyFor : MethodName := ⟨RX2, "buyFor", "(I)V"⟩
abbrev cX2_bestSellerExcept : ByteArray := prog_4_method_14_code
def yX2_bestSellerExcept : MethodName := ⟨RX2, "bestSellerExcept", "(I)I"⟩
abbrev cX2_isInReach : ByteArray := prog_4_method_15_code
def yX2_isInReach : MethodName := ⟨RX2, "isInReach", "(I)Z"⟩
abbrev cX2_isBetterSeller : ByteArray := prog_4_method_16_code
def yX2_isBetterSeller : MethodName := ⟨RX2, "isBetterSeller", "(II)Z"⟩
abbrev cX2_buyFrom : ByteArray := prog_4_method_17_code
def yX2_buyFrom : MethodName := ⟨RX2, "buyFrom", "(II)V"⟩
abbrev cX2_lateOf : ByteArray := prog_4_method_18_code
def yX2_lateOf : MethodName := ⟨RX2, "lateOf", "(I)I"⟩
abbrev cX2_spareOf : ByteArray := prog_4_method_19_code
def yX2_spareOf : MethodName := ⟨RX2, "spareOf", "(I)I"⟩
abbrev cX2_lateTogether : ByteArray := prog_4_method_20_code
def yX2_lateTogether : MethodName := ⟨RX2, "lateTogether", "()I"⟩
abbrev cX2_lateTasks : ByteArray := prog_4_method_21_code
def yX2_lateTasks : MethodName := ⟨RX2, "lateTasks", "()I"⟩
abbrev cX2_offers : ByteArray := prog_4_method_22_code
def yX2_offers : MethodName := ⟨RX2, "offers", "()I"⟩
abbrev cX2_allMoney : ByteArray := prog_4_method_23_code
def yX2_allMoney : MethodName := ⟨RX2, "allMoney", "()I"⟩
abbrev cX2_slackOf : ByteArray := prog_4_method_24_code
def yX2_slackOf : MethodName := ⟨RX2, "slackOf", "(I)I"⟩
abbrev cX2_lowerLatestEnd : ByteArray := prog_4_method_25_code
def yX2_lowerLatestEnd : MethodName := ⟨RX2, "lowerLatestEnd", "(II)V"⟩
abbrev cX2_findBestPlace : ByteArray := prog_4_method_26_code
def yX2_findBestPlace : MethodName := ⟨RX2, "findBestPlace", "(I)I"⟩
abbrev cX2_tellOfTask : ByteArray := prog_4_method_27_code
def yX2_tellOfTask : MethodName := ⟨RX2, "tellOfTask", "(II)I"⟩
abbrev cX2_tellOfAll : ByteArray := prog_4_method_28_code
def yX2_tellOfAll : MethodName := ⟨RX2, "tellOfAll", "(I)I"⟩
def RX3 : String := "SlackMarket$Pad"
def TX3 : u_T := fun k => match k with
  | 0 => ("SlackMarket$Pad", "text", "[C", true)
  | 1 => ("SlackMarket$Pad", "length", "I", false)
  | 2 => ("SlackMarket$Pad", "at", "I", false)
  | 3 => ("SlackMarket$Pad", "kind", "I", false)
  | 4 => ("SlackMarket$Pad", "numbers", "[I", true)
  | _ => ("SlackMarket$Pad", "read", "I", false)
def tyX3 : Nat → FieldType := fun k => match k with
  | 0 => .array .char
  | 1 => .int
  | 2 => .int
  | 3 => .int
  | 4 => .array .int
  | _ => .int
abbrev wsX30 : List Cond := u_ws RX3 TX3 6
theorem nmX3 : ∀ a, a < 6 → ∀ b, b < 6 → a ≠ b → (TX3 a).2.1 ≠ (TX3 b).2.1 := by decide +kernel
theorem tyX3_ok : ∀ k, k < 6 → parseFieldDescriptor (TX3 k).2.2.1 = some (tyX3 k) := by decide +kernel
abbrev cX3_init : ByteArray := prog_5_method_1_code
def yX3_init : MethodName := ⟨RX3, "<init>", "()V"⟩
abbrev cX3_append : ByteArray := prog_5_method_2_code
def yX3_append : MethodName := ⟨RX3, "append", "(J)I"⟩
abbrev cX3_clear : ByteArray := prog_5_method_3_code
def yX3_clear : MethodName := ⟨RX3, "clear", "()I"⟩
abbrev cX3_toStart : ByteArray := prog_5_method_4_code
def yX3_toStart : MethodName := ⟨RX3, "toStart", "()V"⟩
abbrev cX3_findFault : ByteArray := prog_5_method_5_code
def yX3_findFault : MethodName := ⟨RX3, "findFault", "()I"⟩
abbrev cX3_readNext : ByteArray := prog_5_method_6_code
def yX3_readNext : MethodName := ⟨RX3, "readNext", "()Z"⟩
abbrev cX3_readOrder : ByteArray := prog_5_method_7_code
def yX3_readOrder : MethodName := ⟨RX3, "readOrder", "()Z"⟩
abbrev cX3_readTask : ByteArray := prog_5_method_8_code
def yX3_readTask : MethodName := ⟨RX3, "readTask", "()Z"⟩
abbrev cX3_readPair : ByteArray := prog_5_method_9_code
def yX3_readPair : MethodName := ⟨RX3, "readPair", "(C)Z"⟩
abbrev cX3_here : ByteArray := prog_5_method_10_code
def yX3_here : MethodName := ⟨RX3, "here", "()I"⟩
abbrev cX3_readSign : ByteArray := prog_5_method_11_code
def yX3_readSign : MethodName := ⟨RX3, "readSign", "(C)Z"⟩
abbrev cX3_isDigit : ByteArray := prog_5_method_12_code
def yX3_isDigit : MethodName := ⟨RX3, "isDigit", "()Z"⟩
abbrev cX3_readDigit : ByteArray := prog_5_method_13_code
def yX3_readDigit : MethodName := ⟨RX3, "readDigit", "()Z"⟩
abbrev cX3_readNumber : ByteArray := prog_5_method_14_code
def yX3_readNumber : MethodName := ⟨RX3, "readNumber", "()Z"⟩
abbrev cX3_keep : ByteArray := prog_5_method_15_code
def yX3_keep : MethodName := ⟨RX3, "keep", "(I)Z"⟩
def RX4 : String := "SlackMarket$Plan"
def TX4 : u_T := fun k => match k with
  | 0 => ("SlackMarket$Plan", "tasks", "I", false)
  | 1 => ("SlackMarket$Plan", "machineOf", "[I", true)
  | 2 => ("SlackMarket$Plan", "durationOf", "[I", true)
  | 3 => ("SlackMarket$Plan", "aheadOf", "[I", true)
  | 4 => ("SlackMarket$Plan", "ends", "[I", true)
  | 5 => ("SlackMarket$Plan", "order", "[I", true)
  | 6 => ("SlackMarket$Plan", "rows", "[I", true)
  | 7 => ("SlackMarket$Plan", "rowLength", "[I", true)
  | 8 => ("SlackMarket$Plan", "rowEnded", "[I", true)
  | _ => ("SlackMarket$Plan", "links", "[I", true)
def tyX4 : Nat → FieldType := fun k => match k with
  | 0 => .int
  | 1 => .array .int
  | 2 => .array .int
  | 3 => .array .int
  | 4 => .array .int
  | 5 => .array .int
  | 6 => .array .int
  | 7 => .array .int
  | 8 => .array .int
  | _ => .array .int
abbrev wsX40 : List Cond := u_ws RX4 TX4 10
theorem nmX4 : ∀ a, a < 10 → ∀ b, b < 10 → a ≠ b → (TX4 a).2.1 ≠ (TX4 b).2.1 := by decide +kernel
theorem tyX4_ok : ∀ k, k < 10 → parseFieldDescriptor (TX4 k).2.2.1 = some (tyX4 k) := by decide +kernel
abbrev cX4_init : ByteArray := prog_6_method_1_code
def yX4_init : MethodName := ⟨RX4, "<init>", "()V"⟩
abbrev cX4_copyFrom : ByteArray := prog_6_method_2_code
def yX4_copyFrom : MethodName := ⟨RX4, "copyFrom", "(LSlackMarket$Plan;)V"⟩
abbrev cX4_has : ByteArray := prog_6_method_3_code
def yX4_has : MethodName := ⟨RX4, "has", "(I)Z"⟩
abbrev cX4_inRow : ByteArray := prog_6_method_4_code
def yX4_inRow : MethodName := ⟨RX4, "inRow", "(II)I"⟩
abbrev cX4_placeOf : ByteArray := prog_6_method_5_code
def yX4_placeOf : MethodName := ⟨RX4, "placeOf", "(I)I"⟩
abbrev cX4_inFrontOf : ByteArray := prog_6_method_6_code
def yX4_inFrontOf : MethodName := ⟨RX4, "inFrontOf", "(I)I"⟩
abbrev cX4_endOf : ByteArray := prog_6_method_7_code
def yX4_endOf : MethodName := ⟨RX4, "endOf", "(I)I"⟩
abbrev cX4_startOf : ByteArray := prog_6_method_8_code
def yX4_startOf : MethodName := ⟨RX4, "startOf", "(I)I"⟩
abbrev cX4_endOfAll : ByteArray := prog_6_method_9_code
def yX4_endOfAll : MethodName := ⟨RX4, "endOfAll", "()I"⟩
abbrev cX4_append : ByteArray := prog_6_method_10_code
def yX4_append : MethodName := ⟨RX4, "append", "(III)V"⟩
abbrev cX4_shift : ByteArray := prog_6_method_11_code
def yX4_shift : MethodName := ⟨RX4, "shift", "(II)V"⟩
abbrev cX4_schedule : ByteArray := prog_6_method_12_code
def yX4_schedule : MethodName := ⟨RX4, "schedule", "()Z"⟩
abbrev cX4_scheduleRow : ByteArray := prog_6_method_13_code
def yX4_scheduleRow : MethodName := ⟨RX4, "scheduleRow", "(II)I"⟩
abbrev cX4_followersOf : ByteArray := prog_6_method_14_code
def yX4_followersOf : MethodName := ⟨RX4, "followersOf", "(I)I"⟩
abbrev cX4_longestChain : ByteArray := prog_6_method_15_code
def yX4_longestChain : MethodName := ⟨RX4, "longestChain", "()I"⟩
abbrev cX4_waitedFor : ByteArray := prog_6_method_16_code
def yX4_waitedFor : MethodName := ⟨RX4, "waitedFor", "(I)I"⟩
abbrev cX4_measureFrom : ByteArray := prog_6_method_17_code
def yX4_measureFrom : MethodName := ⟨RX4, "measureFrom", "(I)V"⟩
abbrev cX4_linkFrom : ByteArray := prog_6_method_18_code
def yX4_linkFrom : MethodName := ⟨RX4, "linkFrom", "(I)V"⟩
def RX5 : String := "SlackMarket"
def TX5 : u_T := fun k => match k with
  | 0 => ("SlackMarket", "now", "LSlackMarket$Market;", true)
  | 1 => ("SlackMarket", "trial", "LSlackMarket$Market;", true)
  | 2 => ("SlackMarket", "history", "LSlackMarket$History;", true)
  | 3 => ("SlackMarket", "slots", "[LSlackMarket$Market;", true)
  | 4 => ("SlackMarket", "slotFilled", "[Z", true)
  | _ => ("SlackMarket", "pad", "LSlackMarket$Pad;", true)
def tyX5 : Nat → FieldType := fun k => match k with
  | 0 => .object "SlackMarket$Market"
  | 1 => .object "SlackMarket$Market"
  | 2 => .object "SlackMarket$History"
  | 3 => .array (.object "SlackMarket$Market")
  | 4 => .array .boolean
  | _ => .object "SlackMarket$Pad"
abbrev wsX50 : List Cond := u_ws RX5 TX5 6
theorem nmX5 : ∀ a, a < 6 → ∀ b, b < 6 → a ≠ b → (TX5 a).2.1 ≠ (TX5 b).2.1 := by decide +kernel
theorem tyX5_ok : ∀ k, k < 6 → parseFieldDescriptor (TX5 k).2.2.1 = some (tyX5 k) := by decide +kernel
abbrev cX5_init : ByteArray := prog_1_method_1_code
def yX5_init : MethodName := ⟨RX5, "<init>", "()V"⟩
abbrev cX5_set : ByteArray := prog_1_method_2_code
def yX5_set : MethodName := ⟨RX5, "set", "(II)I"⟩
abbrev cX5_task : ByteArray := prog_1_method_3_code
def yX5_task : MethodName := ⟨RX5, "task", "(IIIII)I"⟩
abbrev cX5_duration : ByteArray := prog_1_method_4_code
def yX5_duration : MethodName := ⟨RX5, "duration", "(II)I"⟩
abbrev cX5_move : ByteArray := prog_1_method_5_code
def yX5_move : MethodName := ⟨RX5, "move", "(II)I"⟩
abbrev cX5_offer : ByteArray := prog_1_method_6_code
def yX5_offer : MethodName := ⟨RX5, "offer", "(III)I"⟩
abbrev cX5_trade : ByteArray := prog_1_method_7_code
def yX5_trade : MethodName := ⟨RX5, "trade", "()I"⟩
abbrev cX5_refund : ByteArray := prog_1_method_8_code
def yX5_refund : MethodName := ⟨RX5, "refund", "(II)I"⟩
abbrev cX5_give : ByteArray := prog_1_method_9_code
def yX5_give : MethodName := ⟨RX5, "give", "(III)I"⟩
abbrev cX5_ofTask : ByteArray := prog_1_method_10_code
def yX5_ofTask : MethodName := ⟨RX5, "ofTask", "(II)I"⟩
abbrev cX5_due : ByteArray := prog_1_method_11_code
def yX5_due : MethodName := ⟨RX5, "due", "(I)J"⟩
abbrev cX5_money : ByteArray := prog_1_method_12_code
def yX5_money : MethodName := ⟨RX5, "money", "(I)I"⟩
abbrev cX5_at : ByteArray := prog_1_method_13_code
def yX5_at : MethodName := ⟨RX5, "at", "(II)I"⟩
abbrev cX5_ofContract : ByteArray := prog_1_method_14_code
def yX5_ofContract : MethodName := ⟨RX5, "ofContract", "(II)I"⟩
abbrev cX5_count : ByteArray := prog_1_method_15_code
def yX5_count : MethodName := ⟨RX5, "count", "(I)I"⟩
abbrev cX5_distance : ByteArray := prog_1_method_16_code
def yX5_distance : MethodName := ⟨RX5, "distance", "(II)I"⟩
abbrev cX5_wouldBuy : ByteArray := prog_1_method_17_code
def yX5_wouldBuy : MethodName := ⟨RX5, "wouldBuy", "(II)I"⟩
abbrev cX5_leastMoney : ByteArray := prog_1_method_18_code
def yX5_leastMoney : MethodName := ⟨RX5, "leastMoney", "(I)I"⟩
abbrev cX5_endIf : ByteArray := prog_1_method_19_code
def yX5_endIf : MethodName := ⟨RX5, "endIf", "(III)I"⟩
abbrev cX5_bestPlace : ByteArray := prog_1_method_20_code
def yX5_bestPlace : MethodName := ⟨RX5, "bestPlace", "(I)I"⟩
abbrev cX5_critical : ByteArray := prog_1_method_21_code
def yX5_critical : MethodName := ⟨RX5, "critical", "()I"⟩
abbrev cX5_lateBehind : ByteArray := prog_1_method_22_code
def yX5_lateBehind : MethodName := ⟨RX5, "lateBehind", "()I"⟩
abbrev cX5_put : ByteArray := prog_1_method_23_code
def yX5_put : MethodName := ⟨RX5, "put", "(J)I"⟩
abbrev cX5_wipe : ByteArray := prog_1_method_24_code
def yX5_wipe : MethodName := ⟨RX5, "wipe", "()I"⟩
abbrev cX5_fault : ByteArray := prog_1_method_25_code
def yX5_fault : MethodName := ⟨RX5, "fault", "()I"⟩
abbrev cX5_carryOut : ByteArray := prog_1_method_26_code
def yX5_carryOut : MethodName := ⟨RX5, "carryOut", "()I"⟩
abbrev cX5_carryOrders : ByteArray := prog_1_method_27_code
def yX5_carryOrders : MethodName := ⟨RX5, "carryOrders", "()I"⟩
abbrev cX5_carryOrder : ByteArray := prog_1_method_28_code
def yX5_carryOrder : MethodName := ⟨RX5, "carryOrder", "()I"⟩
abbrev cX5_undo : ByteArray := prog_1_method_29_code
def yX5_undo : MethodName := ⟨RX5, "undo", "()I"⟩
abbrev cX5_save : ByteArray := prog_1_method_30_code
def yX5_save : MethodName := ⟨RX5, "save", "(I)I"⟩
abbrev cX5_restore : ByteArray := prog_1_method_31_code
def yX5_restore : MethodName := ⟨RX5, "restore", "(I)I"⟩
def RX6 : String := "SlackMarketModel"
def TX6 : u_T := fun k => match k with
  | 0 => ("SlackMarketModel", "z", "[I", true)
  | 1 => ("SlackMarketModel", "past", "[I", true)
  | 2 => ("SlackMarketModel", "slots", "[I", true)
  | 3 => ("SlackMarketModel", "isSaved", "[Z", true)
  | 4 => ("SlackMarketModel", "spare", "[I", true)
  | 5 => ("SlackMarketModel", "pastMany", "I", false)
  | 6 => ("SlackMarketModel", "isQuiet", "Z", false)
  | 7 => ("SlackMarketModel", "pad", "[C", true)
  | 8 => ("SlackMarketModel", "typed", "I", false)
  | 9 => ("SlackMarketModel", "starts", "[I", true)
  | 10 => ("SlackMarketModel", "ends", "[I", true)
  | 11 => ("SlackMarketModel", "heldTask", "I", false)
  | 12 => ("SlackMarketModel", "heldHours", "I", false)
  | 13 => ("SlackMarketModel", "far", "[I", true)
  | 14 => ("SlackMarketModel", "lateFirst", "[I", true)
  | 15 => ("SlackMarketModel", "orders", "[I", true)
  | 16 => ("SlackMarketModel", "ordersMany", "I", false)
  | 17 => ("SlackMarketModel", "spot", "I", false)
  | _ => ("SlackMarketModel", "wrong", "I", false)
def tyX6 : Nat → FieldType := fun k => match k with
  | 0 => .array .int
  | 1 => .array .int
  | 2 => .array .int
  | 3 => .array .boolean
  | 4 => .array .int
  | 5 => .int
  | 6 => .boolean
  | 7 => .array .char
  | 8 => .int
  | 9 => .array .int
  | 10 => .array .int
  | 11 => .int
  | 12 => .int
  | 13 => .array .int
  | 14 => .array .int
  | 15 => .array .int
  | 16 => .int
  | 17 => .int
  | _ => .int
abbrev wsX60 : List Cond := u_ws RX6 TX6 19
theorem nmX6 : ∀ a, a < 19 → ∀ b, b < 19 → a ≠ b → (TX6 a).2.1 ≠ (TX6 b).2.1 := by decide +kernel
theorem tyX6_ok : ∀ k, k < 19 → parseFieldDescriptor (TX6 k).2.2.1 = some (tyX6 k) := by decide +kernel
abbrev cX6_init : ByteArray := prog_8_method_1_code
def yX6_init : MethodName := ⟨RX6, "<init>", "()V"⟩
abbrev cX6_in : ByteArray := prog_8_method_2_code
def yX6_in : MethodName := ⟨RX6, "in", "(III)Z"⟩
abbrev cX6_record : ByteArray := prog_8_method_3_code
def yX6_record : MethodName := ⟨RX6, "record", "()V"⟩
abbrev cX6_undo : ByteArray := prog_8_method_4_code
def yX6_undo : MethodName := ⟨RX6, "undo", "()I"⟩
abbrev cX6_save : ByteArray := prog_8_method_5_code
def yX6_save : MethodName := ⟨RX6, "save", "(I)I"⟩
abbrev cX6_restore : ByteArray := prog_8_method_6_code
def yX6_restore : MethodName := ⟨RX6, "restore", "(I)I"⟩
abbrev cX6_putAside : ByteArray := prog_8_method_7_code
def yX6_putAside : MethodName := ⟨RX6, "putAside", "()V"⟩
abbrev cX6_bringBack : ByteArray := prog_8_method_8_code
def yX6_bringBack : MethodName := ⟨RX6, "bringBack", "()V"⟩
abbrev cX6_isTask : ByteArray := prog_8_method_9_code
def yX6_isTask : MethodName := ⟨RX6, "isTask", "(I)Z"⟩
abbrev cX6_manyOn : ByteArray := prog_8_method_10_code
def yX6_manyOn : MethodName := ⟨RX6, "manyOn", "(I)I"⟩
abbrev cX6_taskAt : ByteArray := prog_8_method_11_code
def yX6_taskAt : MethodName := ⟨RX6, "taskAt", "(II)I"⟩
abbrev cX6_endOf : ByteArray := prog_8_method_12_code
def yX6_endOf : MethodName := ⟨RX6, "endOf", "(I)I"⟩
abbrev cX6_reckon : ByteArray := prog_8_method_13_code
def yX6_reckon : MethodName := ⟨RX6, "reckon", "()Z"⟩
abbrev cX6_late : ByteArray := prog_8_method_14_code
def yX6_late : MethodName := ⟨RX6, "late", "(I)I"⟩
abbrev cX6_spared : ByteArray := prog_8_method_15_code
def yX6_spared : MethodName := ⟨RX6, "spared", "(I)I"⟩
abbrev cX6_lateTogether : ByteArray := prog_8_method_16_code
def yX6_lateTogether : MethodName := ⟨RX6, "lateTogether", "()I"⟩
abbrev cX6_canBeHeld : ByteArray := prog_8_method_17_code
def yX6_canBeHeld : MethodName := ⟨RX6, "canBeHeld", "(II)Z"⟩
abbrev cX6_slack : ByteArray := prog_8_method_18_code
def yX6_slack : MethodName := ⟨RX6, "slack", "(I)I"⟩
abbrev cX6_set : ByteArray := prog_8_method_19_code
def yX6_set : MethodName := ⟨RX6, "set", "(II)I"⟩
abbrev cX6_task : ByteArray := prog_8_method_20_code
def yX6_task : MethodName := ⟨RX6, "task", "(IIIII)I"⟩
abbrev cX6_duration : ByteArray := prog_8_method_21_code
def yX6_duration : MethodName := ⟨RX6, "duration", "(II)I"⟩
abbrev cX6_putAt : ByteArray := prog_8_method_22_code
def yX6_putAt : MethodName := ⟨RX6, "putAt", "(II)V"⟩
abbrev cX6_move : ByteArray := prog_8_method_23_code
def yX6_move : MethodName := ⟨RX6, "move", "(II)I"⟩
abbrev cX6_areLinked : ByteArray := prog_8_method_24_code
def yX6_areLinked : MethodName := ⟨RX6, "areLinked", "(II)Z"⟩
abbrev cX6_measure : ByteArray := prog_8_method_25_code
def yX6_measure : MethodName := ⟨RX6, "measure", "(I)V"⟩
abbrev cX6_distance : ByteArray := prog_8_method_26_code
def yX6_distance : MethodName := ⟨RX6, "distance", "(II)I"⟩
abbrev cX6_offer : ByteArray := prog_8_method_27_code
def yX6_offer : MethodName := ⟨RX6, "offer", "(III)I"⟩
abbrev cX6_nextOffer : ByteArray := prog_8_method_28_code
def yX6_nextOffer : MethodName := ⟨RX6, "nextOffer", "(II)I"⟩
abbrev cX6_isSooner : ByteArray := prog_8_method_29_code
def yX6_isSooner : MethodName := ⟨RX6, "isSooner", "(II)Z"⟩
abbrev cX6_less : ByteArray := prog_8_method_30_code
def yX6_less : MethodName := ⟨RX6, "less", "(II)I"⟩
abbrev cX6_hoursOf : ByteArray := prog_8_method_31_code
def yX6_hoursOf : MethodName := ⟨RX6, "hoursOf", "(II)I"⟩
abbrev cX6_agree : ByteArray := prog_8_method_32_code
def yX6_agree : MethodName := ⟨RX6, "agree", "(III)V"⟩
abbrev cX6_buys : ByteArray := prog_8_method_33_code
def yX6_buys : MethodName := ⟨RX6, "buys", "(I)V"⟩
abbrev cX6_tradeAll : ByteArray := prog_8_method_34_code
def yX6_tradeAll : MethodName := ⟨RX6, "tradeAll", "()V"⟩
abbrev cX6_trade : ByteArray := prog_8_method_35_code
def yX6_trade : MethodName := ⟨RX6, "trade", "()I"⟩
abbrev cX6_isContract : ByteArray := prog_8_method_36_code
def yX6_isContract : MethodName := ⟨RX6, "isContract", "(I)Z"⟩
abbrev cX6_refund : ByteArray := prog_8_method_37_code
def yX6_refund : MethodName := ⟨RX6, "refund", "(II)I"⟩
abbrev cX6_dropContract : ByteArray := prog_8_method_38_code
def yX6_dropContract : MethodName := ⟨RX6, "dropContract", "(I)V"⟩
abbrev cX6_give : ByteArray := prog_8_method_39_code
def yX6_give : MethodName := ⟨RX6, "give", "(III)I"⟩
abbrev cX6_hoursBy : ByteArray := prog_8_method_40_code
def yX6_hoursBy : MethodName := ⟨RX6, "hoursBy", "(II)I"⟩
abbrev cX6_behind : ByteArray := prog_8_method_41_code
def yX6_behind : MethodName := ⟨RX6, "behind", "(I)I"⟩
abbrev cX6_ofTask : ByteArray := prog_8_method_42_code
def yX6_ofTask : MethodName := ⟨RX6, "ofTask", "(II)I"⟩
abbrev cX6_due : ByteArray := prog_8_method_43_code
def yX6_due : MethodName := ⟨RX6, "due", "(I)J"⟩
abbrev cX6_money : ByteArray := prog_8_method_44_code
def yX6_money : MethodName := ⟨RX6, "money", "(I)I"⟩
abbrev cX6_at : ByteArray := prog_8_method_45_code
def yX6_at : MethodName := ⟨RX6, "at", "(II)I"⟩
abbrev cX6_ofContract : ByteArray := prog_8_method_46_code
def yX6_ofContract : MethodName := ⟨RX6, "ofContract", "(II)I"⟩
abbrev cX6_offers : ByteArray := prog_8_method_47_code
def yX6_offers : MethodName := ⟨RX6, "offers", "()I"⟩
abbrev cX6_lateSet : ByteArray := prog_8_method_48_code
def yX6_lateSet : MethodName := ⟨RX6, "lateSet", "()I"⟩
abbrev cX6_endOfAll : ByteArray := prog_8_method_49_code
def yX6_endOfAll : MethodName := ⟨RX6, "endOfAll", "()I"⟩
abbrev cX6_sumOf : ByteArray := prog_8_method_50_code
def yX6_sumOf : MethodName := ⟨RX6, "sumOf", "(II)I"⟩
abbrev cX6_count : ByteArray := prog_8_method_51_code
def yX6_count : MethodName := ⟨RX6, "count", "(I)I"⟩
abbrev cX6_wouldBuy : ByteArray := prog_8_method_52_code
def yX6_wouldBuy : MethodName := ⟨RX6, "wouldBuy", "(II)I"⟩
abbrev cX6_leastMoney : ByteArray := prog_8_method_53_code
def yX6_leastMoney : MethodName := ⟨RX6, "leastMoney", "(I)I"⟩
abbrev cX6_endIf : ByteArray := prog_8_method_54_code
def yX6_endIf : MethodName := ⟨RX6, "endIf", "(III)I"⟩
abbrev cX6_bestPlace : ByteArray := prog_8_method_55_code
def yX6_bestPlace : MethodName := ⟨RX6, "bestPlace", "(I)I"⟩
abbrev cX6_critical : ByteArray := prog_8_method_56_code
def yX6_critical : MethodName := ⟨RX6, "critical", "()I"⟩
abbrev cX6_lateBehind : ByteArray := prog_8_method_57_code
def yX6_lateBehind : MethodName := ⟨RX6, "lateBehind", "()I"⟩
abbrev cX6_put : ByteArray := prog_8_method_58_code
def yX6_put : MethodName := ⟨RX6, "put", "(J)I"⟩
abbrev cX6_wipe : ByteArray := prog_8_method_59_code
def yX6_wipe : MethodName := ⟨RX6, "wipe", "()I"⟩
abbrev cX6_letter : ByteArray := prog_8_method_60_code
def yX6_letter : MethodName := ⟨RX6, "letter", "(I)I"⟩
abbrev cX6_isDigit : ByteArray := prog_8_method_61_code
def yX6_isDigit : MethodName := ⟨RX6, "isDigit", "(I)Z"⟩
abbrev cX6_fail : ByteArray := prog_8_method_62_code
def yX6_fail : MethodName := ⟨RX6, "fail", "()V"⟩
abbrev cX6_takes : ByteArray := prog_8_method_63_code
def yX6_takes : MethodName := ⟨RX6, "takes", "(I)V"⟩
abbrev cX6_takesNumber : ByteArray := prog_8_method_64_code
def yX6_takesNumber : MethodName := ⟨RX6, "takesNumber", "()I"⟩
abbrev cX6_takesMachine : ByteArray := prog_8_method_65_code
def yX6_takesMachine : MethodName := ⟨RX6, "takesMachine", "()I"⟩
abbrev cX6_readTask : ByteArray := prog_8_method_66_code
def yX6_readTask : MethodName := ⟨RX6, "readTask", "(I)V"⟩
abbrev cX6_readTwo : ByteArray := prog_8_method_67_code
def yX6_readTwo : MethodName := ⟨RX6, "readTwo", "(II)V"⟩
abbrev cX6_readOrder : ByteArray := prog_8_method_68_code
def yX6_readOrder : MethodName := ⟨RX6, "readOrder", "(I)V"⟩
abbrev cX6_readPad : ByteArray := prog_8_method_69_code
def yX6_readPad : MethodName := ⟨RX6, "readPad", "()V"⟩
abbrev cX6_fault : ByteArray := prog_8_method_70_code
def yX6_fault : MethodName := ⟨RX6, "fault", "()I"⟩
abbrev cX6_does : ByteArray := prog_8_method_71_code
def yX6_does : MethodName := ⟨RX6, "does", "(I)I"⟩
abbrev cX6_carryOut : ByteArray := prog_8_method_72_code
def yX6_carryOut : MethodName := ⟨RX6, "carryOut", "()I"⟩
def RJ9 : String := "java/lang/Math"
def TJ9 : u_T := fun k => match k with
  | _ => ("", "", "", false)
def tyJ9 : Nat → FieldType := fun k => match k with
  | _ => .int
abbrev wsJ90 : List Cond := u_ws RJ9 TJ9 0
theorem nmJ9 : ∀ a, a < 0 → ∀ b, b < 0 → a ≠ b → (TJ9 a).2.1 ≠ (TJ9 b).2.1 := by decide +kernel
theorem tyJ9_ok : ∀ k, k < 0 → parseFieldDescriptor (TJ9 k).2.2.1 = some (tyJ9 k) := by decide +kernel
abbrev cJ9_max_7cf53 : ByteArray := prog_9_method_65_code
def yJ9_max_7cf53 : MethodName := ⟨RJ9, "max", "(II)I"⟩
abbrev cJ9_min_7cf53 : ByteArray := prog_9_method_69_code
def yJ9_min_7cf53 : MethodName := ⟨RJ9, "min", "(II)I"⟩
def RJ10 : String := "java/lang/System"
def TJ10 : u_T := fun k => match k with
  | _ => ("", "", "", false)
def tyJ10 : Nat → FieldType := fun k => match k with
  | _ => .int
abbrev wsJ100 : List Cond := u_ws RJ10 TJ10 0
theorem nmJ10 : ∀ a, a < 0 → ∀ b, b < 0 → a ≠ b → (TJ10 a).2.1 ≠ (TJ10 b).2.1 := by decide +kernel
theorem tyJ10_ok : ∀ k, k < 0 → parseFieldDescriptor (TJ10 k).2.2.1 = some (tyJ10 k) := by decide +kernel
def RL : String := "SlackMarketLaw"
abbrev cL_law : ByteArray := code
def yL_law : MethodName := ⟨RL, "law", "([I)Z"⟩
abbrev vwCl : List vw_C := [(RX0, TX0, 5), (RX1, TX1, 3), (RX2, TX2, 9), (RX3, TX3, 6), (RX4, TX4, 10), (RX5, TX5, 6), (RX6, TX6, 19)]
end
section
/-! THE WORLD. The cells of the whole system never move once the two objects stand: the class makes all of its rows in its constructors. So a state of the
system is a memory: block (0..10 the markets, 11 the rest of SlackMarket, 12 the model), place in the block, index -> int. References are fixed. -/
def lw_gd : List Cond := lw_tbl.filter goodWord
theorem gd_of {w : Cond} (i : Nat) (h : lw_tbl[i]? = some w) (hg : goodWord w = true) : w ∈ lw_gd := List.mem_filter.mpr ⟨List.mem_of_getElem? h, hg⟩
theorem gd_good : ∀ w ∈ lw_gd, goodWord w = true := fun _ h => (List.mem_filter.mp h).2
theorem gd_sub : ∀ w ∈ lw_gd, w ∈ lw_tbl := fun _ h => (List.mem_filter.mp h).1
theorem gd_goodIn {c : Cond} (hc : c ∈ lw_gd) : GoodIn lw_gd (c :: lw_gd) := by
  intro w hw
  rcases List.mem_cons.mp hw with h | h
  · subst h
    exact ⟨hc, good_of_word (gd_good _ hc)⟩
  · exact ⟨h, good_of_word (gd_good _ h)⟩
theorem gd_X0 : ∀ w ∈ u_ws RX0 TX0 5, w ∈ lw_gd := by decide +kernel
theorem gd_X1 : ∀ w ∈ u_ws RX1 TX1 3, w ∈ lw_gd := by decide +kernel
theorem gd_X2 : ∀ w ∈ u_ws RX2 TX2 9, w ∈ lw_gd := by decide +kernel
theorem gd_X3 : ∀ w ∈ u_ws RX3 TX3 6, w ∈ lw_gd := by decide +kernel
theorem gd_X4 : ∀ w ∈ u_ws RX4 TX4 10, w ∈ lw_gd := by decide +kernel
theorem gd_X5 : ∀ w ∈ u_ws RX5 TX5 6, w ∈ lw_gd := by decide +kernel
theorem gd_X6 : ∀ w ∈ u_ws RX6 TX6 19, w ∈ lw_gd := by decide +kernel
abbrev Blk : Type := Nat → Nat → Int32
abbrev Mem : Type := Nat → Blk
def bs (B : Blk) (o k : Nat) (v : Int32) : Blk := fun o' => if o' = o then upd (B o) k v else B o'
def bc (B : Blk) (o : Nat) (f : Nat → Int32) : Blk := fun o' => if o' = o then f else B o'
def jb (M : Mem) (j : Nat) (B : Blk) : Mem := fun i => if i = j then B else M i
theorem jb_at (M : Mem) (j : Nat) (B : Blk) : jb M j B j = B := if_pos rfl
theorem jb_ne {M : Mem} {i j : Nat} {B : Blk} (h : i ≠ j) : jb M j B i = M i := if_neg h
theorem jb_jb (M : Mem) (j : Nat) (B B' : Blk) : jb (jb M j B) j B' = jb M j B' := by
  funext i
  by_cases h : i = j
  · simp [jb, h]
  · simp [jb, h]
theorem jb_self (M : Mem) (j : Nat) : jb M j (M j) = M := by
  funext i
  by_cases h : i = j
  · subst h; simp [jb]
  · simp [jb, h]
/-- the classes' ids, the addresses by block and place, the ids of int[], boolean[], char[], Market[] -/
abbrev VT : Type := va_G × (Nat → Nat → Nat) × ClassId × ClassId × ClassId × ClassId
def vD (V : VT) : va_G := V.1
def vA (V : VT) (j o : Nat) : Nat := V.2.1 j o
def vI (V : VT) : ClassId := V.2.2.1
def vZ (V : VT) : ClassId := V.2.2.2.1
def vC (V : VT) : ClassId := V.2.2.2.2.1
def vM (V : VT) : ClassId := V.2.2.2.2.2
def vT (V : VT) : List (ClassId × FieldType) := [(vI V, .int), (vZ V, .boolean), (vC V, .char), (vM V, .object "SlackMarket$Market")]
def cellM (V : VT) (j : Nat) (B : Blk) : Nat → va_E := fun o => match o with
  | 0 => .inr (2, [.ref (vA V j 1), .ref (vA V j 2), .int (B 0 2), .int (B 0 3), .ref (vA V j 16), .ref (vA V j 17), .ref (vA V j 18), .ref (vA V j 19), .ref (vA V j 20)])
  | 1 => .inr (4, [.int (B 1 0), .ref (vA V j 3), .ref (vA V j 4), .ref (vA V j 5), .ref (vA V j 6), .ref (vA V j 7), .ref (vA V j 8), .ref (vA V j 9), .ref (vA V j 10), .ref (vA V j 11)])
  | 2 => .inr (0, [.int (B 2 0), .ref (vA V j 12), .ref (vA V j 13), .ref (vA V j 14), .ref (vA V j 15)])
  | 3 => .inl (vI V, 24, .inl (B 3))
  | 4 => .inl (vI V, 24, .inl (B 4))
  | 5 => .inl (vI V, 24, .inl (B 5))
  | 6 => .inl (vI V, 24, .inl (B 6))
  | 7 => .inl (vI V, 24, .inl (B 7))
  | 8 => .inl (vI V, 96, .inl (B 8))
  | 9 => .inl (vI V, 4, .inl (B 9))
  | 10 => .inl (vI V, 4, .inl (B 10))
  | 11 => .inl (vI V, 24, .inl (B 11))
  | 12 => .inl (vI V, 40, .inl (B 12))
  | 13 => .inl (vI V, 40, .inl (B 13))
  | 14 => .inl (vI V, 40, .inl (B 14))
  | 15 => .inl (vI V, 40, .inl (B 15))
  | 16 => .inl (vI V, 24, .inl (B 16))
  | 17 => .inl (vI V, 24, .inl (B 17))
  | 18 => .inl (vI V, 24, .inl (B 18))
  | 19 => .inl (vI V, 24, .inl (B 19))
  | _ => .inl (vI V, 24, .inl (B o))
def cellX (V : VT) (B : Blk) : Nat → va_E := fun o => match o with
  | 0 => .inr (5, [.ref (vA V 0 0), .ref (vA V 1 0), .ref (vA V 11 3), .ref (vA V 11 1), .ref (vA V 11 2), .ref (vA V 11 5)])
  | 1 => .inl (vM V, 2, .inr (.inr (.inr (.inr (fun i => some (vA V (2 + i) 0))))))
  | 2 => .inl (vZ V, 2, .inl (B 2))
  | 3 => .inr (1, [.ref (vA V 11 4), .int (B 3 1), .int (B 3 2)])
  | 4 => .inl (vM V, 7, .inr (.inr (.inr (.inr (fun i => some (vA V (4 + i) 0))))))
  | 5 => .inr (3, [.ref (vA V 11 6), .int (B 5 1), .int (B 5 2), .int (B 5 3), .ref (vA V 11 7), .int (B 5 5)])
  | 6 => .inl (vC V, 80, .inl (B 6))
  | _ => .inl (vI V, 5, .inl (B o))
def cellZ (V : VT) (B : Blk) : Nat → va_E := fun o => match o with
  | 0 => .inr (6, [.ref (vA V 12 1), .ref (vA V 12 2), .ref (vA V 12 3), .ref (vA V 12 4), .ref (vA V 12 5), .int (B 0 5), .int (B 0 6), .ref (vA V 12 6), .int (B 0 8), .ref (vA V 12 7), .ref (vA V 12 8), .int (B 0 11), .int (B 0 12), .ref (vA V 12 9), .ref (vA V 12 10), .ref (vA V 12 11), .int (B 0 16), .int (B 0 17), .int (B 0 18)])
  | 1 => .inl (vI V, 356, .inl (B 1))
  | 2 => .inl (vI V, 2136, .inl (B 2))
  | 3 => .inl (vI V, 712, .inl (B 3))
  | 4 => .inl (vZ V, 2, .inl (B 4))
  | 5 => .inl (vI V, 356, .inl (B 5))
  | 6 => .inl (vC V, 80, .inl (B 6))
  | 7 => .inl (vI V, 24, .inl (B 7))
  | 8 => .inl (vI V, 24, .inl (B 8))
  | 9 => .inl (vI V, 24, .inl (B 9))
  | 10 => .inl (vI V, 24, .inl (B 10))
  | _ => .inl (vI V, 252, .inl (B o))
def cellOf (V : VT) (M : Mem) (q : Nat × Nat) : va_E := if q.1 < 11 then cellM V q.1 (M q.1) q.2 else if q.1 = 11 then cellX V (M q.1) q.2 else cellZ V (M q.1) q.2
def places : List (Nat × Nat) := ((List.range 11).flatMap fun j => (List.range 21).map fun o => (j, o)) ++ (((List.range 8).map fun o => (11, o)) ++ ((List.range 12).map fun o => (12, o)))
def wsOf (V : VT) (M : Mem) : va_W := places.map fun q => (vA V q.1 q.2, cellOf V M q)
theorem places_nodup : places.Nodup := by decide +kernel
def isPl (j o : Nat) : Prop := ∃ i : Nat, places[i]? = some (j, o)
theorem pl_M {j o : Nat} (hj : j < 11) (ho : o < 21) : isPl j o := by
  have h : ∀ j, j < 11 → ∀ o, o < 21 → places[21 * j + o]? = some (j, o) := by decide +kernel
  exact ⟨_, h j hj o ho⟩
theorem pl_X {o : Nat} (ho : o < 8) : isPl 11 o := by
  have h : ∀ o, o < 8 → places[231 + o]? = some (11, o) := by decide +kernel
  exact ⟨_, h o ho⟩
theorem pl_Z {o : Nat} (ho : o < 12) : isPl 12 o := by
  have h : ∀ o, o < 12 → places[239 + o]? = some (12, o) := by decide +kernel
  exact ⟨_, h o ho⟩
theorem cellM_congr {V : VT} {j o : Nat} {B B' : Blk} (h : B o = B' o) : cellM V j B o = cellM V j B' o := by
  unfold cellM
  split <;> simp_all
theorem cellX_congr {V : VT} {o : Nat} {B B' : Blk} (h : B o = B' o) : cellX V B o = cellX V B' o := by
  unfold cellX
  split <;> simp_all
theorem cellZ_congr {V : VT} {o : Nat} {B B' : Blk} (h : B o = B' o) : cellZ V B o = cellZ V B' o := by
  unfold cellZ
  split <;> simp_all
theorem cellOf_congr {V : VT} {M M' : Mem} {j o : Nat} (h : M j o = M' j o) : cellOf V M (j, o) = cellOf V M' (j, o) := by
  unfold cellOf
  dsimp only
  split
  · exact cellM_congr h
  · split
    · exact cellX_congr h
    · exact cellZ_congr h
theorem ws_at {V : VT} {M : Mem} {i j o : Nat} (h : places[i]? = some (j, o)) : (wsOf V M)[i]? = some (vA V j o, cellOf V M (j, o)) := by
  unfold wsOf
  rw [List.getElem?_map, h]
  rfl
theorem ws_set {V : VT} {M M' : Mem} {i j o : Nat} (h : places[i]? = some (j, o)) (hM : ∀ j' o', (j', o') ≠ (j, o) → M' j' o' = M j' o') : (wsOf V M).set i (vA V j o, cellOf V M' (j, o)) = wsOf V M' := by
  have hi : i < places.length := (List.getElem?_eq_some_iff.mp h).1
  refine List.ext_getElem? fun k => ?_
  by_cases hk : i = k
  · subst hk
    rw [ws_at h, List.getElem?_set_self (by unfold wsOf; rw [List.length_map]; exact hi)]
  · rw [List.getElem?_set_ne hk]
    unfold wsOf
    rw [List.getElem?_map, List.getElem?_map]
    cases hp : places[k]? with
    | none => rfl
    | some q =>
      obtain ⟨j', o'⟩ := q
      have hne : (j', o') ≠ (j, o) := fun e => by
        rw [e] at hp
        exact hk ((List.getElem?_inj hi places_nodup).mp (h.trans hp.symm))
      show some (vA V j' o', cellOf V M (j', o')) = some (vA V j' o', cellOf V M' (j', o'))
      rw [cellOf_congr (hM j' o' hne)]
theorem jb_off {M : Mem} {j o : Nat} {B : Blk} (hB : ∀ o', o' ≠ o → B o' = M j o') : ∀ j' o', (j', o') ≠ (j, o) → jb M j B j' o' = M j' o' := by
  intro j' o' h
  by_cases hj : j' = j
  · subst hj
    rw [jb_at]
    exact hB o' (fun e => h (by rw [e]))
  · rw [jb_ne hj]
theorem bs_ne {B : Blk} {o k o' : Nat} {v : Int32} (h : o' ≠ o) : bs B o k v o' = B o' := if_neg h
theorem bs_at {B : Blk} {o k : Nat} {v : Int32} : bs B o k v o = upd (B o) k v := if_pos rfl
theorem bc_ne {B : Blk} {o o' : Nat} {f : Nat → Int32} (h : o' ≠ o) : bc B o f o' = B o' := if_neg h
theorem bc_at {B : Blk} {o : Nat} {f : Nat → Int32} : bc B o f o = f := if_pos rfl
/-- the world holds the memory M; nothing outside A has changed since H0 -/
def Wd (V : VT) (A : Nat → Prop) (H0 : Heap) (M : Mem) (s : State) (H : Heap) (locs : List Loc) : Prop := va_K (vD V) vwCl (vT V) s ∧ va_P (vD V) vwCl (wsOf V M) H ∧ va_D A (wsOf V M) ∧ va_S A H0 H locs
abbrev WE : Type := Program × Launch × Env × Room × State × MethodId × Array Value × List Frame × Method × Code × Nat × Nat × (State → Prop)
abbrev eP (E : WE) : Program := E.1
abbrev eL (E : WE) : Launch := E.2.1
abbrev eE (E : WE) : Env := E.2.2.1
abbrev eR (E : WE) : Room := E.2.2.2.1
abbrev eS (E : WE) : State := E.2.2.2.2.1
abbrev eM (E : WE) : MethodId := E.2.2.2.2.2.1
abbrev eA (E : WE) : Array Value := E.2.2.2.2.2.2.1
abbrev eB (E : WE) : List Frame := E.2.2.2.2.2.2.2.1
abbrev eH (E : WE) : Method := E.2.2.2.2.2.2.2.2.1
abbrev eC (E : WE) : Code := E.2.2.2.2.2.2.2.2.2.1
abbrev eNc (E : WE) : Nat := E.2.2.2.2.2.2.2.2.2.2.1
abbrev eNs (E : WE) : Nat := E.2.2.2.2.2.2.2.2.2.2.2.1
abbrev eQ (E : WE) : State → Prop := E.2.2.2.2.2.2.2.2.2.2.2.2
def Wq (E : WE) (H : Heap) (locs : List Loc) (pc : Nat) (ls : Array Slot) (st : List Value) : Prop := W (eP E) (eL E) (eE E) (eR E) (eS E) (eM E) (eA E) (eB E) (eH E) (eC E) H locs (eNc E) (eNs E) (eQ E) (F0 (eM E) pc ls st)
/-- what holds all through a method's body: the machine, its code, the words, room for calls -/
def CX (E : WE) (own : String) (cc : ByteArray) (nL fr lo : Nat) : Prop := (eP E).tables.exec = Jvm.exec ∧ (eC E).code = cc ∧ (eC E).maxLocals = nL ∧ (eS E).vm.findClass own = some (eM E).cls ∧ (∀ w ∈ lw_gd, w.before (eA E) (eS E) = true) ∧ fr ≤ (eR E).frames ∧ lo ≤ (eR E).locals ∧ eNc E ≤ (eR E).cells ∧ eNs E ≤ (eR E).slots
end
section
theorem q_iconst {E : WE} {own : String} {cc : ByteArray} {nL fr lo : Nat} (Cx : CX E own cc nL fr lo) {H : Heap} {locs : List Loc} {pc : Nat} {ls : Array Slot} {rest : List Value} {n : Int} {v : Int32} (hdg : decode cc pc = .ok (.iconst n, 1)) (hv : Int32.ofInt n = v) (k : Wq E H locs (pc + 1) ls (.int v :: rest)) : Wq E H locs pc ls (rest) := lv_iconst Cx.1 Cx.2.1 hdg hv k
theorem q_bipush {E : WE} {own : String} {cc : ByteArray} {nL fr lo : Nat} (Cx : CX E own cc nL fr lo) {H : Heap} {locs : List Loc} {pc : Nat} {ls : Array Slot} {rest : List Value} {n : Int} {v : Int32} (hdg : decode cc pc = .ok (.bipush n, 2)) (hv : (Int8.ofInt n).toInt32 = v) (k : Wq E H locs (pc + 2) ls (.int v :: rest)) : Wq E H locs pc ls (rest) := lv_bipush Cx.1 Cx.2.1 hdg hv k
theorem q_sipush {E : WE} {own : String} {cc : ByteArray} {nL fr lo : Nat} (Cx : CX E own cc nL fr lo) {H : Heap} {locs : List Loc} {pc : Nat} {ls : Array Slot} {rest : List Value} {n : Int} {v : Int32} (hdg : decode cc pc = .ok (.sipush n, 3)) (hv : (Int16.ofInt n).toInt32 = v) (k : Wq E H locs (pc + 3) ls (.int v :: rest)) : Wq E H locs pc ls (rest) := lv_sipush Cx.1 Cx.2.1 hdg hv k
theorem q_lconst {E : WE} {own : String} {cc : ByteArray} {nL fr lo : Nat} (Cx : CX E own cc nL fr lo) {H : Heap} {locs : List Loc} {pc : Nat} {ls : Array Slot} {rest : List Value} {n : Fin 2} {v : Int64} (hdg : decode cc pc = .ok (.lconst n, 1)) (hv : Int64.ofNat (n : Nat) = v) (k : Wq E H locs (pc + 1) ls (.long v :: rest)) : Wq E H locs pc ls (rest) := lv_lconst Cx.1 Cx.2.1 hdg hv k
theorem q_ldc {E : WE} {own : String} {cc : ByteArray} {nL fr lo : Nat} (Cx : CX E own cc nL fr lo) {H : Heap} {locs : List Loc} {pc : Nat} {ls : Array Slot} {rest : List Value} {index : Nat} {v : Int32} (hdg : decode cc pc = .ok (.ldc index, 2)) (hc : Cond.constant own index v ∈ lw_gd) (k : Wq E H locs (pc + 2) ls (.int v :: rest)) : Wq E H locs pc ls (rest) := lv_ldc Cx.1 Cx.2.1 Cx.2.2.2.1 (Cx.2.2.2.2.1 _ hc) hdg k
theorem q_ldc2 {E : WE} {own : String} {cc : ByteArray} {nL fr lo : Nat} (Cx : CX E own cc nL fr lo) {H : Heap} {locs : List Loc} {pc : Nat} {ls : Array Slot} {rest : List Value} {index : Nat} {v : Int64} (hdg : decode cc pc = .ok (.ldc2_w index, 3)) (hc : Cond.constantLong own index v ∈ lw_gd) (k : Wq E H locs (pc + 3) ls (.long v :: rest)) : Wq E H locs pc ls (rest) := lv_ldc2 Cx.1 Cx.2.1 Cx.2.2.2.1 (Cx.2.2.2.2.1 _ hc) hdg k
theorem q_iload_n {E : WE} {own : String} {cc : ByteArray} {nL fr lo : Nat} (Cx : CX E own cc nL fr lo) {H : Heap} {locs : List Loc} {pc : Nat} {ls : Array Slot} {rest : List Value} {n : Fin 4} {i : Nat} {x : Int32} (hdg : decode cc pc = .ok (.iload_n n, 1)) (hi : (n : Nat) = i) (hl : ls[i]? = some (.val (.int x))) (k : Wq E H locs (pc + 1) ls (.int x :: rest)) : Wq E H locs pc ls (rest) := lv_iload_n Cx.1 Cx.2.1 hdg hi hl k
theorem q_iload {E : WE} {own : String} {cc : ByteArray} {nL fr lo : Nat} (Cx : CX E own cc nL fr lo) {H : Heap} {locs : List Loc} {pc : Nat} {ls : Array Slot} {rest : List Value} {i : Nat} {x : Int32} (hdg : decode cc pc = .ok (.iload i, 2)) (hl : ls[i]? = some (.val (.int x))) (k : Wq E H locs (pc + 2) ls (.int x :: rest)) : Wq E H locs pc ls (rest) := lv_iload Cx.1 Cx.2.1 hdg hl k
theorem q_lload_n {E : WE} {own : String} {cc : ByteArray} {nL fr lo : Nat} (Cx : CX E own cc nL fr lo) {H : Heap} {locs : List Loc} {pc : Nat} {ls : Array Slot} {rest : List Value} {n : Fin 4} {i : Nat} {x : Int64} (hdg : decode cc pc = .ok (.lload_n n, 1)) (hi : (n : Nat) = i) (hl : ls[i]? = some (.val (.long x))) (k : Wq E H locs (pc + 1) ls (.long x :: rest)) : Wq E H locs pc ls (rest) := lv_lload_n Cx.1 Cx.2.1 hdg hi hl k
theorem q_lload {E : WE} {own : String} {cc : ByteArray} {nL fr lo : Nat} (Cx : CX E own cc nL fr lo) {H : Heap} {locs : List Loc} {pc : Nat} {ls : Array Slot} {rest : List Value} {i : Nat} {x : Int64} (hdg : decode cc pc = .ok (.lload i, 2)) (hl : ls[i]? = some (.val (.long x))) (k : Wq E H locs (pc + 2) ls (.long x :: rest)) : Wq E H locs pc ls (rest) := lv_lload Cx.1 Cx.2.1 hdg hl k
theorem q_aload_n {E : WE} {own : String} {cc : ByteArray} {nL fr lo : Nat} (Cx : CX E own cc nL fr lo) {H : Heap} {locs : List Loc} {pc : Nat} {ls : Array Slot} {rest : List Value} {n : Fin 4} {i : Nat} {x : Nat} (hdg : decode cc pc = .ok (.aload_n n, 1)) (hi : (n : Nat) = i) (hl : ls[i]? = some (.val (.ref x))) (k : Wq E H locs (pc + 1) ls (.ref x :: rest)) : Wq E H locs pc ls (rest) := lv_aload_n Cx.1 Cx.2.1 hdg hi hl k
theorem q_aload {E : WE} {own : String} {cc : ByteArray} {nL fr lo : Nat} (Cx : CX E own cc nL fr lo) {H : Heap} {locs : List Loc} {pc : Nat} {ls : Array Slot} {rest : List Value} {i : Nat} {x : Nat} (hdg : decode cc pc = .ok (.aload i, 2)) (hl : ls[i]? = some (.val (.ref x))) (k : Wq E H locs (pc + 2) ls (.ref x :: rest)) : Wq E H locs pc ls (rest) := lv_aload Cx.1 Cx.2.1 hdg hl k
theorem q_istore_n {E : WE} {own : String} {cc : ByteArray} {nL fr lo : Nat} (Cx : CX E own cc nL fr lo) {H : Heap} {locs : List Loc} {pc : Nat} {ls : Array Slot} {rest : List Value} {n : Fin 4} {i : Nat} {x : Int32} {lv lv' : List (Nat × Value)} (hdg : decode cc pc = .ok (.istore_n n, 1)) (hi : (n : Nat) = i) (h : lv_has ls nL lv) (hn : i < nL) (hl : (i, Value.int x) :: lv.filter (fun q => !(q.1 == i) && !(q.1 + 1 == i && q.2.category == 2)) = lv') (kk : ∀ ls' : Array Slot, lv_has ls' nL lv' → Wq E H locs (pc + 1) ls' rest) : Wq E H locs pc ls (.int x :: rest) := lv_istore_n Cx.1 Cx.2.1 hdg hi h hn hl kk
theorem q_istore {E : WE} {own : String} {cc : ByteArray} {nL fr lo : Nat} (Cx : CX E own cc nL fr lo) {H : Heap} {locs : List Loc} {pc : Nat} {ls : Array Slot} {rest : List Value} {i : Nat} {x : Int32} {lv lv' : List (Nat × Value)} (hdg : decode cc pc = .ok (.istore i, 2)) (h : lv_has ls nL lv) (hn : i < nL) (hl : (i, Value.int x) :: lv.filter (fun q => !(q.1 == i) && !(q.1 + 1 == i && q.2.category == 2)) = lv') (kk : ∀ ls' : Array Slot, lv_has ls' nL lv' → Wq E H locs (pc + 2) ls' rest) : Wq E H locs pc ls (.int x :: rest) := lv_istore Cx.1 Cx.2.1 hdg h hn hl kk
theorem q_astore_n {E : WE} {own : String} {cc : ByteArray} {nL fr lo : Nat} (Cx : CX E own cc nL fr lo) {H : Heap} {locs : List Loc} {pc : Nat} {ls : Array Slot} {rest : List Value} {n : Fin 4} {i : Nat} {x : Nat} {lv lv' : List (Nat × Value)} (hdg : decode cc pc = .ok (.astore_n n, 1)) (hi : (n : Nat) = i) (h : lv_has ls nL lv) (hn : i < nL) (hl : (i, Value.ref x) :: lv.filter (fun q => !(q.1 == i) && !(q.1 + 1 == i && q.2.category == 2)) = lv') (kk : ∀ ls' : Array Slot, lv_has ls' nL lv' → Wq E H locs (pc + 1) ls' rest) : Wq E H locs pc ls (.ref x :: rest) := lv_astore_n Cx.1 Cx.2.1 hdg hi h hn hl kk
theorem q_astore {E : WE} {own : String} {cc : ByteArray} {nL fr lo : Nat} (Cx : CX E own cc nL fr lo) {H : Heap} {locs : List Loc} {pc : Nat} {ls : Array Slot} {rest : List Value} {i : Nat} {x : Nat} {lv lv' : List (Nat × Value)} (hdg : decode cc pc = .ok (.astore i, 2)) (h : lv_has ls nL lv) (hn : i < nL) (hl : (i, Value.ref x) :: lv.filter (fun q => !(q.1 == i) && !(q.1 + 1 == i && q.2.category == 2)) = lv') (kk : ∀ ls' : Array Slot, lv_has ls' nL lv' → Wq E H locs (pc + 2) ls' rest) : Wq E H locs pc ls (.ref x :: rest) := lv_astore Cx.1 Cx.2.1 hdg h hn hl kk
theorem q_lstore_n {E : WE} {own : String} {cc : ByteArray} {nL fr lo : Nat} (Cx : CX E own cc nL fr lo) {H : Heap} {locs : List Loc} {pc : Nat} {ls : Array Slot} {rest : List Value} {n : Fin 4} {i : Nat} {x : Int64} {lv lv' : List (Nat × Value)} (hdg : decode cc pc = .ok (.lstore_n n, 1)) (hi : (n : Nat) = i) (h : lv_has ls nL lv) (hn : i + 1 < nL) (hl : (i, Value.long x) :: lv.filter (fun q => !(q.1 == i) && (!(q.1 == i + 1) && !(q.1 + 1 == i && q.2.category == 2))) = lv') (kk : ∀ ls' : Array Slot, lv_has ls' nL lv' → Wq E H locs (pc + 1) ls' rest) : Wq E H locs pc ls (.long x :: rest) := lv_lstore_n Cx.1 Cx.2.1 hdg hi h hn hl kk
theorem q_lstore {E : WE} {own : String} {cc : ByteArray} {nL fr lo : Nat} (Cx : CX E own cc nL fr lo) {H : Heap} {locs : List Loc} {pc : Nat} {ls : Array Slot} {rest : List Value} {i : Nat} {x : Int64} {lv lv' : List (Nat × Value)} (hdg : decode cc pc = .ok (.lstore i, 2)) (h : lv_has ls nL lv) (hn : i + 1 < nL) (hl : (i, Value.long x) :: lv.filter (fun q => !(q.1 == i) && (!(q.1 == i + 1) && !(q.1 + 1 == i && q.2.category == 2))) = lv') (kk : ∀ ls' : Array Slot, lv_has ls' nL lv' → Wq E H locs (pc + 2) ls' rest) : Wq E H locs pc ls (.long x :: rest) := lv_lstore Cx.1 Cx.2.1 hdg h hn hl kk
theorem q_iinc {E : WE} {own : String} {cc : ByteArray} {nL fr lo : Nat} (Cx : CX E own cc nL fr lo) {H : Heap} {locs : List Loc} {pc : Nat} {ls : Array Slot} {rest : List Value} {i k : Nat} {n : Int} {x v : Int32} {lv lv' : List (Nat × Value)} (hdg : decode cc pc = .ok (.iinc i n, 3)) (h : lv_has ls nL lv) (hk : lv[k]? = some (i, .int x)) (hv : x + Int32.ofInt n = v) (hn : i < nL) (hl : (i, Value.int v) :: lv.filter (fun q => !(q.1 == i) && !(q.1 + 1 == i && q.2.category == 2)) = lv') (kk : ∀ ls' : Array Slot, lv_has ls' nL lv' → Wq E H locs (pc + 3) ls' rest) : Wq E H locs pc ls rest := lv_iinc Cx.1 Cx.2.1 hdg h hk hv hn hl kk
theorem q_iadd {E : WE} {own : String} {cc : ByteArray} {nL fr lo : Nat} (Cx : CX E own cc nL fr lo) {H : Heap} {locs : List Loc} {pc : Nat} {ls : Array Slot} {rest : List Value} {x y : Int32} (hdg : decode cc pc = .ok (.iadd, 1)) (k : Wq E H locs (pc + 1) ls (.int (x + y) :: rest)) : Wq E H locs pc ls (.int y :: .int x :: rest) := lv_iadd Cx.1 Cx.2.1 hdg k
theorem q_isub {E : WE} {own : String} {cc : ByteArray} {nL fr lo : Nat} (Cx : CX E own cc nL fr lo) {H : Heap} {locs : List Loc} {pc : Nat} {ls : Array Slot} {rest : List Value} {x y : Int32} (hdg : decode cc pc = .ok (.isub, 1)) (k : Wq E H locs (pc + 1) ls (.int (x - y) :: rest)) : Wq E H locs pc ls (.int y :: .int x :: rest) := lv_isub Cx.1 Cx.2.1 hdg k
theorem q_imul {E : WE} {own : String} {cc : ByteArray} {nL fr lo : Nat} (Cx : CX E own cc nL fr lo) {H : Heap} {locs : List Loc} {pc : Nat} {ls : Array Slot} {rest : List Value} {x y : Int32} (hdg : decode cc pc = .ok (.imul, 1)) (k : Wq E H locs (pc + 1) ls (.int (x * y) :: rest)) : Wq E H locs pc ls (.int y :: .int x :: rest) := lv_imul Cx.1 Cx.2.1 hdg k
theorem q_iand {E : WE} {own : String} {cc : ByteArray} {nL fr lo : Nat} (Cx : CX E own cc nL fr lo) {H : Heap} {locs : List Loc} {pc : Nat} {ls : Array Slot} {rest : List Value} {x y : Int32} (hdg : decode cc pc = .ok (.iand, 1)) (k : Wq E H locs (pc + 1) ls (.int (x &&& y) :: rest)) : Wq E H locs pc ls (.int y :: .int x :: rest) := lv_iand Cx.1 Cx.2.1 hdg k
theorem q_ior {E : WE} {own : String} {cc : ByteArray} {nL fr lo : Nat} (Cx : CX E own cc nL fr lo) {H : Heap} {locs : List Loc} {pc : Nat} {ls : Array Slot} {rest : List Value} {x y : Int32} (hdg : decode cc pc = .ok (.ior, 1)) (k : Wq E H locs (pc + 1) ls (.int (x ||| y) :: rest)) : Wq E H locs pc ls (.int y :: .int x :: rest) := lv_ior Cx.1 Cx.2.1 hdg k
theorem q_ishl {E : WE} {own : String} {cc : ByteArray} {nL fr lo : Nat} (Cx : CX E own cc nL fr lo) {H : Heap} {locs : List Loc} {pc : Nat} {ls : Array Slot} {rest : List Value} {x y : Int32} (hdg : decode cc pc = .ok (.ishl, 1)) (k : Wq E H locs (pc + 1) ls (.int (x <<< (y &&& 31)) :: rest)) : Wq E H locs pc ls (.int y :: .int x :: rest) := lv_ishl Cx.1 Cx.2.1 hdg k
theorem q_ishr {E : WE} {own : String} {cc : ByteArray} {nL fr lo : Nat} (Cx : CX E own cc nL fr lo) {H : Heap} {locs : List Loc} {pc : Nat} {ls : Array Slot} {rest : List Value} {x y : Int32} (hdg : decode cc pc = .ok (.ishr, 1)) (k : Wq E H locs (pc + 1) ls (.int (x >>> (y &&& 31)) :: rest)) : Wq E H locs pc ls (.int y :: .int x :: rest) := lv_ishr Cx.1 Cx.2.1 hdg k
theorem q_idiv {E : WE} {own : String} {cc : ByteArray} {nL fr lo : Nat} (Cx : CX E own cc nL fr lo) {H : Heap} {locs : List Loc} {pc : Nat} {ls : Array Slot} {rest : List Value} {x y : Int32} (hdg : decode cc pc = .ok (.idiv, 1)) (hne : ¬ y = 0) (k : Wq E H locs (pc + 1) ls (.int (x / y) :: rest)) : Wq E H locs pc ls (.int y :: .int x :: rest) := lv_idiv Cx.1 Cx.2.1 hdg hne k
theorem q_irem {E : WE} {own : String} {cc : ByteArray} {nL fr lo : Nat} (Cx : CX E own cc nL fr lo) {H : Heap} {locs : List Loc} {pc : Nat} {ls : Array Slot} {rest : List Value} {x y : Int32} (hdg : decode cc pc = .ok (.irem, 1)) (hne : ¬ y = 0) (k : Wq E H locs (pc + 1) ls (.int (x - x / y * y) :: rest)) : Wq E H locs pc ls (.int y :: .int x :: rest) := lv_irem Cx.1 Cx.2.1 hdg hne k
theorem q_land {E : WE} {own : String} {cc : ByteArray} {nL fr lo : Nat} (Cx : CX E own cc nL fr lo) {H : Heap} {locs : List Loc} {pc : Nat} {ls : Array Slot} {rest : List Value} {x y : Int64} (hdg : decode cc pc = .ok (.land, 1)) (k : Wq E H locs (pc + 1) ls (.long (x &&& y) :: rest)) : Wq E H locs pc ls (.long y :: .long x :: rest) := lv_land Cx.1 Cx.2.1 hdg k
theorem q_lor {E : WE} {own : String} {cc : ByteArray} {nL fr lo : Nat} (Cx : CX E own cc nL fr lo) {H : Heap} {locs : List Loc} {pc : Nat} {ls : Array Slot} {rest : List Value} {x y : Int64} (hdg : decode cc pc = .ok (.lor, 1)) (k : Wq E H locs (pc + 1) ls (.long (x ||| y) :: rest)) : Wq E H locs pc ls (.long y :: .long x :: rest) := lv_lor Cx.1 Cx.2.1 hdg k
theorem q_lcmp {E : WE} {own : String} {cc : ByteArray} {nL fr lo : Nat} (Cx : CX E own cc nL fr lo) {H : Heap} {locs : List Loc} {pc : Nat} {ls : Array Slot} {rest : List Value} {x y : Int64} (hdg : decode cc pc = .ok (.lcmp, 1)) (k : Wq E H locs (pc + 1) ls (.int (lg_cmp x y) :: rest)) : Wq E H locs pc ls (.long y :: .long x :: rest) := W.lcmp Cx.1 Cx.2.1 hdg k
theorem q_i2l {E : WE} {own : String} {cc : ByteArray} {nL fr lo : Nat} (Cx : CX E own cc nL fr lo) {H : Heap} {locs : List Loc} {pc : Nat} {ls : Array Slot} {rest : List Value} {x : Int32} (hdg : decode cc pc = .ok (.i2l, 1)) (k : Wq E H locs (pc + 1) ls (.long x.toInt64 :: rest)) : Wq E H locs pc ls (.int x :: rest) := lv_i2l Cx.1 Cx.2.1 hdg rfl k
theorem q_l2i {E : WE} {own : String} {cc : ByteArray} {nL fr lo : Nat} (Cx : CX E own cc nL fr lo) {H : Heap} {locs : List Loc} {pc : Nat} {ls : Array Slot} {rest : List Value} {x : Int64} (hdg : decode cc pc = .ok (.l2i, 1)) (k : Wq E H locs (pc + 1) ls (.int x.toInt32 :: rest)) : Wq E H locs pc ls (.long x :: rest) := lv_l2i Cx.1 Cx.2.1 hdg rfl k
theorem q_i2c {E : WE} {own : String} {cc : ByteArray} {nL fr lo : Nat} (Cx : CX E own cc nL fr lo) {H : Heap} {locs : List Loc} {pc : Nat} {ls : Array Slot} {rest : List Value} {x : Int32} (hdg : decode cc pc = .ok (.i2c, 1)) (k : Wq E H locs (pc + 1) ls (.int (x.toUInt32 % 65536).toInt32 :: rest)) : Wq E H locs pc ls (.int x :: rest) := lv_i2c Cx.1 Cx.2.1 hdg rfl k
theorem q_lushr {E : WE} {own : String} {cc : ByteArray} {nL fr lo : Nat} (Cx : CX E own cc nL fr lo) {H : Heap} {locs : List Loc} {pc : Nat} {ls : Array Slot} {rest : List Value} {x : Int64} {y : Int32} (hdg : decode cc pc = .ok (.lushr, 1)) (k : Wq E H locs (pc + 1) ls (.long (x.toUInt64 >>> (y.toInt64.toUInt64 &&& Int64.toUInt64 63)).toInt64 :: rest)) : Wq E H locs pc ls (.int y :: .long x :: rest) := lv_lushr Cx.1 Cx.2.1 hdg rfl k
theorem q_lshl {E : WE} {own : String} {cc : ByteArray} {nL fr lo : Nat} (Cx : CX E own cc nL fr lo) {H : Heap} {locs : List Loc} {pc : Nat} {ls : Array Slot} {rest : List Value} {x : Int64} {y : Int32} (hdg : decode cc pc = .ok (.lshl, 1)) (k : Wq E H locs (pc + 1) ls (.long (x <<< (y.toInt64 &&& 63)) :: rest)) : Wq E H locs pc ls (.int y :: .long x :: rest) := lv_lshl Cx.1 Cx.2.1 hdg rfl k
theorem q_dup {E : WE} {own : String} {cc : ByteArray} {nL fr lo : Nat} (Cx : CX E own cc nL fr lo) {H : Heap} {locs : List Loc} {pc : Nat} {ls : Array Slot} {rest : List Value} {va : Value} (hdg : decode cc pc = .ok (.dup, 1)) (hva : va.category = 1) (k : Wq E H locs (pc + 1) ls (va :: va :: rest)) : Wq E H locs pc ls (va :: rest) := lv_dup Cx.1 Cx.2.1 hdg hva k
theorem q_pop {E : WE} {own : String} {cc : ByteArray} {nL fr lo : Nat} (Cx : CX E own cc nL fr lo) {H : Heap} {locs : List Loc} {pc : Nat} {ls : Array Slot} {rest : List Value} {va : Value} (hdg : decode cc pc = .ok (.pop, 1)) (hva : va.category = 1) (k : Wq E H locs (pc + 1) ls (rest)) : Wq E H locs pc ls (va :: rest) := lv_pop Cx.1 Cx.2.1 hdg hva k
theorem q_dup2 {E : WE} {own : String} {cc : ByteArray} {nL fr lo : Nat} (Cx : CX E own cc nL fr lo) {H : Heap} {locs : List Loc} {pc : Nat} {ls : Array Slot} {rest : List Value} {va vb : Value} (hdg : decode cc pc = .ok (.dup2, 1)) (hva : va.category = 1) (hvb : vb.category = 1) (k : Wq E H locs (pc + 1) ls (va :: vb :: va :: vb :: rest)) : Wq E H locs pc ls (va :: vb :: rest) := lv_dup2_11 Cx.1 Cx.2.1 hdg hva hvb k
theorem q_if_eq {E : WE} {own : String} {cc : ByteArray} {nL fr lo : Nat} (Cx : CX E own cc nL fr lo) {H : Heap} {locs : List Loc} {pc : Nat} {ls : Array Slot} {rest : List Value} {x : Int32} {off : Int} {tgt : Nat} (hdg : decode cc pc = .ok (.ifCond .eq off, 3)) (ht : (pc : Int) + off = (tgt : Int)) (kt : x = 0 → Wq E H locs tgt ls rest) (kf : ¬ x = 0 → Wq E H locs (pc + 3) ls rest) : Wq E H locs pc ls (.int x :: rest) := lv_if_eq Cx.1 Cx.2.1 hdg ht kt kf
theorem q_if_ne {E : WE} {own : String} {cc : ByteArray} {nL fr lo : Nat} (Cx : CX E own cc nL fr lo) {H : Heap} {locs : List Loc} {pc : Nat} {ls : Array Slot} {rest : List Value} {x : Int32} {off : Int} {tgt : Nat} (hdg : decode cc pc = .ok (.ifCond .ne off, 3)) (ht : (pc : Int) + off = (tgt : Int)) (kt : ¬ x = 0 → Wq E H locs tgt ls rest) (kf : x = 0 → Wq E H locs (pc + 3) ls rest) : Wq E H locs pc ls (.int x :: rest) := lv_if_ne Cx.1 Cx.2.1 hdg ht kt kf
theorem q_if_lt {E : WE} {own : String} {cc : ByteArray} {nL fr lo : Nat} (Cx : CX E own cc nL fr lo) {H : Heap} {locs : List Loc} {pc : Nat} {ls : Array Slot} {rest : List Value} {x : Int32} {off : Int} {tgt : Nat} (hdg : decode cc pc = .ok (.ifCond .lt off, 3)) (ht : (pc : Int) + off = (tgt : Int)) (kt : x < 0 → Wq E H locs tgt ls rest) (kf : ¬ x < 0 → Wq E H locs (pc + 3) ls rest) : Wq E H locs pc ls (.int x :: rest) := lv_if_lt Cx.1 Cx.2.1 hdg ht kt kf
theorem q_if_ge {E : WE} {own : String} {cc : ByteArray} {nL fr lo : Nat} (Cx : CX E own cc nL fr lo) {H : Heap} {locs : List Loc} {pc : Nat} {ls : Array Slot} {rest : List Value} {x : Int32} {off : Int} {tgt : Nat} (hdg : decode cc pc = .ok (.ifCond .ge off, 3)) (ht : (pc : Int) + off = (tgt : Int)) (kt : 0 ≤ x → Wq E H locs tgt ls rest) (kf : ¬ 0 ≤ x → Wq E H locs (pc + 3) ls rest) : Wq E H locs pc ls (.int x :: rest) := lv_if_ge Cx.1 Cx.2.1 hdg ht kt kf
theorem q_if_gt {E : WE} {own : String} {cc : ByteArray} {nL fr lo : Nat} (Cx : CX E own cc nL fr lo) {H : Heap} {locs : List Loc} {pc : Nat} {ls : Array Slot} {rest : List Value} {x : Int32} {off : Int} {tgt : Nat} (hdg : decode cc pc = .ok (.ifCond .gt off, 3)) (ht : (pc : Int) + off = (tgt : Int)) (kt : 0 < x → Wq E H locs tgt ls rest) (kf : ¬ 0 < x → Wq E H locs (pc + 3) ls rest) : Wq E H locs pc ls (.int x :: rest) := lv_if_gt Cx.1 Cx.2.1 hdg ht kt kf
theorem q_if_le {E : WE} {own : String} {cc : ByteArray} {nL fr lo : Nat} (Cx : CX E own cc nL fr lo) {H : Heap} {locs : List Loc} {pc : Nat} {ls : Array Slot} {rest : List Value} {x : Int32} {off : Int} {tgt : Nat} (hdg : decode cc pc = .ok (.ifCond .le off, 3)) (ht : (pc : Int) + off = (tgt : Int)) (kt : x ≤ 0 → Wq E H locs tgt ls rest) (kf : ¬ x ≤ 0 → Wq E H locs (pc + 3) ls rest) : Wq E H locs pc ls (.int x :: rest) := lv_if_le Cx.1 Cx.2.1 hdg ht kt kf
theorem q_icmp_eq {E : WE} {own : String} {cc : ByteArray} {nL fr lo : Nat} (Cx : CX E own cc nL fr lo) {H : Heap} {locs : List Loc} {pc : Nat} {ls : Array Slot} {rest : List Value} {x y : Int32} {off : Int} {tgt : Nat} (hdg : decode cc pc = .ok (.if_icmp .eq off, 3)) (ht : (pc : Int) + off = (tgt : Int)) (kt : x = y → Wq E H locs tgt ls rest) (kf : ¬ x = y → Wq E H locs (pc + 3) ls rest) : Wq E H locs pc ls (.int y :: .int x :: rest) := lv_icmp_eq Cx.1 Cx.2.1 hdg ht kt kf
theorem q_icmp_ne {E : WE} {own : String} {cc : ByteArray} {nL fr lo : Nat} (Cx : CX E own cc nL fr lo) {H : Heap} {locs : List Loc} {pc : Nat} {ls : Array Slot} {rest : List Value} {x y : Int32} {off : Int} {tgt : Nat} (hdg : decode cc pc = .ok (.if_icmp .ne off, 3)) (ht : (pc : Int) + off = (tgt : Int)) (kt : ¬ x = y → Wq E H locs tgt ls rest) (kf : x = y → Wq E H locs (pc + 3) ls rest) : Wq E H locs pc ls (.int y :: .int x :: rest) := lv_icmp_ne Cx.1 Cx.2.1 hdg ht kt kf
theorem q_icmp_lt {E : WE} {own : String} {cc : ByteArray} {nL fr lo : Nat} (Cx : CX E own cc nL fr lo) {H : Heap} {locs : List Loc} {pc : Nat} {ls : Array Slot} {rest : List Value} {x y : Int32} {off : Int} {tgt : Nat} (hdg : decode cc pc = .ok (.if_icmp .lt off, 3)) (ht : (pc : Int) + off = (tgt : Int)) (kt : x < y → Wq E H locs tgt ls rest) (kf : ¬ x < y → Wq E H locs (pc + 3) ls rest) : Wq E H locs pc ls (.int y :: .int x :: rest) := lv_icmp_lt Cx.1 Cx.2.1 hdg ht kt kf
theorem q_icmp_ge {E : WE} {own : String} {cc : ByteArray} {nL fr lo : Nat} (Cx : CX E own cc nL fr lo) {H : Heap} {locs : List Loc} {pc : Nat} {ls : Array Slot} {rest : List Value} {x y : Int32} {off : Int} {tgt : Nat} (hdg : decode cc pc = .ok (.if_icmp .ge off, 3)) (ht : (pc : Int) + off = (tgt : Int)) (kt : y ≤ x → Wq E H locs tgt ls rest) (kf : ¬ y ≤ x → Wq E H locs (pc + 3) ls rest) : Wq E H locs pc ls (.int y :: .int x :: rest) := lv_icmp_ge Cx.1 Cx.2.1 hdg ht kt kf
theorem q_icmp_gt {E : WE} {own : String} {cc : ByteArray} {nL fr lo : Nat} (Cx : CX E own cc nL fr lo) {H : Heap} {locs : List Loc} {pc : Nat} {ls : Array Slot} {rest : List Value} {x y : Int32} {off : Int} {tgt : Nat} (hdg : decode cc pc = .ok (.if_icmp .gt off, 3)) (ht : (pc : Int) + off = (tgt : Int)) (kt : y < x → Wq E H locs tgt ls rest) (kf : ¬ y < x → Wq E H locs (pc + 3) ls rest) : Wq E H locs pc ls (.int y :: .int x :: rest) := lv_icmp_gt Cx.1 Cx.2.1 hdg ht kt kf
theorem q_icmp_le {E : WE} {own : String} {cc : ByteArray} {nL fr lo : Nat} (Cx : CX E own cc nL fr lo) {H : Heap} {locs : List Loc} {pc : Nat} {ls : Array Slot} {rest : List Value} {x y : Int32} {off : Int} {tgt : Nat} (hdg : decode cc pc = .ok (.if_icmp .le off, 3)) (ht : (pc : Int) + off = (tgt : Int)) (kt : x ≤ y → Wq E H locs tgt ls rest) (kf : ¬ x ≤ y → Wq E H locs (pc + 3) ls rest) : Wq E H locs pc ls (.int y :: .int x :: rest) := lv_icmp_le Cx.1 Cx.2.1 hdg ht kt kf
theorem q_goto {E : WE} {own : String} {cc : ByteArray} {nL fr lo : Nat} (Cx : CX E own cc nL fr lo) {H : Heap} {locs : List Loc} {pc : Nat} {ls : Array Slot} {rest : List Value} {off : Int} {tgt : Nat} (hdg : decode cc pc = .ok (.goto off, 3)) (ht : (pc : Int) + off = (tgt : Int)) (k : Wq E H locs tgt ls rest) : Wq E H locs pc ls rest := lv_goto Cx.1 Cx.2.1 hdg ht k
theorem q_ifnull {E : WE} {own : String} {cc : ByteArray} {nL fr lo : Nat} (Cx : CX E own cc nL fr lo) {H : Heap} {locs : List Loc} {pc : Nat} {ls : Array Slot} {rest : List Value} {x : Nat} {off : Int} (hdg : decode cc pc = .ok (.ifnull off, 3)) (k : Wq E H locs (pc + 3) ls rest) : Wq E H locs pc ls (.ref x :: rest) := lv_ifnull Cx.1 Cx.2.1 hdg k
theorem q_ifnonnull {E : WE} {own : String} {cc : ByteArray} {nL fr lo : Nat} (Cx : CX E own cc nL fr lo) {H : Heap} {locs : List Loc} {pc : Nat} {ls : Array Slot} {rest : List Value} {x : Nat} {off : Int} {tgt : Nat} (hdg : decode cc pc = .ok (.ifnonnull off, 3)) (ht : (pc : Int) + off = (tgt : Int)) (k : Wq E H locs tgt ls rest) : Wq E H locs pc ls (.ref x :: rest) := lv_ifnonnull Cx.1 Cx.2.1 hdg ht k
theorem q_lookup {E : WE} {own : String} {cc : ByteArray} {nL fr lo : Nat} (Cx : CX E own cc nL fr lo) {H : Heap} {locs : List Loc} {pc : Nat} {ls : Array Slot} {rest : List Value} {dflt : Int} {ps : Array (Int × Int)} {len : Nat} {x : Int32} {off : Int} {tgt : Nat} (hdg : decode cc pc = .ok (.lookupswitch dflt ps, len)) (hp : (ps.toList.zip (ps.toList.drop 1)).all (fun (a, next) => a.1 < next.1) = true) (ho : Op.lookupswitch.offset ps.toList dflt x.toInt = off) (ht : (pc : Int) + off = (tgt : Int)) (k : Wq E H locs tgt ls rest) : Wq E H locs pc ls (.int x :: rest) := lv_lookup Cx.1 Cx.2.1 hdg hp ho ht k
theorem q_tableOut {E : WE} {own : String} {cc : ByteArray} {nL fr lo : Nat} (Cx : CX E own cc nL fr lo) {H : Heap} {locs : List Loc} {pc : Nat} {ls : Array Slot} {rest : List Value} {dflt l0 hi : Int} {offs : Array Int} {len : Nat} {x : Int32} {tgt : Nat} (hdg : decode cc pc = .ok (.tableswitch dflt l0 hi offs, len)) (h : x.toInt < l0 ∨ hi < x.toInt) (ht : (pc : Int) + dflt = (tgt : Int)) (k : Wq E H locs tgt ls rest) : Wq E H locs pc ls (.int x :: rest) := lv_tableOut Cx.1 Cx.2.1 hdg h ht k
theorem q_tableIn {E : WE} {own : String} {cc : ByteArray} {nL fr lo : Nat} (Cx : CX E own cc nL fr lo) {H : Heap} {locs : List Loc} {pc : Nat} {ls : Array Slot} {rest : List Value} {dflt l0 hi : Int} {offs : Array Int} {len : Nat} {x : Int32} {off : Int} {tgt : Nat} (hdg : decode cc pc = .ok (.tableswitch dflt l0 hi offs, len)) (h1 : ¬ x.toInt < l0) (h2 : ¬ hi < x.toInt) (ho : offs[(x.toInt - l0).toNat]? = some off) (ht : (pc : Int) + off = (tgt : Int)) (k : Wq E H locs tgt ls rest) : Wq E H locs pc ls (.int x :: rest) := lv_tableIn Cx.1 Cx.2.1 hdg h1 h2 ho ht k
/-! the heap -/
def isI (j o n t : Nat) : Prop := isPl j o ∧ ∀ (V : VT) (M : Mem), ∃ (cA : ClassId) (ty : FieldType), (vT V)[t]? = some (cA, ty) ∧ cellOf V M (j, o) = .inl (cA, n, .inl (M j o))
/-- an object's cell: its class, its fields -/
def isO (V : VT) (j o ci : Nat) (fs : Blk → List Value) : Prop := isPl j o ∧ ∀ (M : Mem), cellOf V M (j, o) = .inr (ci, fs (M j))
theorem isI_M0 {j o : Nat} (hj : j < 11) (h : o < 21) {n : Nat} (hc : ∀ (V : VT) (B : Blk), cellM V j B o = .inl (vI V, n, .inl (B o))) : isI j o n 0 := ⟨pl_M hj h, fun V M => ⟨vI V, .int, rfl, by unfold cellOf; dsimp only; rw [if_pos hj]; exact hc V _⟩⟩
theorem ai_3 {j : Nat} (hj : j < 11) : isI j 3 24 0 := isI_M0 hj (by decide) (fun _ _ => rfl)
theorem ai_4 {j : Nat} (hj : j < 11) : isI j 4 24 0 := isI_M0 hj (by decide) (fun _ _ => rfl)
theorem ai_5 {j : Nat} (hj : j < 11) : isI j 5 24 0 := isI_M0 hj (by decide) (fun _ _ => rfl)
theorem ai_6 {j : Nat} (hj : j < 11) : isI j 6 24 0 := isI_M0 hj (by decide) (fun _ _ => rfl)
theorem ai_7 {j : Nat} (hj : j < 11) : isI j 7 24 0 := isI_M0 hj (by decide) (fun _ _ => rfl)
theorem ai_8 {j : Nat} (hj : j < 11) : isI j 8 96 0 := isI_M0 hj (by decide) (fun _ _ => rfl)
theorem ai_9 {j : Nat} (hj : j < 11) : isI j 9 4 0 := isI_M0 hj (by decide) (fun _ _ => rfl)
theorem ai_10 {j : Nat} (hj : j < 11) : isI j 10 4 0 := isI_M0 hj (by decide) (fun _ _ => rfl)
theorem ai_11 {j : Nat} (hj : j < 11) : isI j 11 24 0 := isI_M0 hj (by decide) (fun _ _ => rfl)
theorem ai_12 {j : Nat} (hj : j < 11) : isI j 12 40 0 := isI_M0 hj (by decide) (fun _ _ => rfl)
theorem ai_13 {j : Nat} (hj : j < 11) : isI j 13 40 0 := isI_M0 hj (by decide) (fun _ _ => rfl)
theorem ai_14 {j : Nat} (hj : j < 11) : isI j 14 40 0 := isI_M0 hj (by decide) (fun _ _ => rfl)
theorem ai_15 {j : Nat} (hj : j < 11) : isI j 15 40 0 := isI_M0 hj (by decide) (fun _ _ => rfl)
theorem ai_16 {j : Nat} (hj : j < 11) : isI j 16 24 0 := isI_M0 hj (by decide) (fun _ _ => rfl)
theorem ai_17 {j : Nat} (hj : j < 11) : isI j 17 24 0 := isI_M0 hj (by decide) (fun _ _ => rfl)
theorem ai_18 {j : Nat} (hj : j < 11) : isI j 18 24 0 := isI_M0 hj (by decide) (fun _ _ => rfl)
theorem ai_19 {j : Nat} (hj : j < 11) : isI j 19 24 0 := isI_M0 hj (by decide) (fun _ _ => rfl)
theorem ai_20 {j : Nat} (hj : j < 11) : isI j 20 24 0 := isI_M0 hj (by decide) (fun _ _ => rfl)
theorem ax_2 : isI 11 2 2 1 := ⟨pl_X (by decide), fun V M => ⟨vZ V, .boolean, rfl, rfl⟩⟩
theorem ax_6 : isI 11 6 80 2 := ⟨pl_X (by decide), fun V M => ⟨vC V, .char, rfl, rfl⟩⟩
theorem ax_7 : isI 11 7 5 0 := ⟨pl_X (by decide), fun V M => ⟨vI V, .int, rfl, rfl⟩⟩
theorem az_1 : isI 12 1 356 0 := ⟨pl_Z (by decide), fun V M => ⟨vI V, .int, rfl, rfl⟩⟩
theorem az_2 : isI 12 2 2136 0 := ⟨pl_Z (by decide), fun V M => ⟨vI V, .int, rfl, rfl⟩⟩
theorem az_3 : isI 12 3 712 0 := ⟨pl_Z (by decide), fun V M => ⟨vI V, .int, rfl, rfl⟩⟩
theorem az_4 : isI 12 4 2 1 := ⟨pl_Z (by decide), fun V M => ⟨vZ V, .boolean, rfl, rfl⟩⟩
theorem az_5 : isI 12 5 356 0 := ⟨pl_Z (by decide), fun V M => ⟨vI V, .int, rfl, rfl⟩⟩
theorem az_6 : isI 12 6 80 2 := ⟨pl_Z (by decide), fun V M => ⟨vC V, .char, rfl, rfl⟩⟩
theorem az_7 : isI 12 7 24 0 := ⟨pl_Z (by decide), fun V M => ⟨vI V, .int, rfl, rfl⟩⟩
theorem az_8 : isI 12 8 24 0 := ⟨pl_Z (by decide), fun V M => ⟨vI V, .int, rfl, rfl⟩⟩
theorem az_9 : isI 12 9 24 0 := ⟨pl_Z (by decide), fun V M => ⟨vI V, .int, rfl, rfl⟩⟩
theorem az_10 : isI 12 10 24 0 := ⟨pl_Z (by decide), fun V M => ⟨vI V, .int, rfl, rfl⟩⟩
theorem az_11 : isI 12 11 252 0 := ⟨pl_Z (by decide), fun V M => ⟨vI V, .int, rfl, rfl⟩⟩
theorem oM {V : VT} {j : Nat} (hj : j < 11) : isO V j 0 2 (fun B => [.ref (vA V j 1), .ref (vA V j 2), .int (B 0 2), .int (B 0 3), .ref (vA V j 16), .ref (vA V j 17), .ref (vA V j 18), .ref (vA V j 19), .ref (vA V j 20)]) := ⟨pl_M hj (by decide), fun M => by unfold cellOf; dsimp only; rw [if_pos hj]; rfl⟩
theorem oP {V : VT} {j : Nat} (hj : j < 11) : isO V j 1 4 (fun B => [.int (B 1 0), .ref (vA V j 3), .ref (vA V j 4), .ref (vA V j 5), .ref (vA V j 6), .ref (vA V j 7), .ref (vA V j 8), .ref (vA V j 9), .ref (vA V j 10), .ref (vA V j 11)]) := ⟨pl_M hj (by decide), fun M => by unfold cellOf; dsimp only; rw [if_pos hj]; rfl⟩
theorem oC {V : VT} {j : Nat} (hj : j < 11) : isO V j 2 0 (fun B => [.int (B 2 0), .ref (vA V j 12), .ref (vA V j 13), .ref (vA V j 14), .ref (vA V j 15)]) := ⟨pl_M hj (by decide), fun M => by unfold cellOf; dsimp only; rw [if_pos hj]; rfl⟩
theorem oX {V : VT} : isO V 11 0 5 (fun _ => [.ref (vA V 0 0), .ref (vA V 1 0), .ref (vA V 11 3), .ref (vA V 11 1), .ref (vA V 11 2), .ref (vA V 11 5)]) := ⟨pl_X (by decide), fun _ => rfl⟩
theorem oH {V : VT} : isO V 11 3 1 (fun B => [.ref (vA V 11 4), .int (B 3 1), .int (B 3 2)]) := ⟨pl_X (by decide), fun _ => rfl⟩
theorem oQ {V : VT} : isO V 11 5 3 (fun B => [.ref (vA V 11 6), .int (B 5 1), .int (B 5 2), .int (B 5 3), .ref (vA V 11 7), .int (B 5 5)]) := ⟨pl_X (by decide), fun _ => rfl⟩
theorem oZ {V : VT} : isO V 12 0 6 (fun B => [.ref (vA V 12 1), .ref (vA V 12 2), .ref (vA V 12 3), .ref (vA V 12 4), .ref (vA V 12 5), .int (B 0 5), .int (B 0 6), .ref (vA V 12 6), .int (B 0 8), .ref (vA V 12 7), .ref (vA V 12 8), .int (B 0 11), .int (B 0 12), .ref (vA V 12 9), .ref (vA V 12 10), .ref (vA V 12 11), .int (B 0 16), .int (B 0 17), .int (B 0 18)]) := ⟨pl_Z (by decide), fun _ => rfl⟩
/-- a class of the world: its number, name, fields -/
def isC (ci : Nat) (C : String) (T : u_T) (N : Nat) (ty : Nat → FieldType) : Prop := vwCl[ci]? = some (C, T, N) ∧ (∀ w ∈ u_ws C T N, w ∈ lw_gd) ∧ (∀ k, k < N → parseFieldDescriptor (T k).2.2.1 = some (ty k)) ∧ (∀ a, a < N → ∀ b, b < N → a ≠ b → (T a).2.1 ≠ (T b).2.1)
theorem ic0 : isC 0 RX0 TX0 5 tyX0 := ⟨rfl, gd_X0, tyX0_ok, nmX0⟩
theorem ic1 : isC 1 RX1 TX1 3 tyX1 := ⟨rfl, gd_X1, tyX1_ok, nmX1⟩
theorem ic2 : isC 2 RX2 TX2 9 tyX2 := ⟨rfl, gd_X2, tyX2_ok, nmX2⟩
theorem ic3 : isC 3 RX3 TX3 6 tyX3 := ⟨rfl, gd_X3, tyX3_ok, nmX3⟩
theorem ic4 : isC 4 RX4 TX4 10 tyX4 := ⟨rfl, gd_X4, tyX4_ok, nmX4⟩
theorem ic5 : isC 5 RX5 TX5 6 tyX5 := ⟨rfl, gd_X5, tyX5_ok, nmX5⟩
theorem ic6 : isC 6 RX6 TX6 19 tyX6 := ⟨rfl, gd_X6, tyX6_ok, nmX6⟩
/-- a field is read: 'v' is what the cell's list holds -/
theorem q_get {E : WE} {own : String} {cc : ByteArray} {nL fr lo : Nat} (Cx : CX E own cc nL fr lo) {H : Heap} {locs : List Loc} {pc : Nat} {ls : Array Slot} {rest : List Value} {V : VT} {A : Nat → Prop} {H0 : Heap} {M : Mem} (hW : Wd V A H0 M (eS E) H locs) {j o ci : Nat} {fs : Blk → List Value} (ho : isO V j o ci fs) {C : String} {T : u_T} {N : Nat} {ty : Nat → FieldType} (hc : isC ci C T N ty) (k : Nat) {v : Value} (hk : k < N) (hv : (fs (M j))[k]? = some v) {index : Nat} (hlink : Cond.fieldLink own index (T k).1 (T k).2.1 (T k).2.2.1 ∈ lw_gd) (hdg : decode cc pc = .ok (.getfield index, 3)) (kk : Wq E H locs (pc + 3) ls (v :: rest)) : Wq E H locs pc ls (.ref (vA V j o) :: rest) := by
  obtain ⟨hK, hP, hD, hS⟩ := hW
  obtain ⟨⟨i, hi⟩, hcell⟩ := ho
  exact va_get (D := vD V) (cl := vwCl) (ws := wsOf V M) (C := C) (T := T) (N := N) (ci := ci) (own := own) (Ts := lw_gd) Cx.1 Cx.2.1 Cx.2.2.2.2.1 hc.2.1 Cx.2.2.2.1 hK hP i ((ws_at hi).trans (by rw [hcell])) hc.1 k hk (Cx.2.2.2.2.1 _ hlink) (fun _ h => h) hv hdg kk
/-- a field is written -/
theorem q_put {E : WE} {own : String} {cc : ByteArray} {nL fr lo : Nat} (Cx : CX E own cc nL fr lo) {H : Heap} {locs : List Loc} {pc : Nat} {ls : Array Slot} {rest : List Value} {V : VT} {A : Nat → Prop} {H0 : Heap} {M : Mem} (hW : Wd V A H0 M (eS E) H locs) {j o ci : Nat} {fs : Blk → List Value} (ho : isO V j o ci fs) {C : String} {T : u_T} {N : Nat} {ty : Nat → FieldType} (hc : isC ci C T N ty) (k : Nat) {v : Int32} {B' : Blk} (hk : k < N) (hlen : k < (fs (M j)).length) (hB : ∀ o', o' ≠ o → B' o' = M j o') (hset : (fs (M j)).set k (.int v) = fs B') (hfin : (T k).2.2.2 = false) (hty : narrow (ty k) (.int v) = .int v ∧ fits (ty k) (.int v) = true) {index : Nat} (hlink : Cond.fieldLink own index (T k).1 (T k).2.1 (T k).2.2.1 ∈ lw_gd) (hdg : decode cc pc = .ok (.putfield index, 3)) (kk : ∀ (H1 : Heap) (locs1 : List Loc), Wd V A H0 (jb M j B') (eS E) H1 locs1 → Wq E H1 locs1 (pc + 3) ls rest) : Wq E H locs pc ls (.int v :: .ref (vA V j o) :: rest) := by
  obtain ⟨hK, hP, hD, hS⟩ := hW
  obtain ⟨⟨i, hi⟩, hcell⟩ := ho
  have e1 : (wsOf V M).set i (vA V j o, .inr (ci, (fs (M j)).set k (.int v))) = wsOf V (jb M j B') := by
    rw [hset, ← ws_set hi (jb_off hB), hcell (jb M j B'), jb_at]
  refine va_put (D := vD V) (cl := vwCl) (ws := wsOf V M) (C := C) (T := T) (N := N) (ci := ci) (own := own) (Ts := lw_gd) Cx.1 Cx.2.1 Cx.2.2.2.2.1 hc.2.1 ty hc.2.2.1 hc.2.2.2 Cx.2.2.2.1 hK hP hD hS i ((ws_at hi).trans (by rw [hcell])) hc.1 k hk (Cx.2.2.2.2.1 _ hlink) (fun _ h => h) hfin (hc.2.2.1 k hk) hty.1 hty.2 hlen hdg (fun H1 locs1 hP1 hD1 hS1 => ?_)
  rw [e1] at hP1 hD1
  exact kk H1 locs1 ⟨hK, hP1, hD1, hS1⟩
theorem isI_at {j o n t : Nat} {V : VT} {M : Mem} (h : isI j o n t) : ∃ (i : Nat) (cA : ClassId) (ty : FieldType), (vT V)[t]? = some (cA, ty) ∧ (wsOf V M)[i]? = some (vA V j o, .inl (cA, n, .inl (M j o))) ∧ ∀ (f : Nat → Int32), (wsOf V M).set i (vA V j o, .inl (cA, n, .inl f)) = wsOf V (jb M j (bc (M j) o f)) := by
  obtain ⟨⟨i, hi⟩, hc⟩ := h
  obtain ⟨cA, ty, h1, h2⟩ := hc V M
  refine ⟨i, cA, ty, h1, (ws_at hi).trans (by rw [h2]), fun f => ?_⟩
  rw [← ws_set hi (jb_off (M := M) (j := j) (o := o) (B := bc (M j) o f) (fun o' ho => bc_ne ho))]
  obtain ⟨cA2, ty2, h3, h4⟩ := hc V (jb M j (bc (M j) o f))
  have e : cA2 = cA := by rw [h1] at h3; cases h3; rfl
  rw [h4, e, jb_at, bc_at]
theorem bc_upd {B : Blk} {o k : Nat} {x : Int32} : bc B o (upd (B o) k x) = bs B o k x := rfl
theorem q_iald {E : WE} {own : String} {cc : ByteArray} {nL fr lo : Nat} (Cx : CX E own cc nL fr lo) {H : Heap} {locs : List Loc} {pc : Nat} {ls : Array Slot} {rest : List Value} {V : VT} {A : Nat → Prop} {H0 : Heap} {M : Mem} (hW : Wd V A H0 M (eS E) H locs) {j o n : Nat} (ho : isI j o n 0) {i v : Int32} (hin : vp_in i n) (hv : v = M j o i.toNatClampNeg) (hdg : decode cc pc = .ok (.iaload, 1)) (kk : Wq E H locs (pc + 1) ls (.int v :: rest)) : Wq E H locs pc ls (.int i :: .ref (vA V j o) :: rest) := by
  obtain ⟨hK, hP, hD, hS⟩ := hW
  obtain ⟨p, cA, ty, h1, h2, -⟩ := isI_at (V := V) (M := M) ho
  cases h1
  subst hv
  exact va_iald (D := vD V) (cl := vwCl) (tys := vT V) (ws := wsOf V M) Cx.1 Cx.2.1 hK hP p 0 h2 rfl hin hdg kk
theorem q_zald {E : WE} {own : String} {cc : ByteArray} {nL fr lo : Nat} (Cx : CX E own cc nL fr lo) {H : Heap} {locs : List Loc} {pc : Nat} {ls : Array Slot} {rest : List Value} {V : VT} {A : Nat → Prop} {H0 : Heap} {M : Mem} (hW : Wd V A H0 M (eS E) H locs) {j o n : Nat} (ho : isI j o n 1) {i v : Int32} (hin : vp_in i n) (hv : v = M j o i.toNatClampNeg) (hdg : decode cc pc = .ok (.baload, 1)) (kk : Wq E H locs (pc + 1) ls (.int v :: rest)) : Wq E H locs pc ls (.int i :: .ref (vA V j o) :: rest) := by
  obtain ⟨hK, hP, hD, hS⟩ := hW
  obtain ⟨p, cA, ty, h1, h2, -⟩ := isI_at (V := V) (M := M) ho
  cases h1
  subst hv
  exact va_zald (D := vD V) (cl := vwCl) (tys := vT V) (ws := wsOf V M) Cx.1 Cx.2.1 hK hP p 1 h2 rfl hin hdg kk
theorem q_cald {E : WE} {own : String} {cc : ByteArray} {nL fr lo : Nat} (Cx : CX E own cc nL fr lo) {H : Heap} {locs : List Loc} {pc : Nat} {ls : Array Slot} {rest : List Value} {V : VT} {A : Nat → Prop} {H0 : Heap} {M : Mem} (hW : Wd V A H0 M (eS E) H locs) {j o n : Nat} (ho : isI j o n 2) {i v : Int32} (hin : vp_in i n) (hv : v = M j o i.toNatClampNeg) (hdg : decode cc pc = .ok (.caload, 1)) (kk : Wq E H locs (pc + 1) ls (.int v :: rest)) : Wq E H locs pc ls (.int i :: .ref (vA V j o) :: rest) := by
  obtain ⟨hK, hP, hD, hS⟩ := hW
  obtain ⟨p, cA, ty, h1, h2, -⟩ := isI_at (V := V) (M := M) ho
  cases h1
  subst hv
  exact va_cald (D := vD V) (cl := vwCl) (tys := vT V) (ws := wsOf V M) Cx.1 Cx.2.1 hK hP p 2 h2 rfl hin hdg kk
theorem q_iast {E : WE} {own : String} {cc : ByteArray} {nL fr lo : Nat} (Cx : CX E own cc nL fr lo) {H : Heap} {locs : List Loc} {pc : Nat} {ls : Array Slot} {rest : List Value} {V : VT} {A : Nat → Prop} {H0 : Heap} {M : Mem} (hW : Wd V A H0 M (eS E) H locs) {j o n : Nat} (ho : isI j o n 0) {i x : Int32} (hin : vp_in i n) {B' : Blk} (hB : B' = bs (M j) o i.toNatClampNeg x) (hdg : decode cc pc = .ok (.iastore, 1)) (kk : ∀ (H1 : Heap) (locs1 : List Loc), Wd V A H0 (jb M j B') (eS E) H1 locs1 → Wq E H1 locs1 (pc + 1) ls rest) : Wq E H locs pc ls (.int x :: .int i :: .ref (vA V j o) :: rest) := by
  obtain ⟨hK, hP, hD, hS⟩ := hW
  obtain ⟨p, cA, ty, h1, h2, h3⟩ := isI_at (V := V) (M := M) ho
  cases h1
  refine va_iast (D := vD V) (cl := vwCl) (tys := vT V) (ws := wsOf V M) Cx.1 Cx.2.1 hK hP hD hS p 0 h2 rfl hin hdg (fun H1 locs1 hP1 hD1 hS1 => ?_)
  rw [h3, bc_upd, ← hB] at hP1 hD1
  exact kk H1 locs1 ⟨hK, hP1, hD1, hS1⟩
theorem q_zast {E : WE} {own : String} {cc : ByteArray} {nL fr lo : Nat} (Cx : CX E own cc nL fr lo) {H : Heap} {locs : List Loc} {pc : Nat} {ls : Array Slot} {rest : List Value} {V : VT} {A : Nat → Prop} {H0 : Heap} {M : Mem} (hW : Wd V A H0 M (eS E) H locs) {j o n : Nat} (ho : isI j o n 1) {i x : Int32} (hin : vp_in i n) {B' : Blk} (hB : B' = bs (M j) o i.toNatClampNeg (vp_nar .boolean x)) (hdg : decode cc pc = .ok (.bastore, 1)) (kk : ∀ (H1 : Heap) (locs1 : List Loc), Wd V A H0 (jb M j B') (eS E) H1 locs1 → Wq E H1 locs1 (pc + 1) ls rest) : Wq E H locs pc ls (.int x :: .int i :: .ref (vA V j o) :: rest) := by
  obtain ⟨hK, hP, hD, hS⟩ := hW
  obtain ⟨p, cA, ty, h1, h2, h3⟩ := isI_at (V := V) (M := M) ho
  cases h1
  refine va_zast (D := vD V) (cl := vwCl) (tys := vT V) (ws := wsOf V M) Cx.1 Cx.2.1 hK hP hD hS p 1 h2 rfl hin hdg (fun H1 locs1 hP1 hD1 hS1 => ?_)
  rw [h3, bc_upd, ← hB] at hP1 hD1
  exact kk H1 locs1 ⟨hK, hP1, hD1, hS1⟩
theorem q_cast {E : WE} {own : String} {cc : ByteArray} {nL fr lo : Nat} (Cx : CX E own cc nL fr lo) {H : Heap} {locs : List Loc} {pc : Nat} {ls : Array Slot} {rest : List Value} {V : VT} {A : Nat → Prop} {H0 : Heap} {M : Mem} (hW : Wd V A H0 M (eS E) H locs) {j o n : Nat} (ho : isI j o n 2) {i x : Int32} (hin : vp_in i n) {B' : Blk} (hB : B' = bs (M j) o i.toNatClampNeg (vp_nar .char x)) (hdg : decode cc pc = .ok (.castore, 1)) (kk : ∀ (H1 : Heap) (locs1 : List Loc), Wd V A H0 (jb M j B') (eS E) H1 locs1 → Wq E H1 locs1 (pc + 1) ls rest) : Wq E H locs pc ls (.int x :: .int i :: .ref (vA V j o) :: rest) := by
  obtain ⟨hK, hP, hD, hS⟩ := hW
  obtain ⟨p, cA, ty, h1, h2, h3⟩ := isI_at (V := V) (M := M) ho
  cases h1
  refine va_cast (D := vD V) (cl := vwCl) (tys := vT V) (ws := wsOf V M) Cx.1 Cx.2.1 hK hP hD hS p 2 h2 rfl hin hdg (fun H1 locs1 hP1 hD1 hS1 => ?_)
  rw [h3, bc_upd, ← hB] at hP1 hD1
  exact kk H1 locs1 ⟨hK, hP1, hD1, hS1⟩
theorem q_alen {E : WE} {own : String} {cc : ByteArray} {nL fr lo : Nat} (Cx : CX E own cc nL fr lo) {H : Heap} {locs : List Loc} {pc : Nat} {ls : Array Slot} {rest : List Value} {V : VT} {A : Nat → Prop} {H0 : Heap} {M : Mem} (hW : Wd V A H0 M (eS E) H locs) {j o n : Nat} (ho : isI j o n 0) {v : Int32} (hv : Int32.ofNat n = v) (hdg : decode cc pc = .ok (.arraylength, 1)) (kk : Wq E H locs (pc + 1) ls (.int v :: rest)) : Wq E H locs pc ls (.ref (vA V j o) :: rest) := by
  obtain ⟨hK, hP, hD, hS⟩ := hW
  obtain ⟨p, cA, ty, h1, h2, -⟩ := isI_at (V := V) (M := M) ho
  cases h1
  exact va_alen (D := vD V) (cl := vwCl) (tys := vT V) (ws := wsOf V M) Cx.1 Cx.2.1 hK hP p 0 h2 rfl hv hdg kk
/-- the rows of references: slots (11, 1), ring (11, 4) -/
def isR (o n b : Nat) : Prop := isPl 11 o ∧ ∀ (V : VT) (M : Mem), cellOf V M (11, o) = .inl (vM V, n, .inr (.inr (.inr (.inr (fun i => some (vA V (b + i) 0))))))
theorem ar_1 : isR 1 2 2 := ⟨pl_X (by decide), fun _ _ => rfl⟩
theorem ar_4 : isR 4 7 4 := ⟨pl_X (by decide), fun _ _ => rfl⟩
theorem q_aald {E : WE} {own : String} {cc : ByteArray} {nL fr lo : Nat} (Cx : CX E own cc nL fr lo) {H : Heap} {locs : List Loc} {pc : Nat} {ls : Array Slot} {rest : List Value} {V : VT} {A : Nat → Prop} {H0 : Heap} {M : Mem} (hW : Wd V A H0 M (eS E) H locs) {o n b : Nat} (ho : isR o n b) {i : Int32} (hin : vp_in i n) (hdg : decode cc pc = .ok (.aaload, 1)) (kk : Wq E H locs (pc + 1) ls (.ref (vA V (b + i.toNatClampNeg) 0) :: rest)) : Wq E H locs pc ls (.int i :: .ref (vA V 11 o) :: rest) := by
  obtain ⟨hK, hP, hD, hS⟩ := hW
  obtain ⟨⟨p, hp⟩, hc⟩ := ho
  exact va_aldq (D := vD V) (cl := vwCl) (tys := vT V) (ws := wsOf V M) Cx.1 Cx.2.1 hK hP p 3 (f := fun i => some (vA V (b + i) 0)) (C := "SlackMarket$Market") ((ws_at hp).trans (by rw [hc])) rfl hin hdg kk
theorem q_alenR {E : WE} {own : String} {cc : ByteArray} {nL fr lo : Nat} (Cx : CX E own cc nL fr lo) {H : Heap} {locs : List Loc} {pc : Nat} {ls : Array Slot} {rest : List Value} {V : VT} {A : Nat → Prop} {H0 : Heap} {M : Mem} (hW : Wd V A H0 M (eS E) H locs) {o n b : Nat} (ho : isR o n b) {v : Int32} (hv : Int32.ofNat n = v) (hdg : decode cc pc = .ok (.arraylength, 1)) (kk : Wq E H locs (pc + 1) ls (.int v :: rest)) : Wq E H locs pc ls (.ref (vA V 11 o) :: rest) := by
  obtain ⟨hK, hP, hD, hS⟩ := hW
  obtain ⟨⟨p, hp⟩, hc⟩ := ho
  exact va_alen (D := vD V) (cl := vwCl) (tys := vT V) (ws := wsOf V M) Cx.1 Cx.2.1 hK hP p 3 ((ws_at hp).trans (by rw [hc])) rfl hv hdg kk
theorem q_max {E : WE} {own : String} {cc : ByteArray} {nL fr lo : Nat} (Cx : CX E own cc nL fr lo) {H : Heap} {locs : List Loc} {pc : Nat} {ls : Array Slot} {rest : List Value} {x y v : Int32} {index : Nat} (hlink : Cond.methodLink own index Lib.Math.max.name ∈ lw_gd) (hstat : Cond.static Lib.Math.max.name ∈ lw_gd) (hini : Cond.initialized "java/lang/Math" ∈ lw_gd) (hcode : Cond.code Lib.Math.max.name Lib.Math.max.code 2 (some .int) ∈ lw_gd) (hls : ls.size = nL) (hfr : 1 ≤ fr) (hlo : (rest.map fun v => v.category).sum + 13 ≤ lo) (hv : (if x < y then y else x) = v) (hdg : decode cc pc = .ok (.invokestatic index, 3)) (kk : Wq E H locs (pc + 3) ls (.int v :: rest)) : Wq E H locs pc ls (.int y :: .int x :: rest) := by
  subst hv
  exact va_mmax Cx.1 Cx.2.1 (Cx.2.2.1.trans hls.symm) Cx.2.2.2.1 (Cx.2.2.2.2.1 _ hlink) (Cx.2.2.2.2.1 _ hstat) (Cx.2.2.2.2.1 _ hini) (Cx.2.2.2.2.1 _ hcode) (Nat.le_trans hfr Cx.2.2.2.2.2.1) (Nat.le_trans hlo Cx.2.2.2.2.2.2.1) Cx.2.2.2.2.2.2.2.1 Cx.2.2.2.2.2.2.2.2 hdg kk
theorem q_min {E : WE} {own : String} {cc : ByteArray} {nL fr lo : Nat} (Cx : CX E own cc nL fr lo) {H : Heap} {locs : List Loc} {pc : Nat} {ls : Array Slot} {rest : List Value} {x y v : Int32} {index : Nat} (hlink : Cond.methodLink own index Lib.Math.min.name ∈ lw_gd) (hstat : Cond.static Lib.Math.min.name ∈ lw_gd) (hini : Cond.initialized "java/lang/Math" ∈ lw_gd) (hcode : Cond.code Lib.Math.min.name Lib.Math.min.code 2 (some .int) ∈ lw_gd) (hls : ls.size = nL) (hfr : 1 ≤ fr) (hlo : (rest.map fun v => v.category).sum + 13 ≤ lo) (hv : (if y < x then y else x) = v) (hdg : decode cc pc = .ok (.invokestatic index, 3)) (kk : Wq E H locs (pc + 3) ls (.int v :: rest)) : Wq E H locs pc ls (.int y :: .int x :: rest) := by
  subst hv
  exact va_mmin Cx.1 Cx.2.1 (Cx.2.2.1.trans hls.symm) Cx.2.2.2.1 (Cx.2.2.2.2.1 _ hlink) (Cx.2.2.2.2.1 _ hstat) (Cx.2.2.2.2.1 _ hini) (Cx.2.2.2.2.1 _ hcode) (Nat.le_trans hfr Cx.2.2.2.2.2.1) (Nat.le_trans hlo Cx.2.2.2.2.2.2.1) Cx.2.2.2.2.2.2.2.1 Cx.2.2.2.2.2.2.2.2 hdg kk
/-- System.arraycopy from place (j0, o) to place (j, o), both from 0 on -/
theorem q_copy {E : WE} {own : String} {cc : ByteArray} {nL fr lo : Nat} (Cx : CX E own cc nL fr lo) {H : Heap} {locs : List Loc} {pc : Nat} {ls : Array Slot} {rest : List Value} {V : VT} {A : Nat → Prop} {H0 : Heap} {M : Mem} (hW : Wd V A H0 M (eS E) H locs) {j0 o0 n0 j o n : Nat} (ho0 : isI j0 o0 n0 0) (ho : isI j o n 0) {cnt : Int32} (hc : ¬ cnt < 0) (hn0 : cnt.toNatClampNeg ≤ n0) (hn : cnt.toNatClampNeg ≤ n) {B' : Blk} (hB : B' = bc (M j) o (va_cpy (M j0 o0) (M j o) 0 0 cnt.toNatClampNeg)) {index : Nat} (hlink : Cond.methodLink own index arraycopyName ∈ lw_gd) (hnat : Cond.native arraycopyName ∈ lw_gd) (hstat : Cond.static arraycopyName ∈ lw_gd) (hini : Cond.initialized "java/lang/System" ∈ lw_gd) (hls : ls.size = nL) (hfr : 1 ≤ fr) (hlo : (rest.map fun v => v.category).sum + (nativeFrameWords "java/lang/System" "arraycopy" 5 + 11) ≤ lo) (hdg : decode cc pc = .ok (.invokestatic index, 3)) (kk : ∀ (H1 : Heap) (locs1 : List Loc), Wd V A H0 (jb M j B') (eS E) H1 locs1 → Wq E H1 locs1 (pc + 3) ls rest) : Wq E H locs pc ls (.int cnt :: .int 0 :: .ref (vA V j o) :: .int 0 :: .ref (vA V j0 o0) :: rest) := by
  obtain ⟨hK, hP, hD, hS⟩ := hW
  obtain ⟨p0, cA0, ty0, h01, h02, -⟩ := isI_at (V := V) (M := M) ho0
  obtain ⟨p, cA, ty, h1, h2, h3⟩ := isI_at (V := V) (M := M) ho
  cases h01
  cases h1
  refine va_copyi (D := vD V) (cl := vwCl) (tys := vT V) (ws := wsOf V M) Cx.1 Cx.2.1 (Cx.2.2.1.trans hls.symm) Cx.2.2.2.1 (Cx.2.2.2.2.1 _ hlink) (Cx.2.2.2.2.1 _ hnat) (Cx.2.2.2.2.1 _ hstat) (Cx.2.2.2.2.1 _ hini) hK hP hD hS p0 p 0 0 h02 h2 rfl rfl rfl (by decide) (by decide) hc (by rw [show (0 : Int32).toNatClampNeg = 0 from rfl, Nat.zero_add]; exact hn0) (by rw [show (0 : Int32).toNatClampNeg = 0 from rfl, Nat.zero_add]; exact hn) (fun _ _ => rfl) (Nat.le_trans hfr Cx.2.2.2.2.2.1) (Nat.le_trans hlo Cx.2.2.2.2.2.2.1) hdg (fun H1 locs1 hP1 hD1 hS1 => ?_)
  rw [h3] at hP1 hD1
  subst hB
  exact kk H1 locs1 ⟨hK, hP1, hD1, hS1⟩
end
section
/-! CONTRACTS over memories, and calls -/
def AV (V : VT) : Nat → Prop := fun q => ∃ (i : Nat) (p : Nat × Nat), places[i]? = some p ∧ q = vA V p.1 p.2
def W0 (V : VT) (M : Mem) (U : State) : Prop := va_K (vD V) vwCl (vT V) U ∧ va_P (vD V) vwCl (wsOf V M) U.heap ∧ va_D (AV V) (wsOf V M)
theorem W0.blind {V : VT} {M : Mem} {U : State} {g : JFrame} {mk : MethodId} {a : Array Value} (h : W0 V M U) : W0 V M (U.calling g mk a) := ⟨va_K.moved (u := U) (U := U.calling g mk a) (Vm.Alike.refl U.vm) h.1, h.2.1, h.2.2⟩
def MetI (l : Launch) (V : VT) (y : MethodName) (cc : ByteArray) (nL : Nat) (ret : FieldType) (rm : Room) (as : List Value) (r : Int32) (M M' : Mem) : Prop := Met l y (Cond.code y cc nL (some ret) :: lw_gd) rm (va_Pc as (W0 V M)) (va_Qi (fun (x : Int32) (_ : Unit) => x = r) (fun _ t => W0 V M' t) (AV V)) 0 0 (AV V)
def MetV (l : Launch) (V : VT) (y : MethodName) (cc : ByteArray) (nL : Nat) (rm : Room) (as : List Value) (M M' : Mem) : Prop := Met l y (Cond.code y cc nL none :: lw_gd) rm (va_Pc as (W0 V M)) (va_Qv (fun (_ : Unit) => True) (fun _ t => W0 V M' t) (AV V)) 0 0 (AV V)
def MetL (l : Launch) (V : VT) (y : MethodName) (cc : ByteArray) (nL : Nat) (rm : Room) (as : List Value) (r : Int64) (M M' : Mem) : Prop := Met l y (Cond.code y cc nL (some .long) :: lw_gd) rm (va_Pc as (W0 V M)) (va_Ql (fun (x : Int64) (_ : Unit) => x = r) (fun _ t => W0 V M' t) (AV V)) 0 0 (AV V)
/-- the ends of a body -/
def RetI (E : WE) (V : VT) (A : Nat → Prop) (H0 : Heap) (cc : ByteArray) (ret : FieldType) (r : Int32) (M' : Mem) : Prop := ∀ (pc : Nat) (H : Heap) (locs : List Loc) (ls : Array Slot), decode cc pc = .ok (.ireturn, 1) → narrow ret (.int r) = .int r → Wd V A H0 M' (eS E) H locs → Wq E H locs pc ls [.int r]
def RetL (E : WE) (V : VT) (A : Nat → Prop) (H0 : Heap) (cc : ByteArray) (r : Int64) (M' : Mem) : Prop := ∀ (pc : Nat) (H : Heap) (locs : List Loc) (ls : Array Slot), decode cc pc = .ok (.lreturn, 1) → Wd V A H0 M' (eS E) H locs → Wq E H locs pc ls [.long r]
def RetV (E : WE) (V : VT) (A : Nat → Prop) (H0 : Heap) (cc : ByteArray) (M' : Mem) : Prop := ∀ (pc : Nat) (H : Heap) (locs : List Loc) (ls : Array Slot), decode cc pc = .ok (.return_, 1) → Wd V A H0 M' (eS E) H locs → Wq E H locs pc ls []
/-- what the calls of a method need of the tables -/
def CalOK (y : MethodName) (cc : ByteArray) (nL : Nat) (ret : Option FieldType) (n : Nat) : Prop := Cond.initialized y.cls ∈ lw_gd ∧ Cond.code y cc nL ret ∈ lw_gd ∧ (y.cls ≠ "java/lang/invoke/MethodHandle" ∧ y.cls ≠ "java/lang/invoke/VarHandle" ∧ (parseMethodDescriptor y.desc).map (fun d => d.parameters.length) = some n)
def VirOK (y : MethodName) : Prop := Cond.instanceMethod y ∈ lw_gd ∧ Cond.selects y.cls y y ∈ lw_gd
theorem W0_of_Wd {V : VT} {A : Nat → Prop} {H0 : Heap} {M : Mem} {s : State} {H : Heap} {locs : List Loc} (hW : Wd V A H0 M s H locs) {U : State} (hU : U.heap = H) (ha : s.WarmedH U.vm) : W0 V M U := by
  obtain ⟨hK, hP, hD, hS⟩ := hW
  refine ⟨va_K.moved ha.alike hK, by rw [hU]; exact hP, hD.1, fun k q hk => ?_⟩
  unfold wsOf at hk
  rw [List.getElem?_map] at hk
  cases hp : places[k]? with
  | none => rw [hp] at hk; cases hk
  | some p => rw [hp] at hk; cases hk; exact ⟨k, p, hp, rfl⟩
theorem AV_A {V : VT} {A : Nat → Prop} {H0 : Heap} {M : Mem} {s : State} {H : Heap} {locs : List Loc} (hW : Wd V A H0 M s H locs) : ∀ q, AV V q → A q := by
  rintro q ⟨i, p, hp, rfl⟩
  obtain ⟨j, o⟩ := p
  exact hW.2.2.1.2 i _ (ws_at hp)
theorem Wd_after {V : VT} {A : Nat → Prop} {H0 : Heap} {M M' : Mem} {s : State} {H H1 : Heap} {locs locs1 : List Loc} (hW : Wd V A H0 M s H locs) {t : State} (ht : t.heap = H1) (hv : s.vm.Alike t.vm) (h0 : W0 V M' t) (hS : va_S A H0 H1 locs1) : Wd V A H0 M' s H1 locs1 :=
  ⟨va_K.moved hv.symm h0.1, by rw [← ht]; exact h0.2.1, h0.2.2.weaken (fun _ _ _ h => AV_A hW _ h), hS⟩
section CALLS
variable {E : WE} {own : String} {cc : ByteArray} {nL fr lo : Nat} {H : Heap} {locs : List Loc} {pc : Nat} {ls : Array Slot} {rest st : List Value} {V : VT} {A : Nat → Prop} {H0 : Heap} {M M' : Mem} {y : MethodName} {bytes : ByteArray} {maxL n index : Nat} {rm : Room} {as : List Value}
theorem call_cwV (Cx : CX E own cc nL fr lo) {ret : Option FieldType} (ok : CalOK y bytes maxL ret n) (ov : VirOK y) (hl : Cond.methodLink own index y ∈ lw_gd) (hrm : rm.cells = 0 ∧ rm.slots = 0 ∧ rm.frames + 1 ≤ fr ∧ 8 + (maxL + 11) + rm.locals ≤ lo) : CallW (eR E) (eS E) (eA E) own y.cls index y bytes maxL ret (Cond.code y bytes maxL ret :: lw_gd) rm 0 0 n := by
  have hg : GoodIn lw_gd (wsV own index y.cls y (Cond.code y bytes maxL ret :: lw_gd)) := by
    intro w hw
    unfold wsV at hw
    have hm : w ∈ lw_gd := by
      rcases List.mem_append.mp hw with h | h
      · simp only [List.mem_cons, List.not_mem_nil, or_false] at h
        rcases h with rfl | rfl | rfl | rfl
        · exact hl
        · exact ov.1
        · exact ov.2
        · exact ok.1
      · rcases List.mem_cons.mp h with rfl | h
        · exact ok.2.1
        · exact h
    exact ⟨hm, good_of_word (gd_good _ hm)⟩
  exact cwV n Cx.2.2.2.2.1 hg rfl hrm.1 hrm.2.1 ⟨rfl, ok.2.2⟩ ⟨Nat.le_trans hrm.2.2.1 Cx.2.2.2.2.2.1, Nat.le_trans hrm.2.2.2 Cx.2.2.2.2.2.2.1⟩
theorem call_cwS (Cx : CX E own cc nL fr lo) {ret : Option FieldType} (ok : CalOK y bytes maxL ret n) (os : Cond.static y ∈ lw_gd) (hown : y.cls = own) (hl : Cond.methodLink own index y ∈ lw_gd) (hrm : rm.cells = 0 ∧ rm.slots = 0 ∧ rm.frames + 1 ≤ fr ∧ 8 + (maxL + 11) + rm.locals ≤ lo) : CallB (eR E) (eS E) (eA E) own index y bytes maxL ret (Cond.code y bytes maxL ret :: lw_gd) rm 0 0 n ∧ (Cond.static y).before (eA E) (eS E) = true := by
  have hg : GoodIn lw_gd (wsS own index y (Cond.code y bytes maxL ret :: lw_gd)) := by
    intro w hw
    unfold wsS at hw
    have hm : w ∈ lw_gd := by
      rcases List.mem_append.mp hw with h | h
      · simp only [List.mem_cons, List.not_mem_nil, or_false] at h
        rcases h with rfl | rfl | rfl
        · exact hl
        · exact os
        · rw [← hown]; exact ok.1
      · rcases List.mem_cons.mp h with rfl | h
        · exact ok.2.1
        · exact h
    exact ⟨hm, good_of_word (gd_good _ hm)⟩
  exact cwS n Cx.2.2.2.2.1 hg rfl hrm.1 hrm.2.1 ⟨hown, ok.2.2⟩ ⟨Nat.le_trans hrm.2.2.1 Cx.2.2.2.2.2.1, Nat.le_trans hrm.2.2.2 Cx.2.2.2.2.2.2.1⟩
theorem call_preV (hW : Wd V A H0 M (eS E) H locs) {j o ci : Nat} {fs : Blk → List Value} (ho : isO V j o ci fs) {T : u_T} {N : Nat} {ty : Nat → FieldType} (hc : isC ci y.cls T N ty) : PreV (eS E) H y.cls (vA V j o) (va_Pc (.ref (vA V j o) :: as) (W0 V M)) as := by
  obtain ⟨⟨i, hi⟩, hcell⟩ := ho
  refine ⟨fun a U g mk q => ⟨q.1, q.2.blind⟩, ?_, fun U hU hv => ⟨rfl, W0_of_Wd hW hU hv⟩⟩
  exact va_recv hW.1 hW.2.1 (ci := ci) (q0 := i) hc.1 ((ws_at hi).trans (by rw [hcell]))
theorem q_callI (Cx : CX E own cc nL fr lo) {ret : FieldType} {r : Int32} {j o ci : Nat} {fs : Blk → List Value} {T : u_T} {N : Nat} {ty : Nat → FieldType} (hM : MetI (eL E) V y bytes maxL ret rm (.ref (vA V j o) :: as) r M M') (ok : CalOK y bytes maxL (some ret) n) (ov : VirOK y) (hl : Cond.methodLink own index y ∈ lw_gd) (hrm : rm.cells = 0 ∧ rm.slots = 0 ∧ rm.frames + 1 ≤ fr ∧ 8 + (maxL + 11) + rm.locals ≤ lo) (hW : Wd V A H0 M (eS E) H locs) (ho : isO V j o ci fs) (hc : isC ci y.cls T N ty) (hn : as.length = n) (hls : ls.size = nL) (hrest : (rest.map fun v => v.category).sum ≤ 8) (hst : st = as.reverse ++ .ref (vA V j o) :: rest) (hdg : decode cc pc = .ok (.invokevirtual index, 3))
    (kk : ∀ (H1 : Heap) (locs1 : List Loc), Wd V A H0 M' (eS E) H1 locs1 → Wq E H1 locs1 (pc + 3) ls (.int r :: rest)) : Wq E H locs pc ls st := by
  subst hst
  refine va_calli (A1 := AV V) (va_runV (As := as) (rest := rest) (n := n) ⟨Cx.1, Cx.2.1, Cx.2.2.1, Cx.2.2.2.1, Cx.2.2.2.2.1⟩ hM (call_cwV Cx ok ov hl hrm) (call_preV hW ho hc) rfl hn hls rfl (lv_room hrest) hdg ⟨Cx.2.2.2.2.2.2.2.1, Cx.2.2.2.2.2.2.2.2⟩) hW.2.2.2 (fun q _ h => AV_A hW q h) (fun q h => AV_A hW q h) (fun r1 u t H1 locs1 ht hv hr hB hz hk hS => ?_)
  subst hr
  exact kk H1 locs1 (Wd_after hW ht hv hB hS)
theorem q_callL (Cx : CX E own cc nL fr lo) {r : Int64} {j o ci : Nat} {fs : Blk → List Value} {T : u_T} {N : Nat} {ty : Nat → FieldType} (hM : MetL (eL E) V y bytes maxL rm (.ref (vA V j o) :: as) r M M') (ok : CalOK y bytes maxL (some .long) n) (ov : VirOK y) (hl : Cond.methodLink own index y ∈ lw_gd) (hrm : rm.cells = 0 ∧ rm.slots = 0 ∧ rm.frames + 1 ≤ fr ∧ 8 + (maxL + 11) + rm.locals ≤ lo) (hW : Wd V A H0 M (eS E) H locs) (ho : isO V j o ci fs) (hc : isC ci y.cls T N ty) (hn : as.length = n) (hls : ls.size = nL) (hrest : (rest.map fun v => v.category).sum ≤ 8) (hst : st = as.reverse ++ .ref (vA V j o) :: rest) (hdg : decode cc pc = .ok (.invokevirtual index, 3))
    (kk : ∀ (H1 : Heap) (locs1 : List Loc), Wd V A H0 M' (eS E) H1 locs1 → Wq E H1 locs1 (pc + 3) ls (.long r :: rest)) : Wq E H locs pc ls st := by
  subst hst
  refine va_calll (A1 := AV V) (va_runV (As := as) (rest := rest) (n := n) ⟨Cx.1, Cx.2.1, Cx.2.2.1, Cx.2.2.2.1, Cx.2.2.2.2.1⟩ hM (call_cwV Cx ok ov hl hrm) (call_preV hW ho hc) rfl hn hls rfl (lv_room hrest) hdg ⟨Cx.2.2.2.2.2.2.2.1, Cx.2.2.2.2.2.2.2.2⟩) hW.2.2.2 (fun q _ h => AV_A hW q h) (fun q h => AV_A hW q h) (fun r1 u t H1 locs1 ht hv hr hB hz hk hS => ?_)
  subst hr
  exact kk H1 locs1 (Wd_after hW ht hv hB hS)
theorem q_callV (Cx : CX E own cc nL fr lo) {j o ci : Nat} {fs : Blk → List Value} {T : u_T} {N : Nat} {ty : Nat → FieldType} (hM : MetV (eL E) V y bytes maxL rm (.ref (vA V j o) :: as) M M') (ok : CalOK y bytes maxL none n) (ov : VirOK y) (hl : Cond.methodLink own index y ∈ lw_gd) (hrm : rm.cells = 0 ∧ rm.slots = 0 ∧ rm.frames + 1 ≤ fr ∧ 8 + (maxL + 11) + rm.locals ≤ lo) (hW : Wd V A H0 M (eS E) H locs) (ho : isO V j o ci fs) (hc : isC ci y.cls T N ty) (hn : as.length = n) (hls : ls.size = nL) (hrest : (rest.map fun v => v.category).sum ≤ 8) (hst : st = as.reverse ++ .ref (vA V j o) :: rest) (hdg : decode cc pc = .ok (.invokevirtual index, 3))
    (kk : ∀ (H1 : Heap) (locs1 : List Loc), Wd V A H0 M' (eS E) H1 locs1 → Wq E H1 locs1 (pc + 3) ls rest) : Wq E H locs pc ls st := by
  subst hst
  refine va_callv (A1 := AV V) (va_runV (As := as) (rest := rest) (n := n) ⟨Cx.1, Cx.2.1, Cx.2.2.1, Cx.2.2.2.1, Cx.2.2.2.2.1⟩ hM (call_cwV Cx ok ov hl hrm) (call_preV hW ho hc) rfl hn hls rfl (lv_room hrest) hdg ⟨Cx.2.2.2.2.2.2.2.1, Cx.2.2.2.2.2.2.2.2⟩) hW.2.2.2 (fun q _ h => AV_A hW q h) (fun q h => AV_A hW q h) (fun u t H1 locs1 ht hv hr hB hz hk hS => ?_)
  exact kk H1 locs1 (Wd_after hW ht hv hB hS)
theorem q_callSI (Cx : CX E own cc nL fr lo) {ret : FieldType} {r : Int32} (hM : MetI (eL E) V y bytes maxL ret rm as r M M') (ok : CalOK y bytes maxL (some ret) n) (os : Cond.static y ∈ lw_gd) (hown : y.cls = own) (hl : Cond.methodLink own index y ∈ lw_gd) (hrm : rm.cells = 0 ∧ rm.slots = 0 ∧ rm.frames + 1 ≤ fr ∧ 8 + (maxL + 11) + rm.locals ≤ lo) (hW : Wd V A H0 M (eS E) H locs) (hn : as.length = n) (hls : ls.size = nL) (hrest : (rest.map fun v => v.category).sum ≤ 8) (hst : st = as.reverse ++ rest) (hdg : decode cc pc = .ok (.invokestatic index, 3))
    (kk : ∀ (H1 : Heap) (locs1 : List Loc), Wd V A H0 M' (eS E) H1 locs1 → Wq E H1 locs1 (pc + 3) ls (.int r :: rest)) : Wq E H locs pc ls st := by
  subst hst
  refine va_calli (A1 := AV V) (va_runS (As := as) (rest := rest) (n := n) ⟨Cx.1, Cx.2.1, Cx.2.2.1, Cx.2.2.2.1, Cx.2.2.2.2.1⟩ hM (call_cwS Cx ok os hown hl hrm) ⟨fun a U g mk q => ⟨q.1, q.2.blind⟩, fun U hU hv => ⟨rfl, W0_of_Wd hW hU hv⟩⟩ rfl hn hls rfl (lv_room hrest) hdg ⟨Cx.2.2.2.2.2.2.2.1, Cx.2.2.2.2.2.2.2.2⟩) hW.2.2.2 (fun q _ h => AV_A hW q h) (fun q h => AV_A hW q h) (fun r1 u t H1 locs1 ht hv hr hB hz hk hS => ?_)
  subst hr
  exact kk H1 locs1 (Wd_after hW ht hv hB hS)
end CALLS
/-- a body's world, at its start -/
theorem Wd_start {V : VT} {M : Mem} {s : State} (h : W0 V M s) : Wd V (AV V) s.heap M s s.heap [] := ⟨h.1, h.2.1, h.2.2, va_S.rf⟩
theorem W0_end {V : VT} {H0 : Heap} {M : Mem} {s : State} {H : Heap} {locs : List Loc} (hW : Wd V (AV V) H0 M s H locs) {t : State} (ht : t.heap = H) (hv : s.WarmedH t.vm) : W0 V M t := ⟨va_K.moved hv.alike hW.1, by rw [ht]; exact hW.2.1, hW.2.2.1⟩
theorem metI_of {l : Launch} {V : VT} {y : MethodName} {cc : ByteArray} {nL : Nat} {ret : FieldType} {rm : Room} {as : List Value} {r : Int32} {M M' : Mem} (hy : plainName y.cls = true) (hlen : (lg_sl as).length ≤ nL)
    (body : ∀ (E : WE) (H0 : Heap), eL E = l → CX E y.cls cc nL rm.frames rm.locals → RetI E V (AV V) H0 cc ret r M' → ∀ (H : Heap) (locs : List Loc) (ls : Array Slot), Wd V (AV V) H0 M (eS E) H locs → lv_has ls nL (lv_args 0 as) → Wq E H locs 0 ls []) : MetI l V y cc nL ret rm as r M M' := by
  refine Met.ofW (cc := cc) (maxL := nL) (ret := some ret) hy rfl ?_
  intro p e s m args below meth c s₁ B hml hv
  obtain ⟨rfl, hW⟩ := hv
  have hts := atoms_spec (ws := Cond.code y cc nL (some ret) :: lw_gd) B.pre
  have hl := lv_entry as (n := nL) hlen
  rw [lg_entry_eq]
  have hlocks := B.notSynchronized
  refine body (p, l, e, rm, s, m, as.toArray, below, meth, c, 0, 0, _) s.heap rfl ⟨B.exec, B.bytes, hml, findClass_of_methodNamed B.named, fun w hw => hts w (List.mem_cons_of_mem _ hw), Nat.le_refl _, Nat.le_refl _, Nat.zero_le _, Nat.zero_le _⟩ (fun pc H locs ls hdg hn hW1 => ?_) s.heap [] _ (Wd_start hW) hl
  exact W.zret (v := r) B.exec B.bytes B.returns hn (fun t ht hv => ⟨⟨r, (), rfl, rfl, W0_end hW1 ht hv⟩, hW1.2.2.2.F ht⟩) hW1.2.2.2.2.2 hdg
theorem metL_of {l : Launch} {V : VT} {y : MethodName} {cc : ByteArray} {nL : Nat} {rm : Room} {as : List Value} {r : Int64} {M M' : Mem} (hy : plainName y.cls = true) (hlen : (lg_sl as).length ≤ nL)
    (body : ∀ (E : WE) (H0 : Heap), eL E = l → CX E y.cls cc nL rm.frames rm.locals → RetL E V (AV V) H0 cc r M' → ∀ (H : Heap) (locs : List Loc) (ls : Array Slot), Wd V (AV V) H0 M (eS E) H locs → lv_has ls nL (lv_args 0 as) → Wq E H locs 0 ls []) : MetL l V y cc nL rm as r M M' := by
  refine Met.ofW (cc := cc) (maxL := nL) (ret := some .long) hy rfl ?_
  intro p e s m args below meth c s₁ B hml hv
  obtain ⟨rfl, hW⟩ := hv
  have hts := atoms_spec (ws := Cond.code y cc nL (some .long) :: lw_gd) B.pre
  have hl := lv_entry as (n := nL) hlen
  rw [lg_entry_eq]
  have hlocks := B.notSynchronized
  refine body (p, l, e, rm, s, m, as.toArray, below, meth, c, 0, 0, _) s.heap rfl ⟨B.exec, B.bytes, hml, findClass_of_methodNamed B.named, fun w hw => hts w (List.mem_cons_of_mem _ hw), Nat.le_refl _, Nat.le_refl _, Nat.zero_le _, Nat.zero_le _⟩ (fun pc H locs ls hdg hW1 => ?_) s.heap [] _ (Wd_start hW) hl
  exact W.lret (v := r) B.exec B.bytes B.returns (fun t ht hv => ⟨⟨r, (), rfl, rfl, W0_end hW1 ht hv⟩, hW1.2.2.2.F ht⟩) hW1.2.2.2.2.2 hdg
theorem metV_of {l : Launch} {V : VT} {y : MethodName} {cc : ByteArray} {nL : Nat} {rm : Room} {as : List Value} {M M' : Mem} (hy : plainName y.cls = true) (hlen : (lg_sl as).length ≤ nL)
    (body : ∀ (E : WE) (H0 : Heap), eL E = l → CX E y.cls cc nL rm.frames rm.locals → RetV E V (AV V) H0 cc M' → ∀ (H : Heap) (locs : List Loc) (ls : Array Slot), Wd V (AV V) H0 M (eS E) H locs → lv_has ls nL (lv_args 0 as) → Wq E H locs 0 ls []) : MetV l V y cc nL rm as M M' := by
  refine Met.ofW (cc := cc) (maxL := nL) (ret := none) hy rfl ?_
  intro p e s m args below meth c s₁ B hml hv
  obtain ⟨rfl, hW⟩ := hv
  have hts := atoms_spec (ws := Cond.code y cc nL none :: lw_gd) B.pre
  have hl := lv_entry as (n := nL) hlen
  rw [lg_entry_eq]
  have hlocks := B.notSynchronized
  refine body (p, l, e, rm, s, m, as.toArray, below, meth, c, 0, 0, _) s.heap rfl ⟨B.exec, B.bytes, hml, findClass_of_methodNamed B.named, fun w hw => hts w (List.mem_cons_of_mem _ hw), Nat.le_refl _, Nat.le_refl _, Nat.zero_le _, Nat.zero_le _⟩ (fun pc H locs ls hdg hW1 => ?_) s.heap [] _ (Wd_start hW) hl
  exact W.vret B.exec B.bytes B.returns (fun t ht hv => ⟨⟨(), rfl, trivial, W0_end hW1 ht hv⟩, hW1.2.2.2.F ht⟩) hW1.2.2.2.2.2 hdg
/-! THE WORDS OF THE PURE FUNCTIONS (F_..): a method's answer and memory as a plain function, 'none' where the machine itself would throw -/
section PURE
variable {α β γ : Type}
def ld (f : Nat → Int32) (n : Nat) (i : Int32) (k : Int32 → Option α) : Option α := if i < 0 ∨ n ≤ i.toNatClampNeg then none else k (f i.toNatClampNeg)
def stb (B : Blk) (o n : Nat) (i v : Int32) (k : Blk → Option α) : Option α := if i < 0 ∨ n ≤ i.toNatClampNeg then none else k (bs B o i.toNatClampNeg v)
def gi (i : Int32) (n : Nat) (k : Option α) : Option α := if i < 0 ∨ n ≤ i.toNatClampNeg then none else k
def lt1 (x : β) (k : β → Option α) : Option α := k x
def nz (y : Int32) (k : Option α) : Option α := if y = 0 then none else k
def c1 (x : Option β) (k : β → Option α) : Option α := match x with
  | none => none
  | some r => k r
def c2 (x : Option (β × γ)) (k : β → γ → Option α) : Option α := match x with
  | none => none
  | some r => k r.1 r.2
def rZ (v : Int32) (k : Option α) : Option α := if v = 0 ∨ v = 1 then k else none
def fu : Nat := 100000
theorem ld_some {f : Nat → Int32} {n : Nat} {i : Int32} {k : Int32 → Option α} {x : α} (h : ld f n i k = some x) : vp_in i n ∧ ∃ v, v = f i.toNatClampNeg ∧ k v = some x := by
  unfold ld at h
  by_cases hi : i < 0 ∨ n ≤ i.toNatClampNeg
  · rw [if_pos hi] at h; cases h
  · rw [if_neg hi] at h; exact ⟨hi, _, rfl, h⟩
theorem stb_some {B : Blk} {o n : Nat} {i v : Int32} {k : Blk → Option α} {x : α} (h : stb B o n i v k = some x) : vp_in i n ∧ ∃ B', B' = bs B o i.toNatClampNeg v ∧ k B' = some x := by
  unfold stb at h
  by_cases hi : i < 0 ∨ n ≤ i.toNatClampNeg
  · rw [if_pos hi] at h; cases h
  · rw [if_neg hi] at h; exact ⟨hi, _, rfl, h⟩
theorem gi_some {i : Int32} {n : Nat} {k : Option α} {x : α} (h : gi i n k = some x) : vp_in i n ∧ k = some x := by
  unfold gi at h
  by_cases hi : i < 0 ∨ n ≤ i.toNatClampNeg
  · rw [if_pos hi] at h; cases h
  · rw [if_neg hi] at h; exact ⟨hi, h⟩
theorem lt1_some {y : β} {k : β → Option α} {x : α} (h : lt1 y k = some x) : ∃ z, z = y ∧ k z = some x := ⟨y, rfl, h⟩
theorem nz_some {y : Int32} {k : Option α} {x : α} (h : nz y k = some x) : ¬ y = 0 ∧ k = some x := by
  unfold nz at h
  by_cases hy : y = 0
  · rw [if_pos hy] at h; cases h
  · rw [if_neg hy] at h; exact ⟨hy, h⟩
theorem c1_some {y : Option β} {k : β → Option α} {x : α} (h : c1 y k = some x) : ∃ z, y = some z ∧ k z = some x := by
  cases y with
  | none => cases h
  | some z => exact ⟨z, rfl, h⟩
theorem c2_some {y : Option (β × γ)} {k : β → γ → Option α} {x : α} (h : c2 y k = some x) : ∃ z w, y = some (z, w) ∧ k z w = some x := by
  cases y with
  | none => cases h
  | some z => exact ⟨z.1, z.2, rfl, h⟩
theorem rZ_some {v : Int32} {k : Option α} {x : α} (h : rZ v k = some x) : narrow .boolean (.int v) = .int v ∧ k = some x := by
  unfold rZ at h
  by_cases hv : v = 0 ∨ v = 1
  · rw [if_pos hv] at h
    refine ⟨?_, h⟩
    rcases hv with rfl | rfl <;> rfl
  · rw [if_neg hv] at h; cases h
theorem nI32 (r : Int32) : narrow .int (.int r) = .int r := rfl
end PURE
end
section
/-! the same rows over one block B of the memory (qb_), and over the whole memory with a new name for it (qw_) -/
theorem q_topi {E : WE} {H : Heap} {locs : List Loc} {pc : Nat} {ls : Array Slot} {rest : List Value} {x y : Int32} (e : y = x) (k : Wq E H locs pc ls (.int y :: rest)) : Wq E H locs pc ls (.int x :: rest) := e ▸ k
theorem q_topl {E : WE} {H : Heap} {locs : List Loc} {pc : Nat} {ls : Array Slot} {rest : List Value} {x y : Int64} (e : y = x) (k : Wq E H locs pc ls (.long y :: rest)) : Wq E H locs pc ls (.long x :: rest) := e ▸ k
theorem qb_get {E : WE} {own : String} {cc : ByteArray} {nL fr lo : Nat} (Cx : CX E own cc nL fr lo) {H : Heap} {locs : List Loc} {pc : Nat} {ls : Array Slot} {rest : List Value} {V : VT} {A : Nat → Prop} {H0 : Heap} {M : Mem} {j : Nat} {B : Blk} (hW : Wd V A H0 (jb M j B) (eS E) H locs) {o ci : Nat} {fs : Blk → List Value} (ho : isO V j o ci fs) {C : String} {T : u_T} {N : Nat} {ty : Nat → FieldType} (hc : isC ci C T N ty) (k : Nat) {v : Value} (hk : k < N) (hv : (fs B)[k]? = some v) {index : Nat} (hlink : Cond.fieldLink own index (T k).1 (T k).2.1 (T k).2.2.1 ∈ lw_gd) (hdg : decode cc pc = .ok (.getfield index, 3)) (kk : Wq E H locs (pc + 3) ls (v :: rest)) : Wq E H locs pc ls (.ref (vA V j o) :: rest) := q_get Cx hW ho hc k hk (by rw [jb_at]; exact hv) hlink hdg kk
theorem qb_put {E : WE} {own : String} {cc : ByteArray} {nL fr lo : Nat} (Cx : CX E own cc nL fr lo) {H : Heap} {locs : List Loc} {pc : Nat} {ls : Array Slot} {rest : List Value} {V : VT} {A : Nat → Prop} {H0 : Heap} {M : Mem} {j : Nat} {B : Blk} (hW : Wd V A H0 (jb M j B) (eS E) H locs) {o ci : Nat} {fs : Blk → List Value} (ho : isO V j o ci fs) {C : String} {T : u_T} {N : Nat} {ty : Nat → FieldType} (hc : isC ci C T N ty) (k : Nat) {v : Int32} {B' : Blk} (hk : k < N) (hlen : k < (fs B).length) (hB : B' = bs B o k v) (hset : (fs B).set k (.int v) = fs (bs B o k v)) (hfin : (T k).2.2.2 = false) (hty : narrow (ty k) (.int v) = .int v ∧ fits (ty k) (.int v) = true) {index : Nat} (hlink : Cond.fieldLink own index (T k).1 (T k).2.1 (T k).2.2.1 ∈ lw_gd) (hdg : decode cc pc = .ok (.putfield index, 3)) (kk : ∀ (H1 : Heap) (locs1 : List Loc), Wd V A H0 (jb M j B') (eS E) H1 locs1 → Wq E H1 locs1 (pc + 3) ls rest) : Wq E H locs pc ls (.int v :: .ref (vA V j o) :: rest) := by
  subst hB
  refine q_put Cx hW ho hc k (B' := bs B o k v) hk (by rw [jb_at]; exact hlen) (fun o' h => by rw [jb_at]; exact bs_ne h) (by rw [jb_at]; exact hset) hfin hty hlink hdg (fun H1 locs1 hW1 => kk H1 locs1 (by rw [jb_jb] at hW1; exact hW1))
theorem qw_put {E : WE} {own : String} {cc : ByteArray} {nL fr lo : Nat} (Cx : CX E own cc nL fr lo) {H : Heap} {locs : List Loc} {pc : Nat} {ls : Array Slot} {rest : List Value} {V : VT} {A : Nat → Prop} {H0 : Heap} {M : Mem} {j : Nat} (hW : Wd V A H0 M (eS E) H locs) {o ci : Nat} {fs : Blk → List Value} (ho : isO V j o ci fs) {C : String} {T : u_T} {N : Nat} {ty : Nat → FieldType} (hc : isC ci C T N ty) (k : Nat) {v : Int32} {M' : Mem} (hk : k < N) (hlen : k < (fs (M j)).length) (hM : M' = jb M j (bs (M j) o k v)) (hset : (fs (M j)).set k (.int v) = fs (bs (M j) o k v)) (hfin : (T k).2.2.2 = false) (hty : narrow (ty k) (.int v) = .int v ∧ fits (ty k) (.int v) = true) {index : Nat} (hlink : Cond.fieldLink own index (T k).1 (T k).2.1 (T k).2.2.1 ∈ lw_gd) (hdg : decode cc pc = .ok (.putfield index, 3)) (kk : ∀ (H1 : Heap) (locs1 : List Loc), Wd V A H0 M' (eS E) H1 locs1 → Wq E H1 locs1 (pc + 3) ls rest) : Wq E H locs pc ls (.int v :: .ref (vA V j o) :: rest) := by
  subst hM
  exact q_put Cx hW ho hc k (B' := bs (M j) o k v) hk hlen (fun o' h => bs_ne h) hset hfin hty hlink hdg kk
theorem qb_iald {E : WE} {own : String} {cc : ByteArray} {nL fr lo : Nat} (Cx : CX E own cc nL fr lo) {H : Heap} {locs : List Loc} {pc : Nat} {ls : Array Slot} {rest : List Value} {V : VT} {A : Nat → Prop} {H0 : Heap} {M : Mem} {j : Nat} {B : Blk} (hW : Wd V A H0 (jb M j B) (eS E) H locs) {o n : Nat} (ho : isI j o n 0) {i v : Int32} (hin : vp_in i n) (hv : v = B o i.toNatClampNeg) (hdg : decode cc pc = .ok (.iaload, 1)) (kk : Wq E H locs (pc + 1) ls (.int v :: rest)) : Wq E H locs pc ls (.int i :: .ref (vA V j o) :: rest) := q_iald Cx hW ho hin (by rw [jb_at]; exact hv) hdg kk
theorem qb_zald {E : WE} {own : String} {cc : ByteArray} {nL fr lo : Nat} (Cx : CX E own cc nL fr lo) {H : Heap} {locs : List Loc} {pc : Nat} {ls : Array Slot} {rest : List Value} {V : VT} {A : Nat → Prop} {H0 : Heap} {M : Mem} {j : Nat} {B : Blk} (hW : Wd V A H0 (jb M j B) (eS E) H locs) {o n : Nat} (ho : isI j o n 1) {i v : Int32} (hin : vp_in i n) (hv : v = B o i.toNatClampNeg) (hdg : decode cc pc = .ok (.baload, 1)) (kk : Wq E H locs (pc + 1) ls (.int v :: rest)) : Wq E H locs pc ls (.int i :: .ref (vA V j o) :: rest) := q_zald Cx hW ho hin (by rw [jb_at]; exact hv) hdg kk
theorem qb_cald {E : WE} {own : String} {cc : ByteArray} {nL fr lo : Nat} (Cx : CX E own cc nL fr lo) {H : Heap} {locs : List Loc} {pc : Nat} {ls : Array Slot} {rest : List Value} {V : VT} {A : Nat → Prop} {H0 : Heap} {M : Mem} {j : Nat} {B : Blk} (hW : Wd V A H0 (jb M j B) (eS E) H locs) {o n : Nat} (ho : isI j o n 2) {i v : Int32} (hin : vp_in i n) (hv : v = B o i.toNatClampNeg) (hdg : decode cc pc = .ok (.caload, 1)) (kk : Wq E H locs (pc + 1) ls (.int v :: rest)) : Wq E H locs pc ls (.int i :: .ref (vA V j o) :: rest) := q_cald Cx hW ho hin (by rw [jb_at]; exact hv) hdg kk
theorem qb_iast {E : WE} {own : String} {cc : ByteArray} {nL fr lo : Nat} (Cx : CX E own cc nL fr lo) {H : Heap} {locs : List Loc} {pc : Nat} {ls : Array Slot} {rest : List Value} {V : VT} {A : Nat → Prop} {H0 : Heap} {M : Mem} {j : Nat} {B : Blk} (hW : Wd V A H0 (jb M j B) (eS E) H locs) {o n : Nat} (ho : isI j o n 0) {i x : Int32} (hin : vp_in i n) {B' : Blk} (hB : B' = bs B o i.toNatClampNeg x) (hdg : decode cc pc = .ok (.iastore, 1)) (kk : ∀ (H1 : Heap) (locs1 : List Loc), Wd V A H0 (jb M j B') (eS E) H1 locs1 → Wq E H1 locs1 (pc + 1) ls rest) : Wq E H locs pc ls (.int x :: .int i :: .ref (vA V j o) :: rest) := q_iast Cx hW ho hin (B' := B') (by rw [jb_at]; exact hB) hdg (fun H1 locs1 hW1 => kk H1 locs1 (by rw [jb_jb] at hW1; exact hW1))
theorem qw_iast {E : WE} {own : String} {cc : ByteArray} {nL fr lo : Nat} (Cx : CX E own cc nL fr lo) {H : Heap} {locs : List Loc} {pc : Nat} {ls : Array Slot} {rest : List Value} {V : VT} {A : Nat → Prop} {H0 : Heap} {M : Mem} {j : Nat} (hW : Wd V A H0 M (eS E) H locs) {o n : Nat} (ho : isI j o n 0) {i x : Int32} (hin : vp_in i n) {M' : Mem} (hM : M' = jb M j (bs (M j) o i.toNatClampNeg x)) (hdg : decode cc pc = .ok (.iastore, 1)) (kk : ∀ (H1 : Heap) (locs1 : List Loc), Wd V A H0 M' (eS E) H1 locs1 → Wq E H1 locs1 (pc + 1) ls rest) : Wq E H locs pc ls (.int x :: .int i :: .ref (vA V j o) :: rest) := by
  subst hM
  exact q_iast Cx hW ho hin rfl hdg kk
theorem qb_zast {E : WE} {own : String} {cc : ByteArray} {nL fr lo : Nat} (Cx : CX E own cc nL fr lo) {H : Heap} {locs : List Loc} {pc : Nat} {ls : Array Slot} {rest : List Value} {V : VT} {A : Nat → Prop} {H0 : Heap} {M : Mem} {j : Nat} {B : Blk} (hW : Wd V A H0 (jb M j B) (eS E) H locs) {o n : Nat} (ho : isI j o n 1) {i x : Int32} (hin : vp_in i n) {B' : Blk} (hB : B' = bs B o i.toNatClampNeg (vp_nar .boolean x)) (hdg : decode cc pc = .ok (.bastore, 1)) (kk : ∀ (H1 : Heap) (locs1 : List Loc), Wd V A H0 (jb M j B') (eS E) H1 locs1 → Wq E H1 locs1 (pc + 1) ls rest) : Wq E H locs pc ls (.int x :: .int i :: .ref (vA V j o) :: rest) := q_zast Cx hW ho hin (B' := B') (by rw [jb_at]; exact hB) hdg (fun H1 locs1 hW1 => kk H1 locs1 (by rw [jb_jb] at hW1; exact hW1))
theorem qw_zast {E : WE} {own : String} {cc : ByteArray} {nL fr lo : Nat} (Cx : CX E own cc nL fr lo) {H : Heap} {locs : List Loc} {pc : Nat} {ls : Array Slot} {rest : List Value} {V : VT} {A : Nat → Prop} {H0 : Heap} {M : Mem} {j : Nat} (hW : Wd V A H0 M (eS E) H locs) {o n : Nat} (ho : isI j o n 1) {i x : Int32} (hin : vp_in i n) {M' : Mem} (hM : M' = jb M j (bs (M j) o i.toNatClampNeg (vp_nar .boolean x))) (hdg : decode cc pc = .ok (.bastore, 1)) (kk : ∀ (H1 : Heap) (locs1 : List Loc), Wd V A H0 M' (eS E) H1 locs1 → Wq E H1 locs1 (pc + 1) ls rest) : Wq E H locs pc ls (.int x :: .int i :: .ref (vA V j o) :: rest) := by
  subst hM
  exact q_zast Cx hW ho hin rfl hdg kk
theorem qb_cast {E : WE} {own : String} {cc : ByteArray} {nL fr lo : Nat} (Cx : CX E own cc nL fr lo) {H : Heap} {locs : List Loc} {pc : Nat} {ls : Array Slot} {rest : List Value} {V : VT} {A : Nat → Prop} {H0 : Heap} {M : Mem} {j : Nat} {B : Blk} (hW : Wd V A H0 (jb M j B) (eS E) H locs) {o n : Nat} (ho : isI j o n 2) {i x : Int32} (hin : vp_in i n) {B' : Blk} (hB : B' = bs B o i.toNatClampNeg (vp_nar .char x)) (hdg : decode cc pc = .ok (.castore, 1)) (kk : ∀ (H1 : Heap) (locs1 : List Loc), Wd V A H0 (jb M j B') (eS E) H1 locs1 → Wq E H1 locs1 (pc + 1) ls rest) : Wq E H locs pc ls (.int x :: .int i :: .ref (vA V j o) :: rest) := q_cast Cx hW ho hin (B' := B') (by rw [jb_at]; exact hB) hdg (fun H1 locs1 hW1 => kk H1 locs1 (by rw [jb_jb] at hW1; exact hW1))
theorem qw_cast {E : WE} {own : String} {cc : ByteArray} {nL fr lo : Nat} (Cx : CX E own cc nL fr lo) {H : Heap} {locs : List Loc} {pc : Nat} {ls : Array Slot} {rest : List Value} {V : VT} {A : Nat → Prop} {H0 : Heap} {M : Mem} {j : Nat} (hW : Wd V A H0 M (eS E) H locs) {o n : Nat} (ho : isI j o n 2) {i x : Int32} (hin : vp_in i n) {M' : Mem} (hM : M' = jb M j (bs (M j) o i.toNatClampNeg (vp_nar .char x))) (hdg : decode cc pc = .ok (.castore, 1)) (kk : ∀ (H1 : Heap) (locs1 : List Loc), Wd V A H0 M' (eS E) H1 locs1 → Wq E H1 locs1 (pc + 1) ls rest) : Wq E H locs pc ls (.int x :: .int i :: .ref (vA V j o) :: rest) := by
  subst hM
  exact q_cast Cx hW ho hin rfl hdg kk
theorem qb_copy {E : WE} {own : String} {cc : ByteArray} {nL fr lo : Nat} (Cx : CX E own cc nL fr lo) {H : Heap} {locs : List Loc} {pc : Nat} {ls : Array Slot} {rest : List Value} {V : VT} {A : Nat → Prop} {H0 : Heap} {M : Mem} {j : Nat} {B : Blk} (hW : Wd V A H0 (jb M j B) (eS E) H locs) {j0 o0 n0 o n : Nat} (ho0 : isI j0 o0 n0 0) (ho : isI j o n 0) (hne : j0 ≠ j) {cnt : Int32} (hc : ¬ cnt < 0) (hn0 : cnt.toNatClampNeg ≤ n0) (hn : cnt.toNatClampNeg ≤ n) {B' : Blk} (hB : B' = bc B o (va_cpy (M j0 o0) (B o) 0 0 cnt.toNatClampNeg)) {index : Nat} (hlink : Cond.methodLink own index arraycopyName ∈ lw_gd) (hnat : Cond.native arraycopyName ∈ lw_gd) (hstat : Cond.static arraycopyName ∈ lw_gd) (hini : Cond.initialized "java/lang/System" ∈ lw_gd) (hls : ls.size = nL) (hfr : 1 ≤ fr) (hlo : (rest.map fun v => v.category).sum + (nativeFrameWords "java/lang/System" "arraycopy" 5 + 11) ≤ lo) (hdg : decode cc pc = .ok (.invokestatic index, 3)) (kk : ∀ (H1 : Heap) (locs1 : List Loc), Wd V A H0 (jb M j B') (eS E) H1 locs1 → Wq E H1 locs1 (pc + 3) ls rest) : Wq E H locs pc ls (.int cnt :: .int 0 :: .ref (vA V j o) :: .int 0 :: .ref (vA V j0 o0) :: rest) := q_copy Cx hW ho0 ho hc hn0 hn (B' := B') (by rw [jb_at, jb_ne hne]; exact hB) hlink hnat hstat hini hls hfr hlo hdg (fun H1 locs1 hW1 => kk H1 locs1 (by rw [jb_jb] at hW1; exact hW1))
theorem vp_lt {i : Int32} {n : Nat} (h : vp_in i n) : i.toNatClampNeg < n := Nat.not_le.mp fun q => h (Or.inr q)
theorem met_w {l : Launch} {V : VT} {y : MethodName} {cc : ByteArray} {nL : Nat} {ret : FieldType} {rm : Room} {as : List Value} {r : Int32} {M M' : Mem} {j : Nat} (h : MetI l V y cc nL ret rm as r (jb M j (M j)) M') : MetI l V y cc nL ret rm as r M M' := by rw [jb_self] at h; exact h
theorem met_r {l : Launch} {V : VT} {y : MethodName} {cc : ByteArray} {nL : Nat} {ret : FieldType} {rm : Room} {as : List Value} {r : Int32} {M : Mem} {j : Nat} (h : MetI l V y cc nL ret rm as r (jb M j (M j)) (jb M j (M j))) : MetI l V y cc nL ret rm as r M M := by rw [jb_self] at h; exact h
theorem met_v {l : Launch} {V : VT} {y : MethodName} {cc : ByteArray} {nL : Nat} {rm : Room} {as : List Value} {M M' : Mem} {j : Nat} (h : MetV l V y cc nL rm as (jb M j (M j)) M') : MetV l V y cc nL rm as M M' := by rw [jb_self] at h; exact h
section PURE2
variable {α : Type}
def stm (M : Mem) (j o n : Nat) (i v : Int32) (k : Mem → Option α) : Option α := if i < 0 ∨ n ≤ i.toNatClampNeg then none else k (jb M j (bs (M j) o i.toNatClampNeg v))
theorem stm_some {M : Mem} {j o n : Nat} {i v : Int32} {k : Mem → Option α} {x : α} (h : stm M j o n i v k = some x) : vp_in i n ∧ ∃ M', M' = jb M j (bs (M j) o i.toNatClampNeg v) ∧ k M' = some x := by
  unfold stm at h
  by_cases hi : i < 0 ∨ n ≤ i.toNatClampNeg
  · rw [if_pos hi] at h; cases h
  · rw [if_neg hi] at h; exact ⟨hi, _, rfl, h⟩
end PURE2
theorem tbl_out {x : Int32} {l0 hi : Int} (h : ∀ i : Int, l0 ≤ i → i ≤ hi → x.toInt ≠ i) : x.toInt < l0 ∨ hi < x.toInt := by
  rcases Int.lt_or_le x.toInt l0 with h1 | h1
  · exact Or.inl h1
  · rcases Int.lt_or_le hi x.toInt with h2 | h2
    · exact Or.inr h2
    · exact absurd rfl (h _ h1 h2)
theorem tbl_cons {x : Int32} {l0 hi l1 : Int} {k : Int32} (hk : k.toInt = l0) (h1 : l1 = l0 + 1) (hne : ¬ x = k) (h : ∀ i : Int, l1 ≤ i → i ≤ hi → x.toInt ≠ i) : ∀ i : Int, l0 ≤ i → i ≤ hi → x.toInt ≠ i := by
  intro i ha hb he
  rcases Int.lt_or_le i l1 with h2 | h2
  · have : i = l0 := by omega
    subst this
    exact hne (Int32.toInt_inj.mp (he.trans hk.symm))
  · exact h i h2 hb he
theorem tbl_nil {x : Int32} {l0 hi : Int} (h1 : hi < l0) : ∀ i : Int, l0 ≤ i → i ≤ hi → x.toInt ≠ i := by
  intro i ha hb
  omega
end
section
/-! the words of the tables that the rows use -/
set_option maxRecDepth 100000 in
theorem wd_0 : Cond.selects RX4 yX4_scheduleRow yX4_scheduleRow ∈ lw_gd := gd_of 0 rfl rfl
set_option maxRecDepth 100000 in
theorem wd_1 : Cond.selects RX2 yX2_setOffer yX2_setOffer ∈ lw_gd := gd_of 1 rfl rfl
set_option maxRecDepth 100000 in
theorem wd_2 : Cond.selects RX2 yX2_latestExcept yX2_latestExcept ∈ lw_gd := gd_of 2 rfl rfl
set_option maxRecDepth 100000 in
theorem wd_3 : Cond.selects RX4 yX4_linkFrom yX4_linkFrom ∈ lw_gd := gd_of 3 rfl rfl
set_option maxRecDepth 100000 in
theorem wd_4 : Cond.selects RX2 yX2_bestSellerExcept yX2_bestSellerExcept ∈ lw_gd := gd_of 4 rfl rfl
set_option maxRecDepth 100000 in
theorem wd_5 : Cond.selects RX2 yX2_isInReach yX2_isInReach ∈ lw_gd := gd_of 5 rfl rfl
set_option maxRecDepth 100000 in
theorem wd_6 : Cond.selects RX2 yX2_isBetterSeller yX2_isBetterSeller ∈ lw_gd := gd_of 6 rfl rfl
set_option maxRecDepth 100000 in
theorem wd_7 : Cond.selects RX2 yX2_buyFrom yX2_buyFrom ∈ lw_gd := gd_of 7 rfl rfl
set_option maxRecDepth 100000 in
theorem wd_8 : Cond.selects RX0 yX0_remove yX0_remove ∈ lw_gd := gd_of 8 rfl rfl
set_option maxRecDepth 100000 in
theorem wd_9 : Cond.selects RX2 yX2_slackOf yX2_slackOf ∈ lw_gd := gd_of 9 rfl rfl
set_option maxRecDepth 100000 in
theorem wd_10 : Cond.selects RX2 yX2_lowerLatestEnd yX2_lowerLatestEnd ∈ lw_gd := gd_of 10 rfl rfl
set_option maxRecDepth 100000 in
theorem wd_11 : Cond.selects RX2 yX2_offers yX2_offers ∈ lw_gd := gd_of 11 rfl rfl
set_option maxRecDepth 100000 in
theorem wd_12 : Cond.selects RX2 yX2_lateTasks yX2_lateTasks ∈ lw_gd := gd_of 12 rfl rfl
set_option maxRecDepth 100000 in
theorem wd_13 : Cond.selects RX2 yX2_allMoney yX2_allMoney ∈ lw_gd := gd_of 13 rfl rfl
set_option maxRecDepth 100000 in
theorem wd_14 : Cond.selects RX4 yX4_waitedFor yX4_waitedFor ∈ lw_gd := gd_of 14 rfl rfl
set_option maxRecDepth 100000 in
theorem wd_15 : Cond.selects RX3 yX3_here yX3_here ∈ lw_gd := gd_of 15 rfl rfl
set_option maxRecDepth 100000 in
theorem wd_16 : Cond.selects RX3 yX3_readSign yX3_readSign ∈ lw_gd := gd_of 16 rfl rfl
set_option maxRecDepth 100000 in
theorem wd_17 : Cond.selects RX3 yX3_readTask yX3_readTask ∈ lw_gd := gd_of 17 rfl rfl
set_option maxRecDepth 100000 in
theorem wd_18 : Cond.selects RX3 yX3_readDigit yX3_readDigit ∈ lw_gd := gd_of 18 rfl rfl
set_option maxRecDepth 100000 in
theorem wd_19 : Cond.selects RX3 yX3_isDigit yX3_isDigit ∈ lw_gd := gd_of 19 rfl rfl
set_option maxRecDepth 100000 in
theorem wd_20 : Cond.selects RX3 yX3_keep yX3_keep ∈ lw_gd := gd_of 20 rfl rfl
set_option maxRecDepth 100000 in
theorem wd_21 : Cond.selects RX3 yX3_readNumber yX3_readNumber ∈ lw_gd := gd_of 21 rfl rfl
set_option maxRecDepth 100000 in
theorem wd_22 : Cond.selects RX3 yX3_readPair yX3_readPair ∈ lw_gd := gd_of 22 rfl rfl
set_option maxRecDepth 100000 in
theorem wd_23 : Cond.selects RX5 yX5_carryOrders yX5_carryOrders ∈ lw_gd := gd_of 23 rfl rfl
set_option maxRecDepth 100000 in
theorem wd_24 : Cond.selects RX5 yX5_carryOrder yX5_carryOrder ∈ lw_gd := gd_of 24 rfl rfl
set_option maxRecDepth 100000 in
theorem wd_25 : Cond.selects RX6 yX6_record yX6_record ∈ lw_gd := gd_of 25 rfl rfl
set_option maxRecDepth 100000 in
theorem wd_26 : Cond.selects RX6 yX6_isTask yX6_isTask ∈ lw_gd := gd_of 26 rfl rfl
set_option maxRecDepth 100000 in
theorem wd_27 : Cond.selects RX6 yX6_manyOn yX6_manyOn ∈ lw_gd := gd_of 27 rfl rfl
set_option maxRecDepth 100000 in
theorem wd_28 : Cond.selects RX6 yX6_putAt yX6_putAt ∈ lw_gd := gd_of 28 rfl rfl
set_option maxRecDepth 100000 in
theorem wd_29 : Cond.selects RX6 yX6_reckon yX6_reckon ∈ lw_gd := gd_of 29 rfl rfl
set_option maxRecDepth 100000 in
theorem wd_30 : Cond.selects RX6 yX6_endOf yX6_endOf ∈ lw_gd := gd_of 30 rfl rfl
set_option maxRecDepth 100000 in
theorem wd_31 : Cond.selects RX6 yX6_taskAt yX6_taskAt ∈ lw_gd := gd_of 31 rfl rfl
set_option maxRecDepth 100000 in
theorem wd_32 : Cond.selects RX6 yX6_measure yX6_measure ∈ lw_gd := gd_of 32 rfl rfl
set_option maxRecDepth 100000 in
theorem wd_33 : Cond.selects RX6 yX6_areLinked yX6_areLinked ∈ lw_gd := gd_of 33 rfl rfl
set_option maxRecDepth 100000 in
theorem wd_34 : Cond.selects RX6 yX6_tradeAll yX6_tradeAll ∈ lw_gd := gd_of 34 rfl rfl
set_option maxRecDepth 100000 in
theorem wd_35 : Cond.selects RX6 yX6_late yX6_late ∈ lw_gd := gd_of 35 rfl rfl
set_option maxRecDepth 100000 in
theorem wd_36 : Cond.selects RX6 yX6_buys yX6_buys ∈ lw_gd := gd_of 36 rfl rfl
set_option maxRecDepth 100000 in
theorem wd_37 : Cond.selects RX6 yX6_nextOffer yX6_nextOffer ∈ lw_gd := gd_of 37 rfl rfl
set_option maxRecDepth 100000 in
theorem wd_38 : Cond.selects RX6 yX6_isSooner yX6_isSooner ∈ lw_gd := gd_of 38 rfl rfl
set_option maxRecDepth 100000 in
theorem wd_39 : Cond.selects RX6 yX6_hoursOf yX6_hoursOf ∈ lw_gd := gd_of 39 rfl rfl
set_option maxRecDepth 100000 in
theorem wd_40 : Cond.selects RX6 yX6_spared yX6_spared ∈ lw_gd := gd_of 40 rfl rfl
set_option maxRecDepth 100000 in
theorem wd_41 : Cond.selects RX6 yX6_agree yX6_agree ∈ lw_gd := gd_of 41 rfl rfl
set_option maxRecDepth 100000 in
theorem wd_42 : Cond.selects RX6 yX6_isContract yX6_isContract ∈ lw_gd := gd_of 42 rfl rfl
set_option maxRecDepth 100000 in
theorem wd_43 : Cond.selects RX6 yX6_dropContract yX6_dropContract ∈ lw_gd := gd_of 43 rfl rfl
set_option maxRecDepth 100000 in
theorem wd_44 : Cond.selects RX6 yX6_slack yX6_slack ∈ lw_gd := gd_of 44 rfl rfl
set_option maxRecDepth 100000 in
theorem wd_45 : Cond.selects RX6 yX6_canBeHeld yX6_canBeHeld ∈ lw_gd := gd_of 45 rfl rfl
set_option maxRecDepth 100000 in
theorem wd_46 : Cond.selects RX6 yX6_lateTogether yX6_lateTogether ∈ lw_gd := gd_of 46 rfl rfl
set_option maxRecDepth 100000 in
theorem wd_47 : Cond.selects RX6 yX6_hoursBy yX6_hoursBy ∈ lw_gd := gd_of 47 rfl rfl
set_option maxRecDepth 100000 in
theorem wd_48 : Cond.selects RX6 yX6_behind yX6_behind ∈ lw_gd := gd_of 48 rfl rfl
set_option maxRecDepth 100000 in
theorem wd_49 : Cond.selects RX6 yX6_offers yX6_offers ∈ lw_gd := gd_of 49 rfl rfl
set_option maxRecDepth 100000 in
theorem wd_50 : Cond.selects RX6 yX6_lateSet yX6_lateSet ∈ lw_gd := gd_of 50 rfl rfl
set_option maxRecDepth 100000 in
theorem wd_51 : Cond.selects RX6 yX6_endOfAll yX6_endOfAll ∈ lw_gd := gd_of 51 rfl rfl
set_option maxRecDepth 100000 in
theorem wd_52 : Cond.selects RX6 yX6_sumOf yX6_sumOf ∈ lw_gd := gd_of 52 rfl rfl
set_option maxRecDepth 100000 in
theorem wd_53 : Cond.selects RX6 yX6_putAside yX6_putAside ∈ lw_gd := gd_of 53 rfl rfl
set_option maxRecDepth 100000 in
theorem wd_54 : Cond.selects RX6 yX6_bringBack yX6_bringBack ∈ lw_gd := gd_of 54 rfl rfl
set_option maxRecDepth 100000 in
theorem wd_55 : Cond.selects RX6 yX6_readPad yX6_readPad ∈ lw_gd := gd_of 55 rfl rfl
set_option maxRecDepth 100000 in
theorem wd_56 : Cond.selects RX6 yX6_readOrder yX6_readOrder ∈ lw_gd := gd_of 56 rfl rfl
set_option maxRecDepth 100000 in
theorem wd_57 : Cond.selects RX6 yX6_letter yX6_letter ∈ lw_gd := gd_of 57 rfl rfl
set_option maxRecDepth 100000 in
theorem wd_58 : Cond.selects RX6 yX6_readTask yX6_readTask ∈ lw_gd := gd_of 58 rfl rfl
set_option maxRecDepth 100000 in
theorem wd_59 : Cond.selects RX6 yX6_takesMachine yX6_takesMachine ∈ lw_gd := gd_of 59 rfl rfl
set_option maxRecDepth 100000 in
theorem wd_60 : Cond.selects RX6 yX6_fail yX6_fail ∈ lw_gd := gd_of 60 rfl rfl
set_option maxRecDepth 100000 in
theorem wd_61 : Cond.selects RX6 yX6_takes yX6_takes ∈ lw_gd := gd_of 61 rfl rfl
set_option maxRecDepth 100000 in
theorem wd_62 : Cond.selects RX6 yX6_takesNumber yX6_takesNumber ∈ lw_gd := gd_of 62 rfl rfl
set_option maxRecDepth 100000 in
theorem wd_63 : Cond.selects RX6 yX6_isDigit yX6_isDigit ∈ lw_gd := gd_of 63 rfl rfl
set_option maxRecDepth 100000 in
theorem wd_64 : Cond.selects RX6 yX6_readTwo yX6_readTwo ∈ lw_gd := gd_of 64 rfl rfl
set_option maxRecDepth 100000 in
theorem wd_65 : Cond.selects RX6 yX6_does yX6_does ∈ lw_gd := gd_of 65 rfl rfl
set_option maxRecDepth 100000 in
theorem wd_67 : Cond.initialized RX5 ∈ lw_gd := gd_of 67 rfl rfl
set_option maxRecDepth 100000 in
theorem wd_68 : Cond.initialized RX2 ∈ lw_gd := gd_of 68 rfl rfl
set_option maxRecDepth 100000 in
theorem wd_69 : Cond.initialized RX4 ∈ lw_gd := gd_of 69 rfl rfl
set_option maxRecDepth 100000 in
theorem wd_70 : Cond.initialized RX0 ∈ lw_gd := gd_of 70 rfl rfl
set_option maxRecDepth 100000 in
theorem wd_71 : Cond.initialized RX1 ∈ lw_gd := gd_of 71 rfl rfl
set_option maxRecDepth 100000 in
theorem wd_72 : Cond.initialized RX3 ∈ lw_gd := gd_of 72 rfl rfl
set_option maxRecDepth 100000 in
theorem wd_73 : Cond.initialized RX6 ∈ lw_gd := gd_of 73 rfl rfl
set_option maxRecDepth 100000 in
theorem wd_74 : Cond.initialized "java/lang/System" ∈ lw_gd := gd_of 74 rfl rfl
set_option maxRecDepth 100000 in
theorem wd_75 : Cond.initialized "java/lang/Math" ∈ lw_gd := gd_of 75 rfl rfl
set_option maxRecDepth 100000 in
theorem wd_96 : Cond.fieldLink RX4 39 (TX4 0).1 (TX4 0).2.1 (TX4 0).2.2.1 ∈ lw_gd := gd_of 96 rfl rfl
set_option maxRecDepth 100000 in
theorem wd_97 : Cond.fieldLink RX2 66 (TX4 0).1 (TX4 0).2.1 (TX4 0).2.2.1 ∈ lw_gd := gd_of 97 rfl rfl
set_option maxRecDepth 100000 in
theorem wd_98 : Cond.fieldLink RX5 192 (TX4 0).1 (TX4 0).2.1 (TX4 0).2.2.1 ∈ lw_gd := gd_of 98 rfl rfl
set_option maxRecDepth 100000 in
theorem wd_99 : Cond.fieldLink RX4 9 (TX4 1).1 (TX4 1).2.1 (TX4 1).2.2.1 ∈ lw_gd := gd_of 99 rfl rfl
set_option maxRecDepth 100000 in
theorem wd_100 : Cond.fieldLink RX2 83 (TX4 1).1 (TX4 1).2.1 (TX4 1).2.2.1 ∈ lw_gd := gd_of 100 rfl rfl
set_option maxRecDepth 100000 in
theorem wd_101 : Cond.fieldLink RX4 15 (TX4 2).1 (TX4 2).2.1 (TX4 2).2.2.1 ∈ lw_gd := gd_of 101 rfl rfl
set_option maxRecDepth 100000 in
theorem wd_102 : Cond.fieldLink RX2 77 (TX4 2).1 (TX4 2).2.1 (TX4 2).2.2.1 ∈ lw_gd := gd_of 102 rfl rfl
set_option maxRecDepth 100000 in
theorem wd_103 : Cond.fieldLink RX4 18 (TX4 3).1 (TX4 3).2.1 (TX4 3).2.2.1 ∈ lw_gd := gd_of 103 rfl rfl
set_option maxRecDepth 100000 in
theorem wd_104 : Cond.fieldLink RX2 177 (TX4 3).1 (TX4 3).2.1 (TX4 3).2.2.1 ∈ lw_gd := gd_of 104 rfl rfl
set_option maxRecDepth 100000 in
theorem wd_105 : Cond.fieldLink RX4 21 (TX4 4).1 (TX4 4).2.1 (TX4 4).2.2.1 ∈ lw_gd := gd_of 105 rfl rfl
set_option maxRecDepth 100000 in
theorem wd_106 : Cond.fieldLink RX2 108 (TX4 4).1 (TX4 4).2.1 (TX4 4).2.2.1 ∈ lw_gd := gd_of 106 rfl rfl
set_option maxRecDepth 100000 in
theorem wd_107 : Cond.fieldLink RX4 24 (TX4 5).1 (TX4 5).2.1 (TX4 5).2.2.1 ∈ lw_gd := gd_of 107 rfl rfl
set_option maxRecDepth 100000 in
theorem wd_108 : Cond.fieldLink RX2 168 (TX4 5).1 (TX4 5).2.1 (TX4 5).2.2.1 ∈ lw_gd := gd_of 108 rfl rfl
set_option maxRecDepth 100000 in
theorem wd_109 : Cond.fieldLink RX4 27 (TX4 6).1 (TX4 6).2.1 (TX4 6).2.2.1 ∈ lw_gd := gd_of 109 rfl rfl
set_option maxRecDepth 100000 in
theorem wd_110 : Cond.fieldLink RX4 30 (TX4 7).1 (TX4 7).2.1 (TX4 7).2.2.1 ∈ lw_gd := gd_of 110 rfl rfl
set_option maxRecDepth 100000 in
theorem wd_111 : Cond.fieldLink RX2 80 (TX4 7).1 (TX4 7).2.1 (TX4 7).2.2.1 ∈ lw_gd := gd_of 111 rfl rfl
set_option maxRecDepth 100000 in
theorem wd_112 : Cond.fieldLink RX4 33 (TX4 8).1 (TX4 8).2.1 (TX4 8).2.2.1 ∈ lw_gd := gd_of 112 rfl rfl
set_option maxRecDepth 100000 in
theorem wd_113 : Cond.fieldLink RX4 36 (TX4 9).1 (TX4 9).2.1 (TX4 9).2.2.1 ∈ lw_gd := gd_of 113 rfl rfl
set_option maxRecDepth 100000 in
theorem wd_114 : Cond.fieldLink RX2 144 (TX4 9).1 (TX4 9).2.1 (TX4 9).2.2.1 ∈ lw_gd := gd_of 114 rfl rfl
set_option maxRecDepth 100000 in
theorem wd_115 : Cond.fieldLink RX5 125 (TX4 9).1 (TX4 9).2.1 (TX4 9).2.2.1 ∈ lw_gd := gd_of 115 rfl rfl
set_option maxRecDepth 100000 in
theorem wd_144 : Cond.fieldLink RX0 24 (TX0 0).1 (TX0 0).2.1 (TX0 0).2.2.1 ∈ lw_gd := gd_of 144 rfl rfl
set_option maxRecDepth 100000 in
theorem wd_145 : Cond.fieldLink RX2 115 (TX0 0).1 (TX0 0).2.1 (TX0 0).2.2.1 ∈ lw_gd := gd_of 145 rfl rfl
set_option maxRecDepth 100000 in
theorem wd_146 : Cond.fieldLink RX5 137 (TX0 0).1 (TX0 0).2.1 (TX0 0).2.2.1 ∈ lw_gd := gd_of 146 rfl rfl
set_option maxRecDepth 100000 in
theorem wd_147 : Cond.fieldLink RX0 9 (TX0 1).1 (TX0 1).2.1 (TX0 1).2.2.1 ∈ lw_gd := gd_of 147 rfl rfl
set_option maxRecDepth 100000 in
theorem wd_148 : Cond.fieldLink RX2 101 (TX0 1).1 (TX0 1).2.1 (TX0 1).2.2.1 ∈ lw_gd := gd_of 148 rfl rfl
set_option maxRecDepth 100000 in
theorem wd_149 : Cond.fieldLink RX0 15 (TX0 2).1 (TX0 2).2.1 (TX0 2).2.2.1 ∈ lw_gd := gd_of 149 rfl rfl
set_option maxRecDepth 100000 in
theorem wd_150 : Cond.fieldLink RX2 104 (TX0 2).1 (TX0 2).2.1 (TX0 2).2.2.1 ∈ lw_gd := gd_of 150 rfl rfl
set_option maxRecDepth 100000 in
theorem wd_151 : Cond.fieldLink RX0 18 (TX0 3).1 (TX0 3).2.1 (TX0 3).2.2.1 ∈ lw_gd := gd_of 151 rfl rfl
set_option maxRecDepth 100000 in
theorem wd_152 : Cond.fieldLink RX2 98 (TX0 3).1 (TX0 3).2.1 (TX0 3).2.2.1 ∈ lw_gd := gd_of 152 rfl rfl
set_option maxRecDepth 100000 in
theorem wd_153 : Cond.fieldLink RX0 21 (TX0 4).1 (TX0 4).2.1 (TX0 4).2.2.1 ∈ lw_gd := gd_of 153 rfl rfl
set_option maxRecDepth 100000 in
theorem wd_154 : Cond.fieldLink RX2 107 (TX0 4).1 (TX0 4).2.1 (TX0 4).2.2.1 ∈ lw_gd := gd_of 154 rfl rfl
set_option maxRecDepth 100000 in
theorem wd_166 : Cond.fieldLink RX2 12 (TX2 0).1 (TX2 0).2.1 (TX2 0).2.2.1 ∈ lw_gd := gd_of 166 rfl rfl
set_option maxRecDepth 100000 in
theorem wd_167 : Cond.fieldLink RX5 80 (TX2 0).1 (TX2 0).2.1 (TX2 0).2.2.1 ∈ lw_gd := gd_of 167 rfl rfl
set_option maxRecDepth 100000 in
theorem wd_168 : Cond.fieldLink RX2 21 (TX2 1).1 (TX2 1).2.1 (TX2 1).2.2.1 ∈ lw_gd := gd_of 168 rfl rfl
set_option maxRecDepth 100000 in
theorem wd_169 : Cond.fieldLink RX5 102 (TX2 1).1 (TX2 1).2.1 (TX2 1).2.2.1 ∈ lw_gd := gd_of 169 rfl rfl
set_option maxRecDepth 100000 in
theorem wd_170 : Cond.fieldLink RX2 25 (TX2 2).1 (TX2 2).2.1 (TX2 2).2.2.1 ∈ lw_gd := gd_of 170 rfl rfl
set_option maxRecDepth 100000 in
theorem wd_171 : Cond.fieldLink RX2 29 (TX2 3).1 (TX2 3).2.1 (TX2 3).2.2.1 ∈ lw_gd := gd_of 171 rfl rfl
set_option maxRecDepth 100000 in
theorem wd_172 : Cond.fieldLink RX2 32 (TX2 4).1 (TX2 4).2.1 (TX2 4).2.2.1 ∈ lw_gd := gd_of 172 rfl rfl
set_option maxRecDepth 100000 in
theorem wd_173 : Cond.fieldLink RX5 90 (TX2 4).1 (TX2 4).2.1 (TX2 4).2.2.1 ∈ lw_gd := gd_of 173 rfl rfl
set_option maxRecDepth 100000 in
theorem wd_174 : Cond.fieldLink RX2 36 (TX2 5).1 (TX2 5).2.1 (TX2 5).2.2.1 ∈ lw_gd := gd_of 174 rfl rfl
set_option maxRecDepth 100000 in
theorem wd_175 : Cond.fieldLink RX5 96 (TX2 5).1 (TX2 5).2.1 (TX2 5).2.2.1 ∈ lw_gd := gd_of 175 rfl rfl
set_option maxRecDepth 100000 in
theorem wd_176 : Cond.fieldLink RX2 39 (TX2 6).1 (TX2 6).2.1 (TX2 6).2.2.1 ∈ lw_gd := gd_of 176 rfl rfl
set_option maxRecDepth 100000 in
theorem wd_177 : Cond.fieldLink RX2 42 (TX2 7).1 (TX2 7).2.1 (TX2 7).2.2.1 ∈ lw_gd := gd_of 177 rfl rfl
set_option maxRecDepth 100000 in
theorem wd_178 : Cond.fieldLink RX2 45 (TX2 8).1 (TX2 8).2.1 (TX2 8).2.2.1 ∈ lw_gd := gd_of 178 rfl rfl
set_option maxRecDepth 100000 in
theorem wd_207 : Cond.fieldLink RX1 11 (TX1 0).1 (TX1 0).2.1 (TX1 0).2.2.1 ∈ lw_gd := gd_of 207 rfl rfl
set_option maxRecDepth 100000 in
theorem wd_208 : Cond.fieldLink RX1 18 (TX1 1).1 (TX1 1).2.1 (TX1 1).2.2.1 ∈ lw_gd := gd_of 208 rfl rfl
set_option maxRecDepth 100000 in
theorem wd_209 : Cond.fieldLink RX1 22 (TX1 2).1 (TX1 2).2.1 (TX1 2).2.2.1 ∈ lw_gd := gd_of 209 rfl rfl
set_option maxRecDepth 100000 in
theorem wd_210 : Cond.fieldLink RX5 115 (TX1 2).1 (TX1 2).2.1 (TX1 2).2.2.1 ∈ lw_gd := gd_of 210 rfl rfl
set_option maxRecDepth 100000 in
theorem wd_224 : Cond.fieldLink RX3 9 (TX3 0).1 (TX3 0).2.1 (TX3 0).2.2.1 ∈ lw_gd := gd_of 224 rfl rfl
set_option maxRecDepth 100000 in
theorem wd_225 : Cond.fieldLink RX3 25 (TX3 1).1 (TX3 1).2.1 (TX3 1).2.2.1 ∈ lw_gd := gd_of 225 rfl rfl
set_option maxRecDepth 100000 in
theorem wd_226 : Cond.fieldLink RX5 111 (TX3 1).1 (TX3 1).2.1 (TX3 1).2.2.1 ∈ lw_gd := gd_of 226 rfl rfl
set_option maxRecDepth 100000 in
theorem wd_227 : Cond.fieldLink RX3 29 (TX3 2).1 (TX3 2).2.1 (TX3 2).2.2.1 ∈ lw_gd := gd_of 227 rfl rfl
set_option maxRecDepth 100000 in
theorem wd_228 : Cond.fieldLink RX3 53 (TX3 3).1 (TX3 3).2.1 (TX3 3).2.2.1 ∈ lw_gd := gd_of 228 rfl rfl
set_option maxRecDepth 100000 in
theorem wd_229 : Cond.fieldLink RX5 185 (TX3 3).1 (TX3 3).2.1 (TX3 3).2.2.1 ∈ lw_gd := gd_of 229 rfl rfl
set_option maxRecDepth 100000 in
theorem wd_230 : Cond.fieldLink RX3 15 (TX3 4).1 (TX3 4).2.1 (TX3 4).2.2.1 ∈ lw_gd := gd_of 230 rfl rfl
set_option maxRecDepth 100000 in
theorem wd_231 : Cond.fieldLink RX5 182 (TX3 4).1 (TX3 4).2.1 (TX3 4).2.2.1 ∈ lw_gd := gd_of 231 rfl rfl
set_option maxRecDepth 100000 in
theorem wd_232 : Cond.fieldLink RX3 46 (TX3 5).1 (TX3 5).2.1 (TX3 5).2.2.1 ∈ lw_gd := gd_of 232 rfl rfl
set_option maxRecDepth 100000 in
theorem wd_248 : Cond.fieldLink RX5 10 (TX5 0).1 (TX5 0).2.1 (TX5 0).2.2.1 ∈ lw_gd := gd_of 248 rfl rfl
set_option maxRecDepth 100000 in
theorem wd_249 : Cond.fieldLink RX5 16 (TX5 1).1 (TX5 1).2.1 (TX5 1).2.2.1 ∈ lw_gd := gd_of 249 rfl rfl
set_option maxRecDepth 100000 in
theorem wd_250 : Cond.fieldLink RX5 22 (TX5 2).1 (TX5 2).2.1 (TX5 2).2.2.1 ∈ lw_gd := gd_of 250 rfl rfl
set_option maxRecDepth 100000 in
theorem wd_251 : Cond.fieldLink RX5 26 (TX5 3).1 (TX5 3).2.1 (TX5 3).2.2.1 ∈ lw_gd := gd_of 251 rfl rfl
set_option maxRecDepth 100000 in
theorem wd_252 : Cond.fieldLink RX5 30 (TX5 4).1 (TX5 4).2.1 (TX5 4).2.2.1 ∈ lw_gd := gd_of 252 rfl rfl
set_option maxRecDepth 100000 in
theorem wd_253 : Cond.fieldLink RX5 37 (TX5 5).1 (TX5 5).2.1 (TX5 5).2.2.1 ∈ lw_gd := gd_of 253 rfl rfl
set_option maxRecDepth 100000 in
theorem wd_268 : Cond.instanceMethod yX5_set ∈ lw_gd := gd_of 268 rfl rfl
set_option maxRecDepth 100000 in
theorem wd_269 : Cond.selects RX5 yX5_set yX5_set ∈ lw_gd := gd_of 269 rfl rfl
set_option maxRecDepth 100000 in
theorem wd_270 : Cond.code yX5_set cX5_set 3 (some .int) ∈ lw_gd := gd_of 270 rfl rfl
set_option maxRecDepth 100000 in
theorem wd_271 : Cond.methodLink RX5 41 yX1_prepare ∈ lw_gd := gd_of 271 rfl rfl
set_option maxRecDepth 100000 in
theorem wd_272 : Cond.instanceMethod yX1_prepare ∈ lw_gd := gd_of 272 rfl rfl
set_option maxRecDepth 100000 in
theorem wd_273 : Cond.selects RX1 yX1_prepare yX1_prepare ∈ lw_gd := gd_of 273 rfl rfl
set_option maxRecDepth 100000 in
theorem wd_274 : Cond.code yX1_prepare cX1_prepare 3 (none) ∈ lw_gd := gd_of 274 rfl rfl
set_option maxRecDepth 100000 in
theorem wd_275 : Cond.methodLink RX1 25 yX2_copyFrom ∈ lw_gd := gd_of 275 rfl rfl
set_option maxRecDepth 100000 in
theorem wd_276 : Cond.instanceMethod yX2_copyFrom ∈ lw_gd := gd_of 276 rfl rfl
set_option maxRecDepth 100000 in
theorem wd_277 : Cond.selects RX2 yX2_copyFrom yX2_copyFrom ∈ lw_gd := gd_of 277 rfl rfl
set_option maxRecDepth 100000 in
theorem wd_278 : Cond.code yX2_copyFrom cX2_copyFrom 2 (none) ∈ lw_gd := gd_of 278 rfl rfl
set_option maxRecDepth 100000 in
theorem wd_279 : Cond.methodLink RX2 48 yX4_copyFrom ∈ lw_gd := gd_of 279 rfl rfl
set_option maxRecDepth 100000 in
theorem wd_280 : Cond.instanceMethod yX4_copyFrom ∈ lw_gd := gd_of 280 rfl rfl
set_option maxRecDepth 100000 in
theorem wd_281 : Cond.selects RX4 yX4_copyFrom yX4_copyFrom ∈ lw_gd := gd_of 281 rfl rfl
set_option maxRecDepth 100000 in
theorem wd_282 : Cond.code yX4_copyFrom cX4_copyFrom 2 (none) ∈ lw_gd := gd_of 282 rfl rfl
set_option maxRecDepth 100000 in
theorem wd_283 : Cond.methodLink RX4 43 arraycopyName ∈ lw_gd := gd_of 283 rfl rfl
set_option maxRecDepth 100000 in
theorem wd_284 : Cond.static arraycopyName ∈ lw_gd := gd_of 284 rfl rfl
set_option maxRecDepth 100000 in
theorem wd_285 : Cond.native arraycopyName ∈ lw_gd := gd_of 285 rfl rfl
set_option maxRecDepth 100000 in
theorem wd_286 : Cond.methodLink RX2 52 yX0_copyFrom ∈ lw_gd := gd_of 286 rfl rfl
set_option maxRecDepth 100000 in
theorem wd_287 : Cond.instanceMethod yX0_copyFrom ∈ lw_gd := gd_of 287 rfl rfl
set_option maxRecDepth 100000 in
theorem wd_288 : Cond.selects RX0 yX0_copyFrom yX0_copyFrom ∈ lw_gd := gd_of 288 rfl rfl
set_option maxRecDepth 100000 in
theorem wd_289 : Cond.code yX0_copyFrom cX0_copyFrom 2 (none) ∈ lw_gd := gd_of 289 rfl rfl
set_option maxRecDepth 100000 in
theorem wd_290 : Cond.methodLink RX0 28 arraycopyName ∈ lw_gd := gd_of 290 rfl rfl
set_option maxRecDepth 100000 in
theorem wd_291 : Cond.methodLink RX2 55 arraycopyName ∈ lw_gd := gd_of 291 rfl rfl
set_option maxRecDepth 100000 in
theorem wd_292 : Cond.methodLink RX5 45 yX2_changeSetting ∈ lw_gd := gd_of 292 rfl rfl
set_option maxRecDepth 100000 in
theorem wd_293 : Cond.instanceMethod yX2_changeSetting ∈ lw_gd := gd_of 293 rfl rfl
set_option maxRecDepth 100000 in
theorem wd_294 : Cond.selects RX2 yX2_changeSetting yX2_changeSetting ∈ lw_gd := gd_of 294 rfl rfl
set_option maxRecDepth 100000 in
theorem wd_295 : Cond.code yX2_changeSetting cX2_changeSetting 4 (some .int) ∈ lw_gd := gd_of 295 rfl rfl
set_option maxRecDepth 100000 in
theorem wd_296 : Cond.methodLink RX5 49 yX1_record ∈ lw_gd := gd_of 296 rfl rfl
set_option maxRecDepth 100000 in
theorem wd_297 : Cond.instanceMethod yX1_record ∈ lw_gd := gd_of 297 rfl rfl
set_option maxRecDepth 100000 in
theorem wd_298 : Cond.selects RX1 yX1_record yX1_record ∈ lw_gd := gd_of 298 rfl rfl
set_option maxRecDepth 100000 in
theorem wd_299 : Cond.code yX1_record cX1_record 2 (some .int) ∈ lw_gd := gd_of 299 rfl rfl
set_option maxRecDepth 100000 in
theorem wd_301 : Cond.instanceMethod yX5_task ∈ lw_gd := gd_of 301 rfl rfl
set_option maxRecDepth 100000 in
theorem wd_302 : Cond.selects RX5 yX5_task yX5_task ∈ lw_gd := gd_of 302 rfl rfl
set_option maxRecDepth 100000 in
theorem wd_303 : Cond.code yX5_task cX5_task 6 (some .int) ∈ lw_gd := gd_of 303 rfl rfl
set_option maxRecDepth 100000 in
theorem wd_304 : Cond.methodLink RX5 53 yX2_addTask ∈ lw_gd := gd_of 304 rfl rfl
set_option maxRecDepth 100000 in
theorem wd_305 : Cond.instanceMethod yX2_addTask ∈ lw_gd := gd_of 305 rfl rfl
set_option maxRecDepth 100000 in
theorem wd_306 : Cond.selects RX2 yX2_addTask yX2_addTask ∈ lw_gd := gd_of 306 rfl rfl
set_option maxRecDepth 100000 in
theorem wd_307 : Cond.code yX2_addTask cX2_addTask 7 (some .int) ∈ lw_gd := gd_of 307 rfl rfl
set_option maxRecDepth 100000 in
theorem wd_308 : Cond.methodLink RX2 61 yX4_has ∈ lw_gd := gd_of 308 rfl rfl
set_option maxRecDepth 100000 in
theorem wd_309 : Cond.instanceMethod yX4_has ∈ lw_gd := gd_of 309 rfl rfl
set_option maxRecDepth 100000 in
theorem wd_310 : Cond.selects RX4 yX4_has yX4_has ∈ lw_gd := gd_of 310 rfl rfl
set_option maxRecDepth 100000 in
theorem wd_311 : Cond.code yX4_has cX4_has 2 (some .boolean) ∈ lw_gd := gd_of 311 rfl rfl
set_option maxRecDepth 100000 in
theorem wd_312 : Cond.constant RX2 65 (100000 : Int32) ∈ lw_gd := gd_of 312 rfl rfl
set_option maxRecDepth 100000 in
theorem wd_313 : Cond.methodLink RX2 69 yX4_append ∈ lw_gd := gd_of 313 rfl rfl
set_option maxRecDepth 100000 in
theorem wd_314 : Cond.instanceMethod yX4_append ∈ lw_gd := gd_of 314 rfl rfl
set_option maxRecDepth 100000 in
theorem wd_315 : Cond.selects RX4 yX4_append yX4_append ∈ lw_gd := gd_of 315 rfl rfl
set_option maxRecDepth 100000 in
theorem wd_316 : Cond.code yX4_append cX4_append 5 (none) ∈ lw_gd := gd_of 316 rfl rfl
set_option maxRecDepth 100000 in
theorem wd_317 : Cond.methodLink RX2 73 yX4_schedule ∈ lw_gd := gd_of 317 rfl rfl
set_option maxRecDepth 100000 in
theorem wd_318 : Cond.instanceMethod yX4_schedule ∈ lw_gd := gd_of 318 rfl rfl
set_option maxRecDepth 100000 in
theorem wd_319 : Cond.selects RX4 yX4_schedule yX4_schedule ∈ lw_gd := gd_of 319 rfl rfl
set_option maxRecDepth 100000 in
theorem wd_320 : Cond.code yX4_schedule cX4_schedule 4 (some .boolean) ∈ lw_gd := gd_of 320 rfl rfl
set_option maxRecDepth 100000 in
theorem wd_321 : Cond.methodLink RX4 62 yX4_scheduleRow ∈ lw_gd := gd_of 321 rfl rfl
set_option maxRecDepth 100000 in
theorem wd_323 : Cond.instanceMethod yX4_scheduleRow ∈ lw_gd := gd_of 323 rfl rfl
set_option maxRecDepth 100000 in
theorem wd_324 : Cond.code yX4_scheduleRow cX4_scheduleRow 6 (some .int) ∈ lw_gd := gd_of 324 rfl rfl
set_option maxRecDepth 100000 in
theorem wd_325 : Cond.methodLink RX4 49 yX4_inRow ∈ lw_gd := gd_of 325 rfl rfl
set_option maxRecDepth 100000 in
theorem wd_326 : Cond.instanceMethod yX4_inRow ∈ lw_gd := gd_of 326 rfl rfl
set_option maxRecDepth 100000 in
theorem wd_327 : Cond.selects RX4 yX4_inRow yX4_inRow ∈ lw_gd := gd_of 327 rfl rfl
set_option maxRecDepth 100000 in
theorem wd_328 : Cond.code yX4_inRow cX4_inRow 3 (some .int) ∈ lw_gd := gd_of 328 rfl rfl
set_option maxRecDepth 100000 in
theorem wd_329 : Cond.methodLink RX4 65 yX4_endOf ∈ lw_gd := gd_of 329 rfl rfl
set_option maxRecDepth 100000 in
theorem wd_330 : Cond.instanceMethod yX4_endOf ∈ lw_gd := gd_of 330 rfl rfl
set_option maxRecDepth 100000 in
theorem wd_331 : Cond.selects RX4 yX4_endOf yX4_endOf ∈ lw_gd := gd_of 331 rfl rfl
set_option maxRecDepth 100000 in
theorem wd_332 : Cond.code yX4_endOf cX4_endOf 2 (some .int) ∈ lw_gd := gd_of 332 rfl rfl
set_option maxRecDepth 100000 in
theorem wd_333 : Cond.methodLink RX4 68 yX4_has ∈ lw_gd := gd_of 333 rfl rfl
set_option maxRecDepth 100000 in
theorem wd_334 : Cond.methodLink RX4 57 Lib.Math.max.name ∈ lw_gd := gd_of 334 rfl rfl
set_option maxRecDepth 100000 in
theorem wd_335 : Cond.static Lib.Math.max.name ∈ lw_gd := gd_of 335 rfl rfl
set_option maxRecDepth 100000 in
theorem wd_336 : Cond.code Lib.Math.max.name Lib.Math.max.code 2 (some .int) ∈ lw_gd := gd_of 336 rfl rfl
set_option maxRecDepth 100000 in
theorem wd_338 : Cond.instanceMethod yX5_duration ∈ lw_gd := gd_of 338 rfl rfl
set_option maxRecDepth 100000 in
theorem wd_339 : Cond.selects RX5 yX5_duration yX5_duration ∈ lw_gd := gd_of 339 rfl rfl
set_option maxRecDepth 100000 in
theorem wd_340 : Cond.code yX5_duration cX5_duration 3 (some .int) ∈ lw_gd := gd_of 340 rfl rfl
set_option maxRecDepth 100000 in
theorem wd_341 : Cond.methodLink RX5 57 yX2_changeDuration ∈ lw_gd := gd_of 341 rfl rfl
set_option maxRecDepth 100000 in
theorem wd_342 : Cond.instanceMethod yX2_changeDuration ∈ lw_gd := gd_of 342 rfl rfl
set_option maxRecDepth 100000 in
theorem wd_343 : Cond.selects RX2 yX2_changeDuration yX2_changeDuration ∈ lw_gd := gd_of 343 rfl rfl
set_option maxRecDepth 100000 in
theorem wd_344 : Cond.code yX2_changeDuration cX2_changeDuration 4 (some .int) ∈ lw_gd := gd_of 344 rfl rfl
set_option maxRecDepth 100000 in
theorem wd_346 : Cond.instanceMethod yX5_move ∈ lw_gd := gd_of 346 rfl rfl
set_option maxRecDepth 100000 in
theorem wd_347 : Cond.selects RX5 yX5_move yX5_move ∈ lw_gd := gd_of 347 rfl rfl
set_option maxRecDepth 100000 in
theorem wd_348 : Cond.code yX5_move cX5_move 3 (some .int) ∈ lw_gd := gd_of 348 rfl rfl
set_option maxRecDepth 100000 in
theorem wd_349 : Cond.methodLink RX5 60 yX2_moveTask ∈ lw_gd := gd_of 349 rfl rfl
set_option maxRecDepth 100000 in
theorem wd_350 : Cond.instanceMethod yX2_moveTask ∈ lw_gd := gd_of 350 rfl rfl
set_option maxRecDepth 100000 in
theorem wd_351 : Cond.selects RX2 yX2_moveTask yX2_moveTask ∈ lw_gd := gd_of 351 rfl rfl
set_option maxRecDepth 100000 in
theorem wd_352 : Cond.code yX2_moveTask cX2_moveTask 4 (some .int) ∈ lw_gd := gd_of 352 rfl rfl
set_option maxRecDepth 100000 in
theorem wd_353 : Cond.methodLink RX2 86 yX4_placeOf ∈ lw_gd := gd_of 353 rfl rfl
set_option maxRecDepth 100000 in
theorem wd_354 : Cond.instanceMethod yX4_placeOf ∈ lw_gd := gd_of 354 rfl rfl
set_option maxRecDepth 100000 in
theorem wd_355 : Cond.selects RX4 yX4_placeOf yX4_placeOf ∈ lw_gd := gd_of 355 rfl rfl
set_option maxRecDepth 100000 in
theorem wd_356 : Cond.code yX4_placeOf cX4_placeOf 4 (some .int) ∈ lw_gd := gd_of 356 rfl rfl
set_option maxRecDepth 100000 in
theorem wd_357 : Cond.methodLink RX2 90 yX4_shift ∈ lw_gd := gd_of 357 rfl rfl
set_option maxRecDepth 100000 in
theorem wd_358 : Cond.instanceMethod yX4_shift ∈ lw_gd := gd_of 358 rfl rfl
set_option maxRecDepth 100000 in
theorem wd_359 : Cond.selects RX4 yX4_shift yX4_shift ∈ lw_gd := gd_of 359 rfl rfl
set_option maxRecDepth 100000 in
theorem wd_360 : Cond.code yX4_shift cX4_shift 6 (none) ∈ lw_gd := gd_of 360 rfl rfl
set_option maxRecDepth 100000 in
theorem wd_361 : Cond.methodLink RX4 53 yX4_placeOf ∈ lw_gd := gd_of 361 rfl rfl
set_option maxRecDepth 100000 in
theorem wd_363 : Cond.instanceMethod yX5_offer ∈ lw_gd := gd_of 363 rfl rfl
set_option maxRecDepth 100000 in
theorem wd_364 : Cond.selects RX5 yX5_offer yX5_offer ∈ lw_gd := gd_of 364 rfl rfl
set_option maxRecDepth 100000 in
theorem wd_365 : Cond.code yX5_offer cX5_offer 4 (some .int) ∈ lw_gd := gd_of 365 rfl rfl
set_option maxRecDepth 100000 in
theorem wd_366 : Cond.methodLink RX5 63 yX2_makeOffer ∈ lw_gd := gd_of 366 rfl rfl
set_option maxRecDepth 100000 in
theorem wd_367 : Cond.instanceMethod yX2_makeOffer ∈ lw_gd := gd_of 367 rfl rfl
set_option maxRecDepth 100000 in
theorem wd_368 : Cond.selects RX2 yX2_makeOffer yX2_makeOffer ∈ lw_gd := gd_of 368 rfl rfl
set_option maxRecDepth 100000 in
theorem wd_369 : Cond.code yX2_makeOffer cX2_makeOffer 5 (some .int) ∈ lw_gd := gd_of 369 rfl rfl
set_option maxRecDepth 100000 in
theorem wd_370 : Cond.methodLink RX2 94 yX2_setOffer ∈ lw_gd := gd_of 370 rfl rfl
set_option maxRecDepth 100000 in
theorem wd_372 : Cond.instanceMethod yX2_setOffer ∈ lw_gd := gd_of 372 rfl rfl
set_option maxRecDepth 100000 in
theorem wd_373 : Cond.code yX2_setOffer cX2_setOffer 4 (none) ∈ lw_gd := gd_of 373 rfl rfl
set_option maxRecDepth 100000 in
theorem wd_375 : Cond.instanceMethod yX5_trade ∈ lw_gd := gd_of 375 rfl rfl
set_option maxRecDepth 100000 in
theorem wd_376 : Cond.selects RX5 yX5_trade yX5_trade ∈ lw_gd := gd_of 376 rfl rfl
set_option maxRecDepth 100000 in
theorem wd_377 : Cond.code yX5_trade cX5_trade 1 (some .int) ∈ lw_gd := gd_of 377 rfl rfl
set_option maxRecDepth 100000 in
theorem wd_378 : Cond.methodLink RX5 67 yX2_tradeAll ∈ lw_gd := gd_of 378 rfl rfl
set_option maxRecDepth 100000 in
theorem wd_379 : Cond.instanceMethod yX2_tradeAll ∈ lw_gd := gd_of 379 rfl rfl
set_option maxRecDepth 100000 in
theorem wd_380 : Cond.selects RX2 yX2_tradeAll yX2_tradeAll ∈ lw_gd := gd_of 380 rfl rfl
set_option maxRecDepth 100000 in
theorem wd_381 : Cond.code yX2_tradeAll cX2_tradeAll 5 (some .int) ∈ lw_gd := gd_of 381 rfl rfl
set_option maxRecDepth 100000 in
theorem wd_382 : Cond.methodLink RX2 118 yX2_latestExcept ∈ lw_gd := gd_of 382 rfl rfl
set_option maxRecDepth 100000 in
theorem wd_384 : Cond.instanceMethod yX2_latestExcept ∈ lw_gd := gd_of 384 rfl rfl
set_option maxRecDepth 100000 in
theorem wd_385 : Cond.code yX2_latestExcept cX2_latestExcept 4 (some .int) ∈ lw_gd := gd_of 385 rfl rfl
set_option maxRecDepth 100000 in
theorem wd_386 : Cond.methodLink RX2 125 yX2_lateOf ∈ lw_gd := gd_of 386 rfl rfl
set_option maxRecDepth 100000 in
theorem wd_387 : Cond.instanceMethod yX2_lateOf ∈ lw_gd := gd_of 387 rfl rfl
set_option maxRecDepth 100000 in
theorem wd_388 : Cond.selects RX2 yX2_lateOf yX2_lateOf ∈ lw_gd := gd_of 388 rfl rfl
set_option maxRecDepth 100000 in
theorem wd_389 : Cond.code yX2_lateOf cX2_lateOf 2 (some .int) ∈ lw_gd := gd_of 389 rfl rfl
set_option maxRecDepth 100000 in
theorem wd_390 : Cond.methodLink RX2 161 Lib.Math.max.name ∈ lw_gd := gd_of 390 rfl rfl
set_option maxRecDepth 100000 in
theorem wd_391 : Cond.methodLink RX2 121 yX2_buyFor ∈ lw_gd := gd_of 391 rfl rfl
set_option maxRecDepth 100000 in
theorem wd_392 : Cond.instanceMethod yX2_buyFor ∈ lw_gd := gd_of 392 rfl rfl
set_option maxRecDepth 100000 in
theorem wd_393 : Cond.selects RX2 yX2_buyFor yX2_buyFor ∈ lw_gd := gd_of 393 rfl rfl
set_option maxRecDepth 100000 in
theorem wd_394 : Cond.code yX2_buyFor cX2_buyFor 5 (none) ∈ lw_gd := gd_of 394 rfl rfl
set_option maxRecDepth 100000 in
theorem wd_395 : Cond.methodLink RX2 128 yX4_measureFrom ∈ lw_gd := gd_of 395 rfl rfl
set_option maxRecDepth 100000 in
theorem wd_396 : Cond.instanceMethod yX4_measureFrom ∈ lw_gd := gd_of 396 rfl rfl
set_option maxRecDepth 100000 in
theorem wd_397 : Cond.selects RX4 yX4_measureFrom yX4_measureFrom ∈ lw_gd := gd_of 397 rfl rfl
set_option maxRecDepth 100000 in
theorem wd_398 : Cond.code yX4_measureFrom cX4_measureFrom 4 (none) ∈ lw_gd := gd_of 398 rfl rfl
set_option maxRecDepth 100000 in
theorem wd_399 : Cond.methodLink RX4 85 yX4_linkFrom ∈ lw_gd := gd_of 399 rfl rfl
set_option maxRecDepth 100000 in
theorem wd_401 : Cond.instanceMethod yX4_linkFrom ∈ lw_gd := gd_of 401 rfl rfl
set_option maxRecDepth 100000 in
theorem wd_402 : Cond.code yX4_linkFrom cX4_linkFrom 4 (none) ∈ lw_gd := gd_of 402 rfl rfl
set_option maxRecDepth 100000 in
theorem wd_403 : Cond.methodLink RX2 131 yX2_bestSellerExcept ∈ lw_gd := gd_of 403 rfl rfl
set_option maxRecDepth 100000 in
theorem wd_405 : Cond.instanceMethod yX2_bestSellerExcept ∈ lw_gd := gd_of 405 rfl rfl
set_option maxRecDepth 100000 in
theorem wd_406 : Cond.code yX2_bestSellerExcept cX2_bestSellerExcept 4 (some .int) ∈ lw_gd := gd_of 406 rfl rfl
set_option maxRecDepth 100000 in
theorem wd_407 : Cond.methodLink RX2 137 yX2_isInReach ∈ lw_gd := gd_of 407 rfl rfl
set_option maxRecDepth 100000 in
theorem wd_409 : Cond.instanceMethod yX2_isInReach ∈ lw_gd := gd_of 409 rfl rfl
set_option maxRecDepth 100000 in
theorem wd_410 : Cond.code yX2_isInReach cX2_isInReach 3 (some .boolean) ∈ lw_gd := gd_of 410 rfl rfl
set_option maxRecDepth 100000 in
theorem wd_411 : Cond.methodLink RX2 140 yX2_isBetterSeller ∈ lw_gd := gd_of 411 rfl rfl
set_option maxRecDepth 100000 in
theorem wd_413 : Cond.instanceMethod yX2_isBetterSeller ∈ lw_gd := gd_of 413 rfl rfl
set_option maxRecDepth 100000 in
theorem wd_414 : Cond.code yX2_isBetterSeller cX2_isBetterSeller 3 (some .boolean) ∈ lw_gd := gd_of 414 rfl rfl
set_option maxRecDepth 100000 in
theorem wd_415 : Cond.methodLink RX2 134 yX2_buyFrom ∈ lw_gd := gd_of 415 rfl rfl
set_option maxRecDepth 100000 in
theorem wd_417 : Cond.instanceMethod yX2_buyFrom ∈ lw_gd := gd_of 417 rfl rfl
set_option maxRecDepth 100000 in
theorem wd_418 : Cond.code yX2_buyFrom cX2_buyFrom 5 (none) ∈ lw_gd := gd_of 418 rfl rfl
set_option maxRecDepth 100000 in
theorem wd_419 : Cond.methodLink RX2 147 yX0_isFull ∈ lw_gd := gd_of 419 rfl rfl
set_option maxRecDepth 100000 in
theorem wd_420 : Cond.instanceMethod yX0_isFull ∈ lw_gd := gd_of 420 rfl rfl
set_option maxRecDepth 100000 in
theorem wd_421 : Cond.selects RX0 yX0_isFull yX0_isFull ∈ lw_gd := gd_of 421 rfl rfl
set_option maxRecDepth 100000 in
theorem wd_422 : Cond.code yX0_isFull cX0_isFull 1 (some .boolean) ∈ lw_gd := gd_of 422 rfl rfl
set_option maxRecDepth 100000 in
theorem wd_423 : Cond.methodLink RX2 150 yX2_spareOf ∈ lw_gd := gd_of 423 rfl rfl
set_option maxRecDepth 100000 in
theorem wd_424 : Cond.instanceMethod yX2_spareOf ∈ lw_gd := gd_of 424 rfl rfl
set_option maxRecDepth 100000 in
theorem wd_425 : Cond.selects RX2 yX2_spareOf yX2_spareOf ∈ lw_gd := gd_of 425 rfl rfl
set_option maxRecDepth 100000 in
theorem wd_426 : Cond.code yX2_spareOf cX2_spareOf 2 (some .int) ∈ lw_gd := gd_of 426 rfl rfl
set_option maxRecDepth 100000 in
theorem wd_427 : Cond.methodLink RX2 153 Lib.Math.min.name ∈ lw_gd := gd_of 427 rfl rfl
set_option maxRecDepth 100000 in
theorem wd_428 : Cond.static Lib.Math.min.name ∈ lw_gd := gd_of 428 rfl rfl
set_option maxRecDepth 100000 in
theorem wd_429 : Cond.code Lib.Math.min.name Lib.Math.min.code 2 (some .int) ∈ lw_gd := gd_of 429 rfl rfl
set_option maxRecDepth 100000 in
theorem wd_430 : Cond.methodLink RX2 158 yX0_append ∈ lw_gd := gd_of 430 rfl rfl
set_option maxRecDepth 100000 in
theorem wd_431 : Cond.instanceMethod yX0_append ∈ lw_gd := gd_of 431 rfl rfl
set_option maxRecDepth 100000 in
theorem wd_432 : Cond.selects RX0 yX0_append yX0_append ∈ lw_gd := gd_of 432 rfl rfl
set_option maxRecDepth 100000 in
theorem wd_433 : Cond.code yX0_append cX0_append 5 (none) ∈ lw_gd := gd_of 433 rfl rfl
set_option maxRecDepth 100000 in
theorem wd_434 : Cond.methodLink RX0 38 yX0_isFull ∈ lw_gd := gd_of 434 rfl rfl
set_option maxRecDepth 100000 in
theorem wd_436 : Cond.instanceMethod yX5_refund ∈ lw_gd := gd_of 436 rfl rfl
set_option maxRecDepth 100000 in
theorem wd_437 : Cond.selects RX5 yX5_refund yX5_refund ∈ lw_gd := gd_of 437 rfl rfl
set_option maxRecDepth 100000 in
theorem wd_438 : Cond.code yX5_refund cX5_refund 3 (some .int) ∈ lw_gd := gd_of 438 rfl rfl
set_option maxRecDepth 100000 in
theorem wd_439 : Cond.methodLink RX5 71 yX2_giveBack ∈ lw_gd := gd_of 439 rfl rfl
set_option maxRecDepth 100000 in
theorem wd_440 : Cond.instanceMethod yX2_giveBack ∈ lw_gd := gd_of 440 rfl rfl
set_option maxRecDepth 100000 in
theorem wd_441 : Cond.selects RX2 yX2_giveBack yX2_giveBack ∈ lw_gd := gd_of 441 rfl rfl
set_option maxRecDepth 100000 in
theorem wd_442 : Cond.code yX2_giveBack cX2_giveBack 6 (some .int) ∈ lw_gd := gd_of 442 rfl rfl
set_option maxRecDepth 100000 in
theorem wd_443 : Cond.methodLink RX2 97 yX0_has ∈ lw_gd := gd_of 443 rfl rfl
set_option maxRecDepth 100000 in
theorem wd_444 : Cond.instanceMethod yX0_has ∈ lw_gd := gd_of 444 rfl rfl
set_option maxRecDepth 100000 in
theorem wd_445 : Cond.selects RX0 yX0_has yX0_has ∈ lw_gd := gd_of 445 rfl rfl
set_option maxRecDepth 100000 in
theorem wd_446 : Cond.code yX0_has cX0_has 2 (some .boolean) ∈ lw_gd := gd_of 446 rfl rfl
set_option maxRecDepth 100000 in
theorem wd_447 : Cond.methodLink RX2 111 yX0_lessen ∈ lw_gd := gd_of 447 rfl rfl
set_option maxRecDepth 100000 in
theorem wd_448 : Cond.instanceMethod yX0_lessen ∈ lw_gd := gd_of 448 rfl rfl
set_option maxRecDepth 100000 in
theorem wd_449 : Cond.selects RX0 yX0_lessen yX0_lessen ∈ lw_gd := gd_of 449 rfl rfl
set_option maxRecDepth 100000 in
theorem wd_450 : Cond.code yX0_lessen cX0_lessen 4 (some .int) ∈ lw_gd := gd_of 450 rfl rfl
set_option maxRecDepth 100000 in
theorem wd_451 : Cond.methodLink RX0 42 yX0_remove ∈ lw_gd := gd_of 451 rfl rfl
set_option maxRecDepth 100000 in
theorem wd_453 : Cond.instanceMethod yX0_remove ∈ lw_gd := gd_of 453 rfl rfl
set_option maxRecDepth 100000 in
theorem wd_454 : Cond.code yX0_remove cX0_remove 3 (none) ∈ lw_gd := gd_of 454 rfl rfl
set_option maxRecDepth 100000 in
theorem wd_456 : Cond.instanceMethod yX5_give ∈ lw_gd := gd_of 456 rfl rfl
set_option maxRecDepth 100000 in
theorem wd_457 : Cond.selects RX5 yX5_give yX5_give ∈ lw_gd := gd_of 457 rfl rfl
set_option maxRecDepth 100000 in
theorem wd_458 : Cond.code yX5_give cX5_give 4 (some .int) ∈ lw_gd := gd_of 458 rfl rfl
set_option maxRecDepth 100000 in
theorem wd_459 : Cond.methodLink RX5 74 yX2_giveMoney ∈ lw_gd := gd_of 459 rfl rfl
set_option maxRecDepth 100000 in
theorem wd_460 : Cond.instanceMethod yX2_giveMoney ∈ lw_gd := gd_of 460 rfl rfl
set_option maxRecDepth 100000 in
theorem wd_461 : Cond.selects RX2 yX2_giveMoney yX2_giveMoney ∈ lw_gd := gd_of 461 rfl rfl
set_option maxRecDepth 100000 in
theorem wd_462 : Cond.code yX2_giveMoney cX2_giveMoney 4 (some .int) ∈ lw_gd := gd_of 462 rfl rfl
set_option maxRecDepth 100000 in
theorem wd_464 : Cond.instanceMethod yX5_ofTask ∈ lw_gd := gd_of 464 rfl rfl
set_option maxRecDepth 100000 in
theorem wd_465 : Cond.selects RX5 yX5_ofTask yX5_ofTask ∈ lw_gd := gd_of 465 rfl rfl
set_option maxRecDepth 100000 in
theorem wd_466 : Cond.code yX5_ofTask cX5_ofTask 3 (some .int) ∈ lw_gd := gd_of 466 rfl rfl
set_option maxRecDepth 100000 in
theorem wd_467 : Cond.methodLink RX5 77 yX2_tellOfTask ∈ lw_gd := gd_of 467 rfl rfl
set_option maxRecDepth 100000 in
theorem wd_468 : Cond.instanceMethod yX2_tellOfTask ∈ lw_gd := gd_of 468 rfl rfl
set_option maxRecDepth 100000 in
theorem wd_469 : Cond.selects RX2 yX2_tellOfTask yX2_tellOfTask ∈ lw_gd := gd_of 469 rfl rfl
set_option maxRecDepth 100000 in
theorem wd_470 : Cond.code yX2_tellOfTask cX2_tellOfTask 3 (some .int) ∈ lw_gd := gd_of 470 rfl rfl
set_option maxRecDepth 100000 in
theorem wd_471 : Cond.methodLink RX2 180 yX4_startOf ∈ lw_gd := gd_of 471 rfl rfl
set_option maxRecDepth 100000 in
theorem wd_472 : Cond.instanceMethod yX4_startOf ∈ lw_gd := gd_of 472 rfl rfl
set_option maxRecDepth 100000 in
theorem wd_473 : Cond.selects RX4 yX4_startOf yX4_startOf ∈ lw_gd := gd_of 473 rfl rfl
set_option maxRecDepth 100000 in
theorem wd_474 : Cond.code yX4_startOf cX4_startOf 2 (some .int) ∈ lw_gd := gd_of 474 rfl rfl
set_option maxRecDepth 100000 in
theorem wd_475 : Cond.methodLink RX2 183 yX4_endOf ∈ lw_gd := gd_of 475 rfl rfl
set_option maxRecDepth 100000 in
theorem wd_476 : Cond.methodLink RX2 186 yX2_slackOf ∈ lw_gd := gd_of 476 rfl rfl
set_option maxRecDepth 100000 in
theorem wd_478 : Cond.instanceMethod yX2_slackOf ∈ lw_gd := gd_of 478 rfl rfl
set_option maxRecDepth 100000 in
theorem wd_479 : Cond.code yX2_slackOf cX2_slackOf 5 (some .int) ∈ lw_gd := gd_of 479 rfl rfl
set_option maxRecDepth 100000 in
theorem wd_480 : Cond.methodLink RX2 164 yX2_lateTogether ∈ lw_gd := gd_of 480 rfl rfl
set_option maxRecDepth 100000 in
theorem wd_481 : Cond.instanceMethod yX2_lateTogether ∈ lw_gd := gd_of 481 rfl rfl
set_option maxRecDepth 100000 in
theorem wd_482 : Cond.selects RX2 yX2_lateTogether yX2_lateTogether ∈ lw_gd := gd_of 482 rfl rfl
set_option maxRecDepth 100000 in
theorem wd_483 : Cond.code yX2_lateTogether cX2_lateTogether 3 (some .int) ∈ lw_gd := gd_of 483 rfl rfl
set_option maxRecDepth 100000 in
theorem wd_484 : Cond.methodLink RX2 171 yX4_inFrontOf ∈ lw_gd := gd_of 484 rfl rfl
set_option maxRecDepth 100000 in
theorem wd_485 : Cond.instanceMethod yX4_inFrontOf ∈ lw_gd := gd_of 485 rfl rfl
set_option maxRecDepth 100000 in
theorem wd_486 : Cond.selects RX4 yX4_inFrontOf yX4_inFrontOf ∈ lw_gd := gd_of 486 rfl rfl
set_option maxRecDepth 100000 in
theorem wd_487 : Cond.code yX4_inFrontOf cX4_inFrontOf 2 (some .int) ∈ lw_gd := gd_of 487 rfl rfl
set_option maxRecDepth 100000 in
theorem wd_488 : Cond.methodLink RX2 174 yX2_lowerLatestEnd ∈ lw_gd := gd_of 488 rfl rfl
set_option maxRecDepth 100000 in
theorem wd_490 : Cond.instanceMethod yX2_lowerLatestEnd ∈ lw_gd := gd_of 490 rfl rfl
set_option maxRecDepth 100000 in
theorem wd_491 : Cond.code yX2_lowerLatestEnd cX2_lowerLatestEnd 3 (none) ∈ lw_gd := gd_of 491 rfl rfl
set_option maxRecDepth 100000 in
theorem wd_492 : Cond.methodLink RX2 189 yX0_soldBy ∈ lw_gd := gd_of 492 rfl rfl
set_option maxRecDepth 100000 in
theorem wd_493 : Cond.instanceMethod yX0_soldBy ∈ lw_gd := gd_of 493 rfl rfl
set_option maxRecDepth 100000 in
theorem wd_494 : Cond.selects RX0 yX0_soldBy yX0_soldBy ∈ lw_gd := gd_of 494 rfl rfl
set_option maxRecDepth 100000 in
theorem wd_495 : Cond.code yX0_soldBy cX0_soldBy 4 (some .int) ∈ lw_gd := gd_of 495 rfl rfl
set_option maxRecDepth 100000 in
theorem wd_496 : Cond.methodLink RX2 192 yX0_boughtBy ∈ lw_gd := gd_of 496 rfl rfl
set_option maxRecDepth 100000 in
theorem wd_497 : Cond.instanceMethod yX0_boughtBy ∈ lw_gd := gd_of 497 rfl rfl
set_option maxRecDepth 100000 in
theorem wd_498 : Cond.selects RX0 yX0_boughtBy yX0_boughtBy ∈ lw_gd := gd_of 498 rfl rfl
set_option maxRecDepth 100000 in
theorem wd_499 : Cond.code yX0_boughtBy cX0_boughtBy 4 (some .int) ∈ lw_gd := gd_of 499 rfl rfl
set_option maxRecDepth 100000 in
theorem wd_500 : Cond.methodLink RX2 195 yX4_followersOf ∈ lw_gd := gd_of 500 rfl rfl
set_option maxRecDepth 100000 in
theorem wd_501 : Cond.instanceMethod yX4_followersOf ∈ lw_gd := gd_of 501 rfl rfl
set_option maxRecDepth 100000 in
theorem wd_502 : Cond.selects RX4 yX4_followersOf yX4_followersOf ∈ lw_gd := gd_of 502 rfl rfl
set_option maxRecDepth 100000 in
theorem wd_503 : Cond.code yX4_followersOf cX4_followersOf 5 (some .int) ∈ lw_gd := gd_of 503 rfl rfl
set_option maxRecDepth 100000 in
theorem wd_505 : Cond.instanceMethod yX5_due ∈ lw_gd := gd_of 505 rfl rfl
set_option maxRecDepth 100000 in
theorem wd_506 : Cond.selects RX5 yX5_due yX5_due ∈ lw_gd := gd_of 506 rfl rfl
set_option maxRecDepth 100000 in
theorem wd_507 : Cond.code yX5_due cX5_due 2 (some .long) ∈ lw_gd := gd_of 507 rfl rfl
set_option maxRecDepth 100000 in
theorem wd_508 : Cond.methodLink RX5 84 yX4_has ∈ lw_gd := gd_of 508 rfl rfl
set_option maxRecDepth 100000 in
theorem wd_509 : Cond.constantLong RX5 94 (-1 : Int64) ∈ lw_gd := gd_of 509 rfl rfl
set_option maxRecDepth 100000 in
theorem wd_511 : Cond.instanceMethod yX5_money ∈ lw_gd := gd_of 511 rfl rfl
set_option maxRecDepth 100000 in
theorem wd_512 : Cond.selects RX5 yX5_money yX5_money ∈ lw_gd := gd_of 512 rfl rfl
set_option maxRecDepth 100000 in
theorem wd_513 : Cond.code yX5_money cX5_money 2 (some .int) ∈ lw_gd := gd_of 513 rfl rfl
set_option maxRecDepth 100000 in
theorem wd_515 : Cond.instanceMethod yX5_at ∈ lw_gd := gd_of 515 rfl rfl
set_option maxRecDepth 100000 in
theorem wd_516 : Cond.selects RX5 yX5_at yX5_at ∈ lw_gd := gd_of 516 rfl rfl
set_option maxRecDepth 100000 in
theorem wd_517 : Cond.code yX5_at cX5_at 3 (some .int) ∈ lw_gd := gd_of 517 rfl rfl
set_option maxRecDepth 100000 in
theorem wd_518 : Cond.methodLink RX5 99 yX4_inRow ∈ lw_gd := gd_of 518 rfl rfl
set_option maxRecDepth 100000 in
theorem wd_520 : Cond.instanceMethod yX5_ofContract ∈ lw_gd := gd_of 520 rfl rfl
set_option maxRecDepth 100000 in
theorem wd_521 : Cond.selects RX5 yX5_ofContract yX5_ofContract ∈ lw_gd := gd_of 521 rfl rfl
set_option maxRecDepth 100000 in
theorem wd_522 : Cond.code yX5_ofContract cX5_ofContract 3 (some .int) ∈ lw_gd := gd_of 522 rfl rfl
set_option maxRecDepth 100000 in
theorem wd_523 : Cond.methodLink RX5 106 yX0_tell ∈ lw_gd := gd_of 523 rfl rfl
set_option maxRecDepth 100000 in
theorem wd_524 : Cond.instanceMethod yX0_tell ∈ lw_gd := gd_of 524 rfl rfl
set_option maxRecDepth 100000 in
theorem wd_525 : Cond.selects RX0 yX0_tell yX0_tell ∈ lw_gd := gd_of 525 rfl rfl
set_option maxRecDepth 100000 in
theorem wd_526 : Cond.code yX0_tell cX0_tell 3 (some .int) ∈ lw_gd := gd_of 526 rfl rfl
set_option maxRecDepth 100000 in
theorem wd_527 : Cond.methodLink RX0 34 yX0_has ∈ lw_gd := gd_of 527 rfl rfl
set_option maxRecDepth 100000 in
theorem wd_529 : Cond.instanceMethod yX5_count ∈ lw_gd := gd_of 529 rfl rfl
set_option maxRecDepth 100000 in
theorem wd_530 : Cond.selects RX5 yX5_count yX5_count ∈ lw_gd := gd_of 530 rfl rfl
set_option maxRecDepth 100000 in
theorem wd_531 : Cond.code yX5_count cX5_count 2 (some .int) ∈ lw_gd := gd_of 531 rfl rfl
set_option maxRecDepth 100000 in
theorem wd_532 : Cond.methodLink RX5 118 yX2_tellOfAll ∈ lw_gd := gd_of 532 rfl rfl
set_option maxRecDepth 100000 in
theorem wd_533 : Cond.instanceMethod yX2_tellOfAll ∈ lw_gd := gd_of 533 rfl rfl
set_option maxRecDepth 100000 in
theorem wd_534 : Cond.selects RX2 yX2_tellOfAll yX2_tellOfAll ∈ lw_gd := gd_of 534 rfl rfl
set_option maxRecDepth 100000 in
theorem wd_535 : Cond.code yX2_tellOfAll cX2_tellOfAll 2 (some .int) ∈ lw_gd := gd_of 535 rfl rfl
set_option maxRecDepth 100000 in
theorem wd_536 : Cond.methodLink RX2 198 yX2_offers ∈ lw_gd := gd_of 536 rfl rfl
set_option maxRecDepth 100000 in
theorem wd_538 : Cond.instanceMethod yX2_offers ∈ lw_gd := gd_of 538 rfl rfl
set_option maxRecDepth 100000 in
theorem wd_539 : Cond.code yX2_offers cX2_offers 3 (some .int) ∈ lw_gd := gd_of 539 rfl rfl
set_option maxRecDepth 100000 in
theorem wd_540 : Cond.methodLink RX2 201 yX2_lateTasks ∈ lw_gd := gd_of 540 rfl rfl
set_option maxRecDepth 100000 in
theorem wd_542 : Cond.instanceMethod yX2_lateTasks ∈ lw_gd := gd_of 542 rfl rfl
set_option maxRecDepth 100000 in
theorem wd_543 : Cond.code yX2_lateTasks cX2_lateTasks 3 (some .int) ∈ lw_gd := gd_of 543 rfl rfl
set_option maxRecDepth 100000 in
theorem wd_544 : Cond.methodLink RX2 204 yX4_endOfAll ∈ lw_gd := gd_of 544 rfl rfl
set_option maxRecDepth 100000 in
theorem wd_545 : Cond.instanceMethod yX4_endOfAll ∈ lw_gd := gd_of 545 rfl rfl
set_option maxRecDepth 100000 in
theorem wd_546 : Cond.selects RX4 yX4_endOfAll yX4_endOfAll ∈ lw_gd := gd_of 546 rfl rfl
set_option maxRecDepth 100000 in
theorem wd_547 : Cond.code yX4_endOfAll cX4_endOfAll 3 (some .int) ∈ lw_gd := gd_of 547 rfl rfl
set_option maxRecDepth 100000 in
theorem wd_548 : Cond.methodLink RX2 207 yX2_allMoney ∈ lw_gd := gd_of 548 rfl rfl
set_option maxRecDepth 100000 in
theorem wd_550 : Cond.instanceMethod yX2_allMoney ∈ lw_gd := gd_of 550 rfl rfl
set_option maxRecDepth 100000 in
theorem wd_551 : Cond.code yX2_allMoney cX2_allMoney 3 (some .int) ∈ lw_gd := gd_of 551 rfl rfl
set_option maxRecDepth 100000 in
theorem wd_552 : Cond.methodLink RX2 210 yX0_allHours ∈ lw_gd := gd_of 552 rfl rfl
set_option maxRecDepth 100000 in
theorem wd_553 : Cond.instanceMethod yX0_allHours ∈ lw_gd := gd_of 553 rfl rfl
set_option maxRecDepth 100000 in
theorem wd_554 : Cond.selects RX0 yX0_allHours yX0_allHours ∈ lw_gd := gd_of 554 rfl rfl
set_option maxRecDepth 100000 in
theorem wd_555 : Cond.code yX0_allHours cX0_allHours 3 (some .int) ∈ lw_gd := gd_of 555 rfl rfl
set_option maxRecDepth 100000 in
theorem wd_557 : Cond.instanceMethod yX5_distance ∈ lw_gd := gd_of 557 rfl rfl
set_option maxRecDepth 100000 in
theorem wd_558 : Cond.selects RX5 yX5_distance yX5_distance ∈ lw_gd := gd_of 558 rfl rfl
set_option maxRecDepth 100000 in
theorem wd_559 : Cond.code yX5_distance cX5_distance 3 (some .int) ∈ lw_gd := gd_of 559 rfl rfl
set_option maxRecDepth 100000 in
theorem wd_560 : Cond.methodLink RX5 121 yX4_measureFrom ∈ lw_gd := gd_of 560 rfl rfl
set_option maxRecDepth 100000 in
theorem wd_562 : Cond.instanceMethod yX5_wouldBuy ∈ lw_gd := gd_of 562 rfl rfl
set_option maxRecDepth 100000 in
theorem wd_563 : Cond.selects RX5 yX5_wouldBuy yX5_wouldBuy ∈ lw_gd := gd_of 563 rfl rfl
set_option maxRecDepth 100000 in
theorem wd_564 : Cond.code yX5_wouldBuy cX5_wouldBuy 3 (some .int) ∈ lw_gd := gd_of 564 rfl rfl
set_option maxRecDepth 100000 in
theorem wd_565 : Cond.methodLink RX5 128 yX2_copyFrom ∈ lw_gd := gd_of 565 rfl rfl
set_option maxRecDepth 100000 in
theorem wd_566 : Cond.methodLink RX5 131 yX2_buyFor ∈ lw_gd := gd_of 566 rfl rfl
set_option maxRecDepth 100000 in
theorem wd_567 : Cond.methodLink RX5 134 yX2_lateOf ∈ lw_gd := gd_of 567 rfl rfl
set_option maxRecDepth 100000 in
theorem wd_568 : Cond.methodLink RX5 140 yX0_sellersSince ∈ lw_gd := gd_of 568 rfl rfl
set_option maxRecDepth 100000 in
theorem wd_569 : Cond.instanceMethod yX0_sellersSince ∈ lw_gd := gd_of 569 rfl rfl
set_option maxRecDepth 100000 in
theorem wd_570 : Cond.selects RX0 yX0_sellersSince yX0_sellersSince ∈ lw_gd := gd_of 570 rfl rfl
set_option maxRecDepth 100000 in
theorem wd_571 : Cond.code yX0_sellersSince cX0_sellersSince 4 (some .int) ∈ lw_gd := gd_of 571 rfl rfl
set_option maxRecDepth 100000 in
theorem wd_572 : Cond.methodLink RX0 46 Lib.Math.max.name ∈ lw_gd := gd_of 572 rfl rfl
set_option maxRecDepth 100000 in
theorem wd_574 : Cond.instanceMethod yX5_leastMoney ∈ lw_gd := gd_of 574 rfl rfl
set_option maxRecDepth 100000 in
theorem wd_575 : Cond.selects RX5 yX5_leastMoney yX5_leastMoney ∈ lw_gd := gd_of 575 rfl rfl
set_option maxRecDepth 100000 in
theorem wd_576 : Cond.code yX5_leastMoney cX5_leastMoney 2 (some .int) ∈ lw_gd := gd_of 576 rfl rfl
set_option maxRecDepth 100000 in
theorem wd_577 : Cond.constant RX5 143 (100000000 : Int32) ∈ lw_gd := gd_of 577 rfl rfl
set_option maxRecDepth 100000 in
theorem wd_579 : Cond.instanceMethod yX5_endIf ∈ lw_gd := gd_of 579 rfl rfl
set_option maxRecDepth 100000 in
theorem wd_580 : Cond.selects RX5 yX5_endIf yX5_endIf ∈ lw_gd := gd_of 580 rfl rfl
set_option maxRecDepth 100000 in
theorem wd_581 : Cond.code yX5_endIf cX5_endIf 5 (some .int) ∈ lw_gd := gd_of 581 rfl rfl
set_option maxRecDepth 100000 in
theorem wd_582 : Cond.methodLink RX5 144 yX4_endOf ∈ lw_gd := gd_of 582 rfl rfl
set_option maxRecDepth 100000 in
theorem wd_584 : Cond.instanceMethod yX5_bestPlace ∈ lw_gd := gd_of 584 rfl rfl
set_option maxRecDepth 100000 in
theorem wd_585 : Cond.selects RX5 yX5_bestPlace yX5_bestPlace ∈ lw_gd := gd_of 585 rfl rfl
set_option maxRecDepth 100000 in
theorem wd_586 : Cond.code yX5_bestPlace cX5_bestPlace 2 (some .int) ∈ lw_gd := gd_of 586 rfl rfl
set_option maxRecDepth 100000 in
theorem wd_587 : Cond.methodLink RX5 147 yX2_findBestPlace ∈ lw_gd := gd_of 587 rfl rfl
set_option maxRecDepth 100000 in
theorem wd_588 : Cond.instanceMethod yX2_findBestPlace ∈ lw_gd := gd_of 588 rfl rfl
set_option maxRecDepth 100000 in
theorem wd_589 : Cond.selects RX2 yX2_findBestPlace yX2_findBestPlace ∈ lw_gd := gd_of 589 rfl rfl
set_option maxRecDepth 100000 in
theorem wd_590 : Cond.code yX2_findBestPlace cX2_findBestPlace 5 (some .int) ∈ lw_gd := gd_of 590 rfl rfl
set_option maxRecDepth 100000 in
theorem wd_592 : Cond.instanceMethod yX5_critical ∈ lw_gd := gd_of 592 rfl rfl
set_option maxRecDepth 100000 in
theorem wd_593 : Cond.selects RX5 yX5_critical yX5_critical ∈ lw_gd := gd_of 593 rfl rfl
set_option maxRecDepth 100000 in
theorem wd_594 : Cond.code yX5_critical cX5_critical 1 (some .int) ∈ lw_gd := gd_of 594 rfl rfl
set_option maxRecDepth 100000 in
theorem wd_595 : Cond.methodLink RX5 150 yX4_longestChain ∈ lw_gd := gd_of 595 rfl rfl
set_option maxRecDepth 100000 in
theorem wd_596 : Cond.instanceMethod yX4_longestChain ∈ lw_gd := gd_of 596 rfl rfl
set_option maxRecDepth 100000 in
theorem wd_597 : Cond.selects RX4 yX4_longestChain yX4_longestChain ∈ lw_gd := gd_of 597 rfl rfl
set_option maxRecDepth 100000 in
theorem wd_598 : Cond.code yX4_longestChain cX4_longestChain 5 (some .int) ∈ lw_gd := gd_of 598 rfl rfl
set_option maxRecDepth 100000 in
theorem wd_599 : Cond.methodLink RX4 72 yX4_endOfAll ∈ lw_gd := gd_of 599 rfl rfl
set_option maxRecDepth 100000 in
theorem wd_600 : Cond.methodLink RX4 76 yX4_waitedFor ∈ lw_gd := gd_of 600 rfl rfl
set_option maxRecDepth 100000 in
theorem wd_602 : Cond.instanceMethod yX4_waitedFor ∈ lw_gd := gd_of 602 rfl rfl
set_option maxRecDepth 100000 in
theorem wd_603 : Cond.code yX4_waitedFor cX4_waitedFor 6 (some .int) ∈ lw_gd := gd_of 603 rfl rfl
set_option maxRecDepth 100000 in
theorem wd_604 : Cond.methodLink RX4 79 yX4_startOf ∈ lw_gd := gd_of 604 rfl rfl
set_option maxRecDepth 100000 in
theorem wd_605 : Cond.methodLink RX4 82 yX4_inFrontOf ∈ lw_gd := gd_of 605 rfl rfl
set_option maxRecDepth 100000 in
theorem wd_607 : Cond.instanceMethod yX5_lateBehind ∈ lw_gd := gd_of 607 rfl rfl
set_option maxRecDepth 100000 in
theorem wd_608 : Cond.selects RX5 yX5_lateBehind yX5_lateBehind ∈ lw_gd := gd_of 608 rfl rfl
set_option maxRecDepth 100000 in
theorem wd_609 : Cond.code yX5_lateBehind cX5_lateBehind 1 (some .int) ∈ lw_gd := gd_of 609 rfl rfl
set_option maxRecDepth 100000 in
theorem wd_610 : Cond.methodLink RX5 153 yX2_lateTogether ∈ lw_gd := gd_of 610 rfl rfl
set_option maxRecDepth 100000 in
theorem wd_612 : Cond.instanceMethod yX5_put ∈ lw_gd := gd_of 612 rfl rfl
set_option maxRecDepth 100000 in
theorem wd_613 : Cond.selects RX5 yX5_put yX5_put ∈ lw_gd := gd_of 613 rfl rfl
set_option maxRecDepth 100000 in
theorem wd_614 : Cond.code yX5_put cX5_put 3 (some .int) ∈ lw_gd := gd_of 614 rfl rfl
set_option maxRecDepth 100000 in
theorem wd_615 : Cond.methodLink RX5 156 yX3_append ∈ lw_gd := gd_of 615 rfl rfl
set_option maxRecDepth 100000 in
theorem wd_616 : Cond.instanceMethod yX3_append ∈ lw_gd := gd_of 616 rfl rfl
set_option maxRecDepth 100000 in
theorem wd_617 : Cond.selects RX3 yX3_append yX3_append ∈ lw_gd := gd_of 617 rfl rfl
set_option maxRecDepth 100000 in
theorem wd_618 : Cond.code yX3_append cX3_append 7 (some .int) ∈ lw_gd := gd_of 618 rfl rfl
set_option maxRecDepth 100000 in
theorem wd_619 : Cond.constantLong RX3 19 (255 : Int64) ∈ lw_gd := gd_of 619 rfl rfl
set_option maxRecDepth 100000 in
theorem wd_620 : Cond.constantLong RX3 21 (33 : Int64) ∈ lw_gd := gd_of 620 rfl rfl
set_option maxRecDepth 100000 in
theorem wd_621 : Cond.constantLong RX3 23 (126 : Int64) ∈ lw_gd := gd_of 621 rfl rfl
set_option maxRecDepth 100000 in
theorem wd_623 : Cond.instanceMethod yX5_wipe ∈ lw_gd := gd_of 623 rfl rfl
set_option maxRecDepth 100000 in
theorem wd_624 : Cond.selects RX5 yX5_wipe yX5_wipe ∈ lw_gd := gd_of 624 rfl rfl
set_option maxRecDepth 100000 in
theorem wd_625 : Cond.code yX5_wipe cX5_wipe 1 (some .int) ∈ lw_gd := gd_of 625 rfl rfl
set_option maxRecDepth 100000 in
theorem wd_626 : Cond.methodLink RX5 160 yX3_clear ∈ lw_gd := gd_of 626 rfl rfl
set_option maxRecDepth 100000 in
theorem wd_627 : Cond.instanceMethod yX3_clear ∈ lw_gd := gd_of 627 rfl rfl
set_option maxRecDepth 100000 in
theorem wd_628 : Cond.selects RX3 yX3_clear yX3_clear ∈ lw_gd := gd_of 628 rfl rfl
set_option maxRecDepth 100000 in
theorem wd_629 : Cond.code yX3_clear cX3_clear 2 (some .int) ∈ lw_gd := gd_of 629 rfl rfl
set_option maxRecDepth 100000 in
theorem wd_631 : Cond.instanceMethod yX5_fault ∈ lw_gd := gd_of 631 rfl rfl
set_option maxRecDepth 100000 in
theorem wd_632 : Cond.selects RX5 yX5_fault yX5_fault ∈ lw_gd := gd_of 632 rfl rfl
set_option maxRecDepth 100000 in
theorem wd_633 : Cond.code yX5_fault cX5_fault 1 (some .int) ∈ lw_gd := gd_of 633 rfl rfl
set_option maxRecDepth 100000 in
theorem wd_634 : Cond.methodLink RX5 163 yX3_findFault ∈ lw_gd := gd_of 634 rfl rfl
set_option maxRecDepth 100000 in
theorem wd_635 : Cond.instanceMethod yX3_findFault ∈ lw_gd := gd_of 635 rfl rfl
set_option maxRecDepth 100000 in
theorem wd_636 : Cond.selects RX3 yX3_findFault yX3_findFault ∈ lw_gd := gd_of 636 rfl rfl
set_option maxRecDepth 100000 in
theorem wd_637 : Cond.code yX3_findFault cX3_findFault 2 (some .int) ∈ lw_gd := gd_of 637 rfl rfl
set_option maxRecDepth 100000 in
theorem wd_638 : Cond.methodLink RX3 32 yX3_toStart ∈ lw_gd := gd_of 638 rfl rfl
set_option maxRecDepth 100000 in
theorem wd_639 : Cond.instanceMethod yX3_toStart ∈ lw_gd := gd_of 639 rfl rfl
set_option maxRecDepth 100000 in
theorem wd_640 : Cond.selects RX3 yX3_toStart yX3_toStart ∈ lw_gd := gd_of 640 rfl rfl
set_option maxRecDepth 100000 in
theorem wd_641 : Cond.code yX3_toStart cX3_toStart 1 (none) ∈ lw_gd := gd_of 641 rfl rfl
set_option maxRecDepth 100000 in
theorem wd_642 : Cond.methodLink RX3 35 yX3_readOrder ∈ lw_gd := gd_of 642 rfl rfl
set_option maxRecDepth 100000 in
theorem wd_643 : Cond.instanceMethod yX3_readOrder ∈ lw_gd := gd_of 643 rfl rfl
set_option maxRecDepth 100000 in
theorem wd_644 : Cond.selects RX3 yX3_readOrder yX3_readOrder ∈ lw_gd := gd_of 644 rfl rfl
set_option maxRecDepth 100000 in
theorem wd_645 : Cond.code yX3_readOrder cX3_readOrder 1 (some .boolean) ∈ lw_gd := gd_of 645 rfl rfl
set_option maxRecDepth 100000 in
theorem wd_646 : Cond.methodLink RX3 49 yX3_here ∈ lw_gd := gd_of 646 rfl rfl
set_option maxRecDepth 100000 in
theorem wd_648 : Cond.instanceMethod yX3_here ∈ lw_gd := gd_of 648 rfl rfl
set_option maxRecDepth 100000 in
theorem wd_649 : Cond.code yX3_here cX3_here 1 (some .int) ∈ lw_gd := gd_of 649 rfl rfl
set_option maxRecDepth 100000 in
theorem wd_650 : Cond.methodLink RX3 42 yX3_readSign ∈ lw_gd := gd_of 650 rfl rfl
set_option maxRecDepth 100000 in
theorem wd_652 : Cond.instanceMethod yX3_readSign ∈ lw_gd := gd_of 652 rfl rfl
set_option maxRecDepth 100000 in
theorem wd_653 : Cond.code yX3_readSign cX3_readSign 2 (some .boolean) ∈ lw_gd := gd_of 653 rfl rfl
set_option maxRecDepth 100000 in
theorem wd_654 : Cond.methodLink RX3 56 yX3_readTask ∈ lw_gd := gd_of 654 rfl rfl
set_option maxRecDepth 100000 in
theorem wd_656 : Cond.instanceMethod yX3_readTask ∈ lw_gd := gd_of 656 rfl rfl
set_option maxRecDepth 100000 in
theorem wd_657 : Cond.code yX3_readTask cX3_readTask 2 (some .boolean) ∈ lw_gd := gd_of 657 rfl rfl
set_option maxRecDepth 100000 in
theorem wd_658 : Cond.methodLink RX3 65 yX3_readDigit ∈ lw_gd := gd_of 658 rfl rfl
set_option maxRecDepth 100000 in
theorem wd_660 : Cond.instanceMethod yX3_readDigit ∈ lw_gd := gd_of 660 rfl rfl
set_option maxRecDepth 100000 in
theorem wd_661 : Cond.code yX3_readDigit cX3_readDigit 2 (some .boolean) ∈ lw_gd := gd_of 661 rfl rfl
set_option maxRecDepth 100000 in
theorem wd_662 : Cond.methodLink RX3 72 yX3_isDigit ∈ lw_gd := gd_of 662 rfl rfl
set_option maxRecDepth 100000 in
theorem wd_664 : Cond.instanceMethod yX3_isDigit ∈ lw_gd := gd_of 664 rfl rfl
set_option maxRecDepth 100000 in
theorem wd_665 : Cond.code yX3_isDigit cX3_isDigit 1 (some .boolean) ∈ lw_gd := gd_of 665 rfl rfl
set_option maxRecDepth 100000 in
theorem wd_666 : Cond.methodLink RX3 68 yX3_keep ∈ lw_gd := gd_of 666 rfl rfl
set_option maxRecDepth 100000 in
theorem wd_668 : Cond.instanceMethod yX3_keep ∈ lw_gd := gd_of 668 rfl rfl
set_option maxRecDepth 100000 in
theorem wd_669 : Cond.code yX3_keep cX3_keep 2 (some .boolean) ∈ lw_gd := gd_of 669 rfl rfl
set_option maxRecDepth 100000 in
theorem wd_670 : Cond.methodLink RX3 62 yX3_readNumber ∈ lw_gd := gd_of 670 rfl rfl
set_option maxRecDepth 100000 in
theorem wd_672 : Cond.instanceMethod yX3_readNumber ∈ lw_gd := gd_of 672 rfl rfl
set_option maxRecDepth 100000 in
theorem wd_673 : Cond.code yX3_readNumber cX3_readNumber 3 (some .boolean) ∈ lw_gd := gd_of 673 rfl rfl
set_option maxRecDepth 100000 in
theorem wd_674 : Cond.methodLink RX3 59 yX3_readPair ∈ lw_gd := gd_of 674 rfl rfl
set_option maxRecDepth 100000 in
theorem wd_676 : Cond.instanceMethod yX3_readPair ∈ lw_gd := gd_of 676 rfl rfl
set_option maxRecDepth 100000 in
theorem wd_677 : Cond.code yX3_readPair cX3_readPair 2 (some .boolean) ∈ lw_gd := gd_of 677 rfl rfl
set_option maxRecDepth 100000 in
theorem wd_678 : Cond.methodLink RX3 39 yX3_readNext ∈ lw_gd := gd_of 678 rfl rfl
set_option maxRecDepth 100000 in
theorem wd_679 : Cond.instanceMethod yX3_readNext ∈ lw_gd := gd_of 679 rfl rfl
set_option maxRecDepth 100000 in
theorem wd_680 : Cond.selects RX3 yX3_readNext yX3_readNext ∈ lw_gd := gd_of 680 rfl rfl
set_option maxRecDepth 100000 in
theorem wd_681 : Cond.code yX3_readNext cX3_readNext 1 (some .boolean) ∈ lw_gd := gd_of 681 rfl rfl
set_option maxRecDepth 100000 in
theorem wd_683 : Cond.instanceMethod yX5_carryOut ∈ lw_gd := gd_of 683 rfl rfl
set_option maxRecDepth 100000 in
theorem wd_684 : Cond.selects RX5 yX5_carryOut yX5_carryOut ∈ lw_gd := gd_of 684 rfl rfl
set_option maxRecDepth 100000 in
theorem wd_685 : Cond.code yX5_carryOut cX5_carryOut 2 (some .int) ∈ lw_gd := gd_of 685 rfl rfl
set_option maxRecDepth 100000 in
theorem wd_686 : Cond.methodLink RX5 166 yX5_carryOrders ∈ lw_gd := gd_of 686 rfl rfl
set_option maxRecDepth 100000 in
theorem wd_688 : Cond.instanceMethod yX5_carryOrders ∈ lw_gd := gd_of 688 rfl rfl
set_option maxRecDepth 100000 in
theorem wd_689 : Cond.code yX5_carryOrders cX5_carryOrders 3 (some .int) ∈ lw_gd := gd_of 689 rfl rfl
set_option maxRecDepth 100000 in
theorem wd_690 : Cond.methodLink RX5 169 yX3_toStart ∈ lw_gd := gd_of 690 rfl rfl
set_option maxRecDepth 100000 in
theorem wd_691 : Cond.methodLink RX5 172 yX3_readOrder ∈ lw_gd := gd_of 691 rfl rfl
set_option maxRecDepth 100000 in
theorem wd_692 : Cond.methodLink RX5 176 yX5_carryOrder ∈ lw_gd := gd_of 692 rfl rfl
set_option maxRecDepth 100000 in
theorem wd_694 : Cond.instanceMethod yX5_carryOrder ∈ lw_gd := gd_of 694 rfl rfl
set_option maxRecDepth 100000 in
theorem wd_695 : Cond.code yX5_carryOrder cX5_carryOrder 2 (some .int) ∈ lw_gd := gd_of 695 rfl rfl
set_option maxRecDepth 100000 in
theorem wd_696 : Cond.methodLink RX5 179 yX3_readNext ∈ lw_gd := gd_of 696 rfl rfl
set_option maxRecDepth 100000 in
theorem wd_698 : Cond.instanceMethod yX5_undo ∈ lw_gd := gd_of 698 rfl rfl
set_option maxRecDepth 100000 in
theorem wd_699 : Cond.selects RX5 yX5_undo yX5_undo ∈ lw_gd := gd_of 699 rfl rfl
set_option maxRecDepth 100000 in
theorem wd_700 : Cond.code yX5_undo cX5_undo 1 (some .int) ∈ lw_gd := gd_of 700 rfl rfl
set_option maxRecDepth 100000 in
theorem wd_701 : Cond.methodLink RX5 188 yX1_takeBack ∈ lw_gd := gd_of 701 rfl rfl
set_option maxRecDepth 100000 in
theorem wd_702 : Cond.instanceMethod yX1_takeBack ∈ lw_gd := gd_of 702 rfl rfl
set_option maxRecDepth 100000 in
theorem wd_703 : Cond.selects RX1 yX1_takeBack yX1_takeBack ∈ lw_gd := gd_of 703 rfl rfl
set_option maxRecDepth 100000 in
theorem wd_704 : Cond.code yX1_takeBack cX1_takeBack 2 (some .int) ∈ lw_gd := gd_of 704 rfl rfl
set_option maxRecDepth 100000 in
theorem wd_706 : Cond.instanceMethod yX5_save ∈ lw_gd := gd_of 706 rfl rfl
set_option maxRecDepth 100000 in
theorem wd_707 : Cond.selects RX5 yX5_save yX5_save ∈ lw_gd := gd_of 707 rfl rfl
set_option maxRecDepth 100000 in
theorem wd_708 : Cond.code yX5_save cX5_save 3 (some .int) ∈ lw_gd := gd_of 708 rfl rfl
set_option maxRecDepth 100000 in
theorem wd_710 : Cond.instanceMethod yX5_restore ∈ lw_gd := gd_of 710 rfl rfl
set_option maxRecDepth 100000 in
theorem wd_711 : Cond.selects RX5 yX5_restore yX5_restore ∈ lw_gd := gd_of 711 rfl rfl
set_option maxRecDepth 100000 in
theorem wd_712 : Cond.code yX5_restore cX5_restore 2 (some .int) ∈ lw_gd := gd_of 712 rfl rfl
set_option maxRecDepth 100000 in
theorem wd_719 : Cond.fieldLink RX6 7 (TX6 0).1 (TX6 0).2.1 (TX6 0).2.2.1 ∈ lw_gd := gd_of 719 rfl rfl
set_option maxRecDepth 100000 in
theorem wd_720 : Cond.fieldLink RX6 13 (TX6 1).1 (TX6 1).2.1 (TX6 1).2.2.1 ∈ lw_gd := gd_of 720 rfl rfl
set_option maxRecDepth 100000 in
theorem wd_721 : Cond.fieldLink RX6 16 (TX6 2).1 (TX6 2).2.1 (TX6 2).2.2.1 ∈ lw_gd := gd_of 721 rfl rfl
set_option maxRecDepth 100000 in
theorem wd_722 : Cond.fieldLink RX6 19 (TX6 3).1 (TX6 3).2.1 (TX6 3).2.2.1 ∈ lw_gd := gd_of 722 rfl rfl
set_option maxRecDepth 100000 in
theorem wd_723 : Cond.fieldLink RX6 23 (TX6 4).1 (TX6 4).2.1 (TX6 4).2.2.1 ∈ lw_gd := gd_of 723 rfl rfl
set_option maxRecDepth 100000 in
theorem wd_724 : Cond.fieldLink RX6 53 (TX6 5).1 (TX6 5).2.1 (TX6 5).2.2.1 ∈ lw_gd := gd_of 724 rfl rfl
set_option maxRecDepth 100000 in
theorem wd_725 : Cond.fieldLink RX6 49 (TX6 6).1 (TX6 6).2.1 (TX6 6).2.2.1 ∈ lw_gd := gd_of 725 rfl rfl
set_option maxRecDepth 100000 in
theorem wd_726 : Cond.fieldLink RX6 26 (TX6 7).1 (TX6 7).2.1 (TX6 7).2.2.1 ∈ lw_gd := gd_of 726 rfl rfl
set_option maxRecDepth 100000 in
theorem wd_727 : Cond.fieldLink RX6 162 (TX6 8).1 (TX6 8).2.1 (TX6 8).2.2.1 ∈ lw_gd := gd_of 727 rfl rfl
set_option maxRecDepth 100000 in
theorem wd_728 : Cond.fieldLink RX6 30 (TX6 9).1 (TX6 9).2.1 (TX6 9).2.2.1 ∈ lw_gd := gd_of 728 rfl rfl
set_option maxRecDepth 100000 in
theorem wd_729 : Cond.fieldLink RX6 33 (TX6 10).1 (TX6 10).2.1 (TX6 10).2.2.1 ∈ lw_gd := gd_of 729 rfl rfl
set_option maxRecDepth 100000 in
theorem wd_730 : Cond.fieldLink RX6 36 (TX6 11).1 (TX6 11).2.1 (TX6 11).2.2.1 ∈ lw_gd := gd_of 730 rfl rfl
set_option maxRecDepth 100000 in
theorem wd_731 : Cond.fieldLink RX6 63 (TX6 12).1 (TX6 12).2.1 (TX6 12).2.2.1 ∈ lw_gd := gd_of 731 rfl rfl
set_option maxRecDepth 100000 in
theorem wd_732 : Cond.fieldLink RX6 40 (TX6 13).1 (TX6 13).2.1 (TX6 13).2.2.1 ∈ lw_gd := gd_of 732 rfl rfl
set_option maxRecDepth 100000 in
theorem wd_733 : Cond.fieldLink RX6 43 (TX6 14).1 (TX6 14).2.1 (TX6 14).2.2.1 ∈ lw_gd := gd_of 733 rfl rfl
set_option maxRecDepth 100000 in
theorem wd_734 : Cond.fieldLink RX6 46 (TX6 15).1 (TX6 15).2.1 (TX6 15).2.2.1 ∈ lw_gd := gd_of 734 rfl rfl
set_option maxRecDepth 100000 in
theorem wd_735 : Cond.fieldLink RX6 204 (TX6 16).1 (TX6 16).2.1 (TX6 16).2.2.1 ∈ lw_gd := gd_of 735 rfl rfl
set_option maxRecDepth 100000 in
theorem wd_736 : Cond.fieldLink RX6 180 (TX6 17).1 (TX6 17).2.1 (TX6 17).2.2.1 ∈ lw_gd := gd_of 736 rfl rfl
set_option maxRecDepth 100000 in
theorem wd_737 : Cond.fieldLink RX6 177 (TX6 18).1 (TX6 18).2.1 (TX6 18).2.2.1 ∈ lw_gd := gd_of 737 rfl rfl
set_option maxRecDepth 100000 in
theorem wd_778 : Cond.instanceMethod yX6_undo ∈ lw_gd := gd_of 778 rfl rfl
set_option maxRecDepth 100000 in
theorem wd_779 : Cond.selects RX6 yX6_undo yX6_undo ∈ lw_gd := gd_of 779 rfl rfl
set_option maxRecDepth 100000 in
theorem wd_780 : Cond.code yX6_undo cX6_undo 2 (some .int) ∈ lw_gd := gd_of 780 rfl rfl
set_option maxRecDepth 100000 in
theorem wd_782 : Cond.instanceMethod yX6_save ∈ lw_gd := gd_of 782 rfl rfl
set_option maxRecDepth 100000 in
theorem wd_783 : Cond.selects RX6 yX6_save yX6_save ∈ lw_gd := gd_of 783 rfl rfl
set_option maxRecDepth 100000 in
theorem wd_784 : Cond.code yX6_save cX6_save 3 (some .int) ∈ lw_gd := gd_of 784 rfl rfl
set_option maxRecDepth 100000 in
theorem wd_785 : Cond.methodLink RX6 56 yX6_in ∈ lw_gd := gd_of 785 rfl rfl
set_option maxRecDepth 100000 in
theorem wd_786 : Cond.static yX6_in ∈ lw_gd := gd_of 786 rfl rfl
set_option maxRecDepth 100000 in
theorem wd_787 : Cond.code yX6_in cX6_in 3 (some .boolean) ∈ lw_gd := gd_of 787 rfl rfl
set_option maxRecDepth 100000 in
theorem wd_789 : Cond.instanceMethod yX6_restore ∈ lw_gd := gd_of 789 rfl rfl
set_option maxRecDepth 100000 in
theorem wd_790 : Cond.selects RX6 yX6_restore yX6_restore ∈ lw_gd := gd_of 790 rfl rfl
set_option maxRecDepth 100000 in
theorem wd_791 : Cond.code yX6_restore cX6_restore 3 (some .int) ∈ lw_gd := gd_of 791 rfl rfl
set_option maxRecDepth 100000 in
theorem wd_792 : Cond.methodLink RX6 60 yX6_record ∈ lw_gd := gd_of 792 rfl rfl
set_option maxRecDepth 100000 in
theorem wd_794 : Cond.instanceMethod yX6_record ∈ lw_gd := gd_of 794 rfl rfl
set_option maxRecDepth 100000 in
theorem wd_795 : Cond.code yX6_record cX6_record 2 (none) ∈ lw_gd := gd_of 795 rfl rfl
set_option maxRecDepth 100000 in
theorem wd_797 : Cond.instanceMethod yX6_set ∈ lw_gd := gd_of 797 rfl rfl
set_option maxRecDepth 100000 in
theorem wd_798 : Cond.selects RX6 yX6_set yX6_set ∈ lw_gd := gd_of 798 rfl rfl
set_option maxRecDepth 100000 in
theorem wd_799 : Cond.code yX6_set cX6_set 5 (some .int) ∈ lw_gd := gd_of 799 rfl rfl
set_option maxRecDepth 100000 in
theorem wd_801 : Cond.instanceMethod yX6_task ∈ lw_gd := gd_of 801 rfl rfl
set_option maxRecDepth 100000 in
theorem wd_802 : Cond.selects RX6 yX6_task yX6_task ∈ lw_gd := gd_of 802 rfl rfl
set_option maxRecDepth 100000 in
theorem wd_803 : Cond.code yX6_task cX6_task 8 (some .int) ∈ lw_gd := gd_of 803 rfl rfl
set_option maxRecDepth 100000 in
theorem wd_804 : Cond.methodLink RX6 89 yX6_isTask ∈ lw_gd := gd_of 804 rfl rfl
set_option maxRecDepth 100000 in
theorem wd_806 : Cond.instanceMethod yX6_isTask ∈ lw_gd := gd_of 806 rfl rfl
set_option maxRecDepth 100000 in
theorem wd_807 : Cond.code yX6_isTask cX6_isTask 2 (some .boolean) ∈ lw_gd := gd_of 807 rfl rfl
set_option maxRecDepth 100000 in
theorem wd_808 : Cond.constant RX6 93 (100000 : Int32) ∈ lw_gd := gd_of 808 rfl rfl
set_option maxRecDepth 100000 in
theorem wd_809 : Cond.methodLink RX6 94 yX6_manyOn ∈ lw_gd := gd_of 809 rfl rfl
set_option maxRecDepth 100000 in
theorem wd_811 : Cond.instanceMethod yX6_manyOn ∈ lw_gd := gd_of 811 rfl rfl
set_option maxRecDepth 100000 in
theorem wd_812 : Cond.code yX6_manyOn cX6_manyOn 4 (some .int) ∈ lw_gd := gd_of 812 rfl rfl
set_option maxRecDepth 100000 in
theorem wd_814 : Cond.instanceMethod yX6_duration ∈ lw_gd := gd_of 814 rfl rfl
set_option maxRecDepth 100000 in
theorem wd_815 : Cond.selects RX6 yX6_duration yX6_duration ∈ lw_gd := gd_of 815 rfl rfl
set_option maxRecDepth 100000 in
theorem wd_816 : Cond.code yX6_duration cX6_duration 4 (some .int) ∈ lw_gd := gd_of 816 rfl rfl
set_option maxRecDepth 100000 in
theorem wd_818 : Cond.instanceMethod yX6_move ∈ lw_gd := gd_of 818 rfl rfl
set_option maxRecDepth 100000 in
theorem wd_819 : Cond.selects RX6 yX6_move yX6_move ∈ lw_gd := gd_of 819 rfl rfl
set_option maxRecDepth 100000 in
theorem wd_820 : Cond.code yX6_move cX6_move 5 (some .int) ∈ lw_gd := gd_of 820 rfl rfl
set_option maxRecDepth 100000 in
theorem wd_821 : Cond.methodLink RX6 97 yX6_putAt ∈ lw_gd := gd_of 821 rfl rfl
set_option maxRecDepth 100000 in
theorem wd_823 : Cond.instanceMethod yX6_putAt ∈ lw_gd := gd_of 823 rfl rfl
set_option maxRecDepth 100000 in
theorem wd_824 : Cond.code yX6_putAt cX6_putAt 6 (none) ∈ lw_gd := gd_of 824 rfl rfl
set_option maxRecDepth 100000 in
theorem wd_825 : Cond.methodLink RX6 77 yX6_reckon ∈ lw_gd := gd_of 825 rfl rfl
set_option maxRecDepth 100000 in
theorem wd_827 : Cond.instanceMethod yX6_reckon ∈ lw_gd := gd_of 827 rfl rfl
set_option maxRecDepth 100000 in
theorem wd_828 : Cond.code yX6_reckon cX6_reckon 8 (some .boolean) ∈ lw_gd := gd_of 828 rfl rfl
set_option maxRecDepth 100000 in
theorem wd_829 : Cond.methodLink RX6 66 yX6_endOf ∈ lw_gd := gd_of 829 rfl rfl
set_option maxRecDepth 100000 in
theorem wd_831 : Cond.instanceMethod yX6_endOf ∈ lw_gd := gd_of 831 rfl rfl
set_option maxRecDepth 100000 in
theorem wd_832 : Cond.code yX6_endOf cX6_endOf 2 (some .int) ∈ lw_gd := gd_of 832 rfl rfl
set_option maxRecDepth 100000 in
theorem wd_833 : Cond.methodLink RX6 70 yX6_taskAt ∈ lw_gd := gd_of 833 rfl rfl
set_option maxRecDepth 100000 in
theorem wd_835 : Cond.instanceMethod yX6_taskAt ∈ lw_gd := gd_of 835 rfl rfl
set_option maxRecDepth 100000 in
theorem wd_836 : Cond.code yX6_taskAt cX6_taskAt 5 (some .int) ∈ lw_gd := gd_of 836 rfl rfl
set_option maxRecDepth 100000 in
theorem wd_838 : Cond.instanceMethod yX6_distance ∈ lw_gd := gd_of 838 rfl rfl
set_option maxRecDepth 100000 in
theorem wd_839 : Cond.selects RX6 yX6_distance yX6_distance ∈ lw_gd := gd_of 839 rfl rfl
set_option maxRecDepth 100000 in
theorem wd_840 : Cond.code yX6_distance cX6_distance 3 (some .int) ∈ lw_gd := gd_of 840 rfl rfl
set_option maxRecDepth 100000 in
theorem wd_841 : Cond.methodLink RX6 104 yX6_measure ∈ lw_gd := gd_of 841 rfl rfl
set_option maxRecDepth 100000 in
theorem wd_843 : Cond.instanceMethod yX6_measure ∈ lw_gd := gd_of 843 rfl rfl
set_option maxRecDepth 100000 in
theorem wd_844 : Cond.code yX6_measure cX6_measure 5 (none) ∈ lw_gd := gd_of 844 rfl rfl
set_option maxRecDepth 100000 in
theorem wd_845 : Cond.methodLink RX6 101 yX6_areLinked ∈ lw_gd := gd_of 845 rfl rfl
set_option maxRecDepth 100000 in
theorem wd_847 : Cond.instanceMethod yX6_areLinked ∈ lw_gd := gd_of 847 rfl rfl
set_option maxRecDepth 100000 in
theorem wd_848 : Cond.code yX6_areLinked cX6_areLinked 3 (some .boolean) ∈ lw_gd := gd_of 848 rfl rfl
set_option maxRecDepth 100000 in
theorem wd_850 : Cond.instanceMethod yX6_offer ∈ lw_gd := gd_of 850 rfl rfl
set_option maxRecDepth 100000 in
theorem wd_851 : Cond.selects RX6 yX6_offer yX6_offer ∈ lw_gd := gd_of 851 rfl rfl
set_option maxRecDepth 100000 in
theorem wd_852 : Cond.code yX6_offer cX6_offer 5 (some .int) ∈ lw_gd := gd_of 852 rfl rfl
set_option maxRecDepth 100000 in
theorem wd_854 : Cond.instanceMethod yX6_trade ∈ lw_gd := gd_of 854 rfl rfl
set_option maxRecDepth 100000 in
theorem wd_855 : Cond.selects RX6 yX6_trade yX6_trade ∈ lw_gd := gd_of 855 rfl rfl
set_option maxRecDepth 100000 in
theorem wd_856 : Cond.code yX6_trade cX6_trade 2 (some .int) ∈ lw_gd := gd_of 856 rfl rfl
set_option maxRecDepth 100000 in
theorem wd_857 : Cond.methodLink RX6 130 yX6_tradeAll ∈ lw_gd := gd_of 857 rfl rfl
set_option maxRecDepth 100000 in
theorem wd_859 : Cond.instanceMethod yX6_tradeAll ∈ lw_gd := gd_of 859 rfl rfl
set_option maxRecDepth 100000 in
theorem wd_860 : Cond.code yX6_tradeAll cX6_tradeAll 5 (none) ∈ lw_gd := gd_of 860 rfl rfl
set_option maxRecDepth 100000 in
theorem wd_861 : Cond.methodLink RX6 74 yX6_late ∈ lw_gd := gd_of 861 rfl rfl
set_option maxRecDepth 100000 in
theorem wd_863 : Cond.instanceMethod yX6_late ∈ lw_gd := gd_of 863 rfl rfl
set_option maxRecDepth 100000 in
theorem wd_864 : Cond.code yX6_late cX6_late 3 (some .int) ∈ lw_gd := gd_of 864 rfl rfl
set_option maxRecDepth 100000 in
theorem wd_865 : Cond.methodLink RX6 127 yX6_buys ∈ lw_gd := gd_of 865 rfl rfl
set_option maxRecDepth 100000 in
theorem wd_867 : Cond.instanceMethod yX6_buys ∈ lw_gd := gd_of 867 rfl rfl
set_option maxRecDepth 100000 in
theorem wd_868 : Cond.code yX6_buys cX6_buys 5 (none) ∈ lw_gd := gd_of 868 rfl rfl
set_option maxRecDepth 100000 in
theorem wd_869 : Cond.methodLink RX6 117 yX6_nextOffer ∈ lw_gd := gd_of 869 rfl rfl
set_option maxRecDepth 100000 in
theorem wd_871 : Cond.instanceMethod yX6_nextOffer ∈ lw_gd := gd_of 871 rfl rfl
set_option maxRecDepth 100000 in
theorem wd_872 : Cond.code yX6_nextOffer cX6_nextOffer 6 (some .int) ∈ lw_gd := gd_of 872 rfl rfl
set_option maxRecDepth 100000 in
theorem wd_873 : Cond.methodLink RX6 108 yX6_isSooner ∈ lw_gd := gd_of 873 rfl rfl
set_option maxRecDepth 100000 in
theorem wd_875 : Cond.instanceMethod yX6_isSooner ∈ lw_gd := gd_of 875 rfl rfl
set_option maxRecDepth 100000 in
theorem wd_876 : Cond.code yX6_isSooner cX6_isSooner 3 (some .boolean) ∈ lw_gd := gd_of 876 rfl rfl
set_option maxRecDepth 100000 in
theorem wd_877 : Cond.methodLink RX6 120 yX6_hoursOf ∈ lw_gd := gd_of 877 rfl rfl
set_option maxRecDepth 100000 in
theorem wd_879 : Cond.instanceMethod yX6_hoursOf ∈ lw_gd := gd_of 879 rfl rfl
set_option maxRecDepth 100000 in
theorem wd_880 : Cond.code yX6_hoursOf cX6_hoursOf 5 (some .int) ∈ lw_gd := gd_of 880 rfl rfl
set_option maxRecDepth 100000 in
theorem wd_881 : Cond.methodLink RX6 111 yX6_less ∈ lw_gd := gd_of 881 rfl rfl
set_option maxRecDepth 100000 in
theorem wd_882 : Cond.static yX6_less ∈ lw_gd := gd_of 882 rfl rfl
set_option maxRecDepth 100000 in
theorem wd_883 : Cond.code yX6_less cX6_less 2 (some .int) ∈ lw_gd := gd_of 883 rfl rfl
set_option maxRecDepth 100000 in
theorem wd_884 : Cond.methodLink RX6 114 yX6_spared ∈ lw_gd := gd_of 884 rfl rfl
set_option maxRecDepth 100000 in
theorem wd_886 : Cond.instanceMethod yX6_spared ∈ lw_gd := gd_of 886 rfl rfl
set_option maxRecDepth 100000 in
theorem wd_887 : Cond.code yX6_spared cX6_spared 3 (some .int) ∈ lw_gd := gd_of 887 rfl rfl
set_option maxRecDepth 100000 in
theorem wd_888 : Cond.methodLink RX6 123 yX6_agree ∈ lw_gd := gd_of 888 rfl rfl
set_option maxRecDepth 100000 in
theorem wd_890 : Cond.instanceMethod yX6_agree ∈ lw_gd := gd_of 890 rfl rfl
set_option maxRecDepth 100000 in
theorem wd_891 : Cond.code yX6_agree cX6_agree 6 (none) ∈ lw_gd := gd_of 891 rfl rfl
set_option maxRecDepth 100000 in
theorem wd_893 : Cond.instanceMethod yX6_refund ∈ lw_gd := gd_of 893 rfl rfl
set_option maxRecDepth 100000 in
theorem wd_894 : Cond.selects RX6 yX6_refund yX6_refund ∈ lw_gd := gd_of 894 rfl rfl
set_option maxRecDepth 100000 in
theorem wd_895 : Cond.code yX6_refund cX6_refund 7 (some .int) ∈ lw_gd := gd_of 895 rfl rfl
set_option maxRecDepth 100000 in
theorem wd_896 : Cond.methodLink RX6 133 yX6_isContract ∈ lw_gd := gd_of 896 rfl rfl
set_option maxRecDepth 100000 in
theorem wd_898 : Cond.instanceMethod yX6_isContract ∈ lw_gd := gd_of 898 rfl rfl
set_option maxRecDepth 100000 in
theorem wd_899 : Cond.code yX6_isContract cX6_isContract 2 (some .boolean) ∈ lw_gd := gd_of 899 rfl rfl
set_option maxRecDepth 100000 in
theorem wd_900 : Cond.methodLink RX6 136 yX6_dropContract ∈ lw_gd := gd_of 900 rfl rfl
set_option maxRecDepth 100000 in
theorem wd_902 : Cond.instanceMethod yX6_dropContract ∈ lw_gd := gd_of 902 rfl rfl
set_option maxRecDepth 100000 in
theorem wd_903 : Cond.code yX6_dropContract cX6_dropContract 3 (none) ∈ lw_gd := gd_of 903 rfl rfl
set_option maxRecDepth 100000 in
theorem wd_905 : Cond.instanceMethod yX6_give ∈ lw_gd := gd_of 905 rfl rfl
set_option maxRecDepth 100000 in
theorem wd_906 : Cond.selects RX6 yX6_give yX6_give ∈ lw_gd := gd_of 906 rfl rfl
set_option maxRecDepth 100000 in
theorem wd_907 : Cond.code yX6_give cX6_give 4 (some .int) ∈ lw_gd := gd_of 907 rfl rfl
set_option maxRecDepth 100000 in
theorem wd_909 : Cond.instanceMethod yX6_ofTask ∈ lw_gd := gd_of 909 rfl rfl
set_option maxRecDepth 100000 in
theorem wd_910 : Cond.selects RX6 yX6_ofTask yX6_ofTask ∈ lw_gd := gd_of 910 rfl rfl
set_option maxRecDepth 100000 in
theorem wd_911 : Cond.code yX6_ofTask cX6_ofTask 3 (some .int) ∈ lw_gd := gd_of 911 rfl rfl
set_option maxRecDepth 100000 in
theorem wd_912 : Cond.methodLink RX6 139 yX6_slack ∈ lw_gd := gd_of 912 rfl rfl
set_option maxRecDepth 100000 in
theorem wd_914 : Cond.instanceMethod yX6_slack ∈ lw_gd := gd_of 914 rfl rfl
set_option maxRecDepth 100000 in
theorem wd_915 : Cond.code yX6_slack cX6_slack 6 (some .int) ∈ lw_gd := gd_of 915 rfl rfl
set_option maxRecDepth 100000 in
theorem wd_916 : Cond.methodLink RX6 85 yX6_canBeHeld ∈ lw_gd := gd_of 916 rfl rfl
set_option maxRecDepth 100000 in
theorem wd_918 : Cond.instanceMethod yX6_canBeHeld ∈ lw_gd := gd_of 918 rfl rfl
set_option maxRecDepth 100000 in
theorem wd_919 : Cond.code yX6_canBeHeld cX6_canBeHeld 4 (some .boolean) ∈ lw_gd := gd_of 919 rfl rfl
set_option maxRecDepth 100000 in
theorem wd_920 : Cond.methodLink RX6 81 yX6_lateTogether ∈ lw_gd := gd_of 920 rfl rfl
set_option maxRecDepth 100000 in
theorem wd_922 : Cond.instanceMethod yX6_lateTogether ∈ lw_gd := gd_of 922 rfl rfl
set_option maxRecDepth 100000 in
theorem wd_923 : Cond.code yX6_lateTogether cX6_lateTogether 3 (some .int) ∈ lw_gd := gd_of 923 rfl rfl
set_option maxRecDepth 100000 in
theorem wd_924 : Cond.methodLink RX6 142 yX6_hoursBy ∈ lw_gd := gd_of 924 rfl rfl
set_option maxRecDepth 100000 in
theorem wd_926 : Cond.instanceMethod yX6_hoursBy ∈ lw_gd := gd_of 926 rfl rfl
set_option maxRecDepth 100000 in
theorem wd_927 : Cond.code yX6_hoursBy cX6_hoursBy 5 (some .int) ∈ lw_gd := gd_of 927 rfl rfl
set_option maxRecDepth 100000 in
theorem wd_928 : Cond.methodLink RX6 145 yX6_behind ∈ lw_gd := gd_of 928 rfl rfl
set_option maxRecDepth 100000 in
theorem wd_930 : Cond.instanceMethod yX6_behind ∈ lw_gd := gd_of 930 rfl rfl
set_option maxRecDepth 100000 in
theorem wd_931 : Cond.code yX6_behind cX6_behind 5 (some .int) ∈ lw_gd := gd_of 931 rfl rfl
set_option maxRecDepth 100000 in
theorem wd_933 : Cond.instanceMethod yX6_due ∈ lw_gd := gd_of 933 rfl rfl
set_option maxRecDepth 100000 in
theorem wd_934 : Cond.selects RX6 yX6_due yX6_due ∈ lw_gd := gd_of 934 rfl rfl
set_option maxRecDepth 100000 in
theorem wd_935 : Cond.code yX6_due cX6_due 2 (some .long) ∈ lw_gd := gd_of 935 rfl rfl
set_option maxRecDepth 100000 in
theorem wd_936 : Cond.constantLong RX6 148 (-1 : Int64) ∈ lw_gd := gd_of 936 rfl rfl
set_option maxRecDepth 100000 in
theorem wd_938 : Cond.instanceMethod yX6_money ∈ lw_gd := gd_of 938 rfl rfl
set_option maxRecDepth 100000 in
theorem wd_939 : Cond.selects RX6 yX6_money yX6_money ∈ lw_gd := gd_of 939 rfl rfl
set_option maxRecDepth 100000 in
theorem wd_940 : Cond.code yX6_money cX6_money 2 (some .int) ∈ lw_gd := gd_of 940 rfl rfl
set_option maxRecDepth 100000 in
theorem wd_942 : Cond.instanceMethod yX6_at ∈ lw_gd := gd_of 942 rfl rfl
set_option maxRecDepth 100000 in
theorem wd_943 : Cond.selects RX6 yX6_at yX6_at ∈ lw_gd := gd_of 943 rfl rfl
set_option maxRecDepth 100000 in
theorem wd_944 : Cond.code yX6_at cX6_at 3 (some .int) ∈ lw_gd := gd_of 944 rfl rfl
set_option maxRecDepth 100000 in
theorem wd_946 : Cond.instanceMethod yX6_ofContract ∈ lw_gd := gd_of 946 rfl rfl
set_option maxRecDepth 100000 in
theorem wd_947 : Cond.selects RX6 yX6_ofContract yX6_ofContract ∈ lw_gd := gd_of 947 rfl rfl
set_option maxRecDepth 100000 in
theorem wd_948 : Cond.code yX6_ofContract cX6_ofContract 3 (some .int) ∈ lw_gd := gd_of 948 rfl rfl
set_option maxRecDepth 100000 in
theorem wd_950 : Cond.instanceMethod yX6_count ∈ lw_gd := gd_of 950 rfl rfl
set_option maxRecDepth 100000 in
theorem wd_951 : Cond.selects RX6 yX6_count yX6_count ∈ lw_gd := gd_of 951 rfl rfl
set_option maxRecDepth 100000 in
theorem wd_952 : Cond.code yX6_count cX6_count 2 (some .int) ∈ lw_gd := gd_of 952 rfl rfl
set_option maxRecDepth 100000 in
theorem wd_953 : Cond.methodLink RX6 150 yX6_offers ∈ lw_gd := gd_of 953 rfl rfl
set_option maxRecDepth 100000 in
theorem wd_955 : Cond.instanceMethod yX6_offers ∈ lw_gd := gd_of 955 rfl rfl
set_option maxRecDepth 100000 in
theorem wd_956 : Cond.code yX6_offers cX6_offers 3 (some .int) ∈ lw_gd := gd_of 956 rfl rfl
set_option maxRecDepth 100000 in
theorem wd_957 : Cond.methodLink RX6 153 yX6_lateSet ∈ lw_gd := gd_of 957 rfl rfl
set_option maxRecDepth 100000 in
theorem wd_959 : Cond.instanceMethod yX6_lateSet ∈ lw_gd := gd_of 959 rfl rfl
set_option maxRecDepth 100000 in
theorem wd_960 : Cond.code yX6_lateSet cX6_lateSet 3 (some .int) ∈ lw_gd := gd_of 960 rfl rfl
set_option maxRecDepth 100000 in
theorem wd_961 : Cond.methodLink RX6 156 yX6_endOfAll ∈ lw_gd := gd_of 961 rfl rfl
set_option maxRecDepth 100000 in
theorem wd_963 : Cond.instanceMethod yX6_endOfAll ∈ lw_gd := gd_of 963 rfl rfl
set_option maxRecDepth 100000 in
theorem wd_964 : Cond.code yX6_endOfAll cX6_endOfAll 3 (some .int) ∈ lw_gd := gd_of 964 rfl rfl
set_option maxRecDepth 100000 in
theorem wd_965 : Cond.methodLink RX6 159 yX6_sumOf ∈ lw_gd := gd_of 965 rfl rfl
set_option maxRecDepth 100000 in
theorem wd_967 : Cond.instanceMethod yX6_sumOf ∈ lw_gd := gd_of 967 rfl rfl
set_option maxRecDepth 100000 in
theorem wd_968 : Cond.code yX6_sumOf cX6_sumOf 5 (some .int) ∈ lw_gd := gd_of 968 rfl rfl
set_option maxRecDepth 100000 in
theorem wd_970 : Cond.instanceMethod yX6_wouldBuy ∈ lw_gd := gd_of 970 rfl rfl
set_option maxRecDepth 100000 in
theorem wd_971 : Cond.selects RX6 yX6_wouldBuy yX6_wouldBuy ∈ lw_gd := gd_of 971 rfl rfl
set_option maxRecDepth 100000 in
theorem wd_972 : Cond.code yX6_wouldBuy cX6_wouldBuy 8 (some .int) ∈ lw_gd := gd_of 972 rfl rfl
set_option maxRecDepth 100000 in
theorem wd_973 : Cond.methodLink RX6 165 yX6_putAside ∈ lw_gd := gd_of 973 rfl rfl
set_option maxRecDepth 100000 in
theorem wd_975 : Cond.instanceMethod yX6_putAside ∈ lw_gd := gd_of 975 rfl rfl
set_option maxRecDepth 100000 in
theorem wd_976 : Cond.code yX6_putAside cX6_putAside 2 (none) ∈ lw_gd := gd_of 976 rfl rfl
set_option maxRecDepth 100000 in
theorem wd_977 : Cond.methodLink RX6 168 yX6_bringBack ∈ lw_gd := gd_of 977 rfl rfl
set_option maxRecDepth 100000 in
theorem wd_979 : Cond.instanceMethod yX6_bringBack ∈ lw_gd := gd_of 979 rfl rfl
set_option maxRecDepth 100000 in
theorem wd_980 : Cond.code yX6_bringBack cX6_bringBack 2 (none) ∈ lw_gd := gd_of 980 rfl rfl
set_option maxRecDepth 100000 in
theorem wd_982 : Cond.instanceMethod yX6_leastMoney ∈ lw_gd := gd_of 982 rfl rfl
set_option maxRecDepth 100000 in
theorem wd_983 : Cond.selects RX6 yX6_leastMoney yX6_leastMoney ∈ lw_gd := gd_of 983 rfl rfl
set_option maxRecDepth 100000 in
theorem wd_984 : Cond.code yX6_leastMoney cX6_leastMoney 4 (some .int) ∈ lw_gd := gd_of 984 rfl rfl
set_option maxRecDepth 100000 in
theorem wd_985 : Cond.constant RX6 171 (100000000 : Int32) ∈ lw_gd := gd_of 985 rfl rfl
set_option maxRecDepth 100000 in
theorem wd_987 : Cond.instanceMethod yX6_endIf ∈ lw_gd := gd_of 987 rfl rfl
set_option maxRecDepth 100000 in
theorem wd_988 : Cond.selects RX6 yX6_endIf yX6_endIf ∈ lw_gd := gd_of 988 rfl rfl
set_option maxRecDepth 100000 in
theorem wd_989 : Cond.code yX6_endIf cX6_endIf 5 (some .int) ∈ lw_gd := gd_of 989 rfl rfl
set_option maxRecDepth 100000 in
theorem wd_991 : Cond.instanceMethod yX6_bestPlace ∈ lw_gd := gd_of 991 rfl rfl
set_option maxRecDepth 100000 in
theorem wd_992 : Cond.selects RX6 yX6_bestPlace yX6_bestPlace ∈ lw_gd := gd_of 992 rfl rfl
set_option maxRecDepth 100000 in
theorem wd_993 : Cond.code yX6_bestPlace cX6_bestPlace 9 (some .int) ∈ lw_gd := gd_of 993 rfl rfl
set_option maxRecDepth 100000 in
theorem wd_995 : Cond.instanceMethod yX6_critical ∈ lw_gd := gd_of 995 rfl rfl
set_option maxRecDepth 100000 in
theorem wd_996 : Cond.selects RX6 yX6_critical yX6_critical ∈ lw_gd := gd_of 996 rfl rfl
set_option maxRecDepth 100000 in
theorem wd_997 : Cond.code yX6_critical cX6_critical 6 (some .int) ∈ lw_gd := gd_of 997 rfl rfl
set_option maxRecDepth 100000 in
theorem wd_999 : Cond.instanceMethod yX6_lateBehind ∈ lw_gd := gd_of 999 rfl rfl
set_option maxRecDepth 100000 in
theorem wd_1000 : Cond.selects RX6 yX6_lateBehind yX6_lateBehind ∈ lw_gd := gd_of 1000 rfl rfl
set_option maxRecDepth 100000 in
theorem wd_1001 : Cond.code yX6_lateBehind cX6_lateBehind 2 (some .int) ∈ lw_gd := gd_of 1001 rfl rfl
set_option maxRecDepth 100000 in
theorem wd_1003 : Cond.instanceMethod yX6_put ∈ lw_gd := gd_of 1003 rfl rfl
set_option maxRecDepth 100000 in
theorem wd_1004 : Cond.selects RX6 yX6_put yX6_put ∈ lw_gd := gd_of 1004 rfl rfl
set_option maxRecDepth 100000 in
theorem wd_1005 : Cond.code yX6_put cX6_put 9 (some .int) ∈ lw_gd := gd_of 1005 rfl rfl
set_option maxRecDepth 100000 in
theorem wd_1006 : Cond.constantLong RX6 172 (255 : Int64) ∈ lw_gd := gd_of 1006 rfl rfl
set_option maxRecDepth 100000 in
theorem wd_1008 : Cond.instanceMethod yX6_wipe ∈ lw_gd := gd_of 1008 rfl rfl
set_option maxRecDepth 100000 in
theorem wd_1009 : Cond.selects RX6 yX6_wipe yX6_wipe ∈ lw_gd := gd_of 1009 rfl rfl
set_option maxRecDepth 100000 in
theorem wd_1010 : Cond.code yX6_wipe cX6_wipe 2 (some .int) ∈ lw_gd := gd_of 1010 rfl rfl
set_option maxRecDepth 100000 in
theorem wd_1012 : Cond.instanceMethod yX6_fault ∈ lw_gd := gd_of 1012 rfl rfl
set_option maxRecDepth 100000 in
theorem wd_1013 : Cond.selects RX6 yX6_fault yX6_fault ∈ lw_gd := gd_of 1013 rfl rfl
set_option maxRecDepth 100000 in
theorem wd_1014 : Cond.code yX6_fault cX6_fault 1 (some .int) ∈ lw_gd := gd_of 1014 rfl rfl
set_option maxRecDepth 100000 in
theorem wd_1015 : Cond.methodLink RX6 210 yX6_readPad ∈ lw_gd := gd_of 1015 rfl rfl
set_option maxRecDepth 100000 in
theorem wd_1017 : Cond.instanceMethod yX6_readPad ∈ lw_gd := gd_of 1017 rfl rfl
set_option maxRecDepth 100000 in
theorem wd_1018 : Cond.code yX6_readPad cX6_readPad 2 (none) ∈ lw_gd := gd_of 1018 rfl rfl
set_option maxRecDepth 100000 in
theorem wd_1019 : Cond.methodLink RX6 207 yX6_readOrder ∈ lw_gd := gd_of 1019 rfl rfl
set_option maxRecDepth 100000 in
theorem wd_1021 : Cond.instanceMethod yX6_readOrder ∈ lw_gd := gd_of 1021 rfl rfl
set_option maxRecDepth 100000 in
theorem wd_1022 : Cond.code yX6_readOrder cX6_readOrder 3 (none) ∈ lw_gd := gd_of 1022 rfl rfl
set_option maxRecDepth 100000 in
theorem wd_1023 : Cond.methodLink RX6 174 yX6_letter ∈ lw_gd := gd_of 1023 rfl rfl
set_option maxRecDepth 100000 in
theorem wd_1025 : Cond.instanceMethod yX6_letter ∈ lw_gd := gd_of 1025 rfl rfl
set_option maxRecDepth 100000 in
theorem wd_1026 : Cond.code yX6_letter cX6_letter 2 (some .int) ∈ lw_gd := gd_of 1026 rfl rfl
set_option maxRecDepth 100000 in
theorem wd_1027 : Cond.methodLink RX6 198 yX6_readTask ∈ lw_gd := gd_of 1027 rfl rfl
set_option maxRecDepth 100000 in
theorem wd_1029 : Cond.instanceMethod yX6_readTask ∈ lw_gd := gd_of 1029 rfl rfl
set_option maxRecDepth 100000 in
theorem wd_1030 : Cond.code yX6_readTask cX6_readTask 2 (none) ∈ lw_gd := gd_of 1030 rfl rfl
set_option maxRecDepth 100000 in
theorem wd_1031 : Cond.methodLink RX6 189 yX6_takesMachine ∈ lw_gd := gd_of 1031 rfl rfl
set_option maxRecDepth 100000 in
theorem wd_1033 : Cond.instanceMethod yX6_takesMachine ∈ lw_gd := gd_of 1033 rfl rfl
set_option maxRecDepth 100000 in
theorem wd_1034 : Cond.code yX6_takesMachine cX6_takesMachine 1 (some .int) ∈ lw_gd := gd_of 1034 rfl rfl
set_option maxRecDepth 100000 in
theorem wd_1035 : Cond.methodLink RX6 183 yX6_fail ∈ lw_gd := gd_of 1035 rfl rfl
set_option maxRecDepth 100000 in
theorem wd_1037 : Cond.instanceMethod yX6_fail ∈ lw_gd := gd_of 1037 rfl rfl
set_option maxRecDepth 100000 in
theorem wd_1038 : Cond.code yX6_fail cX6_fail 1 (none) ∈ lw_gd := gd_of 1038 rfl rfl
set_option maxRecDepth 100000 in
theorem wd_1039 : Cond.methodLink RX6 192 yX6_takes ∈ lw_gd := gd_of 1039 rfl rfl
set_option maxRecDepth 100000 in
theorem wd_1041 : Cond.instanceMethod yX6_takes ∈ lw_gd := gd_of 1041 rfl rfl
set_option maxRecDepth 100000 in
theorem wd_1042 : Cond.code yX6_takes cX6_takes 2 (none) ∈ lw_gd := gd_of 1042 rfl rfl
set_option maxRecDepth 100000 in
theorem wd_1043 : Cond.methodLink RX6 195 yX6_takesNumber ∈ lw_gd := gd_of 1043 rfl rfl
set_option maxRecDepth 100000 in
theorem wd_1045 : Cond.instanceMethod yX6_takesNumber ∈ lw_gd := gd_of 1045 rfl rfl
set_option maxRecDepth 100000 in
theorem wd_1046 : Cond.code yX6_takesNumber cX6_takesNumber 3 (some .int) ∈ lw_gd := gd_of 1046 rfl rfl
set_option maxRecDepth 100000 in
theorem wd_1047 : Cond.methodLink RX6 186 yX6_isDigit ∈ lw_gd := gd_of 1047 rfl rfl
set_option maxRecDepth 100000 in
theorem wd_1049 : Cond.instanceMethod yX6_isDigit ∈ lw_gd := gd_of 1049 rfl rfl
set_option maxRecDepth 100000 in
theorem wd_1050 : Cond.code yX6_isDigit cX6_isDigit 2 (some .boolean) ∈ lw_gd := gd_of 1050 rfl rfl
set_option maxRecDepth 100000 in
theorem wd_1051 : Cond.methodLink RX6 201 yX6_readTwo ∈ lw_gd := gd_of 1051 rfl rfl
set_option maxRecDepth 100000 in
theorem wd_1053 : Cond.instanceMethod yX6_readTwo ∈ lw_gd := gd_of 1053 rfl rfl
set_option maxRecDepth 100000 in
theorem wd_1054 : Cond.code yX6_readTwo cX6_readTwo 3 (none) ∈ lw_gd := gd_of 1054 rfl rfl
set_option maxRecDepth 100000 in
theorem wd_1056 : Cond.instanceMethod yX6_carryOut ∈ lw_gd := gd_of 1056 rfl rfl
set_option maxRecDepth 100000 in
theorem wd_1057 : Cond.selects RX6 yX6_carryOut yX6_carryOut ∈ lw_gd := gd_of 1057 rfl rfl
set_option maxRecDepth 100000 in
theorem wd_1058 : Cond.code yX6_carryOut cX6_carryOut 2 (some .int) ∈ lw_gd := gd_of 1058 rfl rfl
set_option maxRecDepth 100000 in
theorem wd_1059 : Cond.methodLink RX6 233 yX6_does ∈ lw_gd := gd_of 1059 rfl rfl
set_option maxRecDepth 100000 in
theorem wd_1061 : Cond.instanceMethod yX6_does ∈ lw_gd := gd_of 1061 rfl rfl
set_option maxRecDepth 100000 in
theorem wd_1062 : Cond.code yX6_does cX6_does 4 (some .int) ∈ lw_gd := gd_of 1062 rfl rfl
set_option maxRecDepth 100000 in
theorem wd_1063 : Cond.methodLink RX6 213 yX6_task ∈ lw_gd := gd_of 1063 rfl rfl
set_option maxRecDepth 100000 in
theorem wd_1064 : Cond.methodLink RX6 217 yX6_duration ∈ lw_gd := gd_of 1064 rfl rfl
set_option maxRecDepth 100000 in
theorem wd_1065 : Cond.methodLink RX6 220 yX6_offer ∈ lw_gd := gd_of 1065 rfl rfl
set_option maxRecDepth 100000 in
theorem wd_1066 : Cond.methodLink RX6 224 yX6_move ∈ lw_gd := gd_of 1066 rfl rfl
set_option maxRecDepth 100000 in
theorem wd_1067 : Cond.methodLink RX6 227 yX6_refund ∈ lw_gd := gd_of 1067 rfl rfl
set_option maxRecDepth 100000 in
theorem wd_1068 : Cond.methodLink RX6 230 yX6_trade ∈ lw_gd := gd_of 1068 rfl rfl
end
section
theorem dX4_copyFrom_0 : decode cX4_copyFrom 0 = .ok (.aload_n 0, 1) := by decide +kernel
theorem dX4_copyFrom_1 : decode cX4_copyFrom 1 = .ok (.aload_n 1, 1) := by decide +kernel
theorem dX4_copyFrom_2 : decode cX4_copyFrom 2 = .ok (.getfield 39, 3) := by decide +kernel
theorem dX4_copyFrom_5 : decode cX4_copyFrom 5 = .ok (.putfield 39, 3) := by decide +kernel
theorem dX4_copyFrom_8 : decode cX4_copyFrom 8 = .ok (.aload_n 1, 1) := by decide +kernel
theorem dX4_copyFrom_9 : decode cX4_copyFrom 9 = .ok (.getfield 9, 3) := by decide +kernel
theorem dX4_copyFrom_12 : decode cX4_copyFrom 12 = .ok (.iconst 0, 1) := by decide +kernel
theorem dX4_copyFrom_13 : decode cX4_copyFrom 13 = .ok (.aload_n 0, 1) := by decide +kernel
theorem dX4_copyFrom_14 : decode cX4_copyFrom 14 = .ok (.getfield 9, 3) := by decide +kernel
theorem dX4_copyFrom_17 : decode cX4_copyFrom 17 = .ok (.iconst 0, 1) := by decide +kernel
theorem dX4_copyFrom_18 : decode cX4_copyFrom 18 = .ok (.bipush 24, 2) := by decide +kernel
theorem dX4_copyFrom_20 : decode cX4_copyFrom 20 = .ok (.invokestatic 43, 3) := by decide +kernel
theorem dX4_copyFrom_23 : decode cX4_copyFrom 23 = .ok (.aload_n 1, 1) := by decide +kernel
theorem dX4_copyFrom_24 : decode cX4_copyFrom 24 = .ok (.getfield 15, 3) := by decide +kernel
theorem dX4_copyFrom_27 : decode cX4_copyFrom 27 = .ok (.iconst 0, 1) := by decide +kernel
theorem dX4_copyFrom_28 : decode cX4_copyFrom 28 = .ok (.aload_n 0, 1) := by decide +kernel
theorem dX4_copyFrom_29 : decode cX4_copyFrom 29 = .ok (.getfield 15, 3) := by decide +kernel
theorem dX4_copyFrom_32 : decode cX4_copyFrom 32 = .ok (.iconst 0, 1) := by decide +kernel
theorem dX4_copyFrom_33 : decode cX4_copyFrom 33 = .ok (.bipush 24, 2) := by decide +kernel
theorem dX4_copyFrom_35 : decode cX4_copyFrom 35 = .ok (.invokestatic 43, 3) := by decide +kernel
theorem dX4_copyFrom_38 : decode cX4_copyFrom 38 = .ok (.aload_n 1, 1) := by decide +kernel
theorem dX4_copyFrom_39 : decode cX4_copyFrom 39 = .ok (.getfield 18, 3) := by decide +kernel
theorem dX4_copyFrom_42 : decode cX4_copyFrom 42 = .ok (.iconst 0, 1) := by decide +kernel
theorem dX4_copyFrom_43 : decode cX4_copyFrom 43 = .ok (.aload_n 0, 1) := by decide +kernel
theorem dX4_copyFrom_44 : decode cX4_copyFrom 44 = .ok (.getfield 18, 3) := by decide +kernel
theorem dX4_copyFrom_47 : decode cX4_copyFrom 47 = .ok (.iconst 0, 1) := by decide +kernel
theorem dX4_copyFrom_48 : decode cX4_copyFrom 48 = .ok (.bipush 24, 2) := by decide +kernel
theorem dX4_copyFrom_50 : decode cX4_copyFrom 50 = .ok (.invokestatic 43, 3) := by decide +kernel
theorem dX4_copyFrom_53 : decode cX4_copyFrom 53 = .ok (.aload_n 1, 1) := by decide +kernel
theorem dX4_copyFrom_54 : decode cX4_copyFrom 54 = .ok (.getfield 21, 3) := by decide +kernel
theorem dX4_copyFrom_57 : decode cX4_copyFrom 57 = .ok (.iconst 0, 1) := by decide +kernel
theorem dX4_copyFrom_58 : decode cX4_copyFrom 58 = .ok (.aload_n 0, 1) := by decide +kernel
theorem dX4_copyFrom_59 : decode cX4_copyFrom 59 = .ok (.getfield 21, 3) := by decide +kernel
theorem dX4_copyFrom_62 : decode cX4_copyFrom 62 = .ok (.iconst 0, 1) := by decide +kernel
theorem dX4_copyFrom_63 : decode cX4_copyFrom 63 = .ok (.bipush 24, 2) := by decide +kernel
theorem dX4_copyFrom_65 : decode cX4_copyFrom 65 = .ok (.invokestatic 43, 3) := by decide +kernel
theorem dX4_copyFrom_68 : decode cX4_copyFrom 68 = .ok (.aload_n 1, 1) := by decide +kernel
theorem dX4_copyFrom_69 : decode cX4_copyFrom 69 = .ok (.getfield 24, 3) := by decide +kernel
theorem dX4_copyFrom_72 : decode cX4_copyFrom 72 = .ok (.iconst 0, 1) := by decide +kernel
theorem dX4_copyFrom_73 : decode cX4_copyFrom 73 = .ok (.aload_n 0, 1) := by decide +kernel
theorem dX4_copyFrom_74 : decode cX4_copyFrom 74 = .ok (.getfield 24, 3) := by decide +kernel
theorem dX4_copyFrom_77 : decode cX4_copyFrom 77 = .ok (.iconst 0, 1) := by decide +kernel
theorem dX4_copyFrom_78 : decode cX4_copyFrom 78 = .ok (.bipush 24, 2) := by decide +kernel
theorem dX4_copyFrom_80 : decode cX4_copyFrom 80 = .ok (.invokestatic 43, 3) := by decide +kernel
theorem dX4_copyFrom_83 : decode cX4_copyFrom 83 = .ok (.aload_n 1, 1) := by decide +kernel
theorem dX4_copyFrom_84 : decode cX4_copyFrom 84 = .ok (.getfield 27, 3) := by decide +kernel
theorem dX4_copyFrom_87 : decode cX4_copyFrom 87 = .ok (.iconst 0, 1) := by decide +kernel
theorem dX4_copyFrom_88 : decode cX4_copyFrom 88 = .ok (.aload_n 0, 1) := by decide +kernel
theorem dX4_copyFrom_89 : decode cX4_copyFrom 89 = .ok (.getfield 27, 3) := by decide +kernel
theorem dX4_copyFrom_92 : decode cX4_copyFrom 92 = .ok (.iconst 0, 1) := by decide +kernel
theorem dX4_copyFrom_93 : decode cX4_copyFrom 93 = .ok (.bipush 96, 2) := by decide +kernel
theorem dX4_copyFrom_95 : decode cX4_copyFrom 95 = .ok (.invokestatic 43, 3) := by decide +kernel
theorem dX4_copyFrom_98 : decode cX4_copyFrom 98 = .ok (.aload_n 1, 1) := by decide +kernel
theorem dX4_copyFrom_99 : decode cX4_copyFrom 99 = .ok (.getfield 30, 3) := by decide +kernel
theorem dX4_copyFrom_102 : decode cX4_copyFrom 102 = .ok (.iconst 0, 1) := by decide +kernel
theorem dX4_copyFrom_103 : decode cX4_copyFrom 103 = .ok (.aload_n 0, 1) := by decide +kernel
theorem dX4_copyFrom_104 : decode cX4_copyFrom 104 = .ok (.getfield 30, 3) := by decide +kernel
theorem dX4_copyFrom_107 : decode cX4_copyFrom 107 = .ok (.iconst 0, 1) := by decide +kernel
theorem dX4_copyFrom_108 : decode cX4_copyFrom 108 = .ok (.iconst 4, 1) := by decide +kernel
theorem dX4_copyFrom_109 : decode cX4_copyFrom 109 = .ok (.invokestatic 43, 3) := by decide +kernel
theorem dX4_copyFrom_112 : decode cX4_copyFrom 112 = .ok (.return_, 1) := by decide +kernel
theorem okX4_copyFrom : CalOK yX4_copyFrom cX4_copyFrom 2 (none) 1 := ⟨wd_69, wd_282, by decide +kernel⟩
theorem ovX4_copyFrom : VirOK yX4_copyFrom := ⟨wd_280, wd_281⟩
def FX4_copyFrom (B : Blk) (Bo : Blk) : Option Blk :=
  lt1 (bs B 1 0 ((Bo 1) 0)) fun B1 =>
  lt1 (bc B1 3 (va_cpy (Bo 3) (B1 3) 0 0 24)) fun B3 =>
  lt1 (bc B3 4 (va_cpy (Bo 4) (B3 4) 0 0 24)) fun B5 =>
  lt1 (bc B5 5 (va_cpy (Bo 5) (B5 5) 0 0 24)) fun B7 =>
  lt1 (bc B7 6 (va_cpy (Bo 6) (B7 6) 0 0 24)) fun B9 =>
  lt1 (bc B9 7 (va_cpy (Bo 7) (B9 7) 0 0 24)) fun B11 =>
  lt1 (bc B11 8 (va_cpy (Bo 8) (B11 8) 0 0 96)) fun B13 =>
  lt1 (bc B13 9 (va_cpy (Bo 9) (B13 9) 0 0 4)) fun B15 =>
  some B15
set_option maxRecDepth 100000 in
set_option maxHeartbeats 4000000 in
theorem wX4_copyFrom {E : WE} {V : VT} {A : Nat → Prop} {H0 : Heap} {M : Mem} {j : Nat} (hj : j < 11) {o : Nat} (ho : o < 11) (hoj : o ≠ j) (Cx : CX E RX4 cX4_copyFrom 2 1 60) {B' : Blk} (hret : RetV E V A H0 cX4_copyFrom (jb M j B')) {Bo : Blk} (hBo : Bo = M o) {H : Heap} {locs : List Loc} {ls : Array Slot} {B : Blk} (hW : Wd V A H0 (jb M j B) (eS E) H locs) (hl : lv_has ls 2 [(0, .ref (vA V j 1)), (1, .ref (vA V o 1))]) (hF : FX4_copyFrom B Bo = some B') : Wq E H locs 0 ls [] := by
  unfold FX4_copyFrom at hF
  refine q_aload_n Cx dX4_copyFrom_0 rfl (lv_at hl 0 rfl) ?_
  refine q_aload_n Cx dX4_copyFrom_1 rfl (lv_at hl 1 rfl) ?_
  refine q_get (v := .int ((Bo 1) 0)) Cx hW (oP ho) ic4 0 (by decide) (by rw [jb_ne hoj, ← hBo]; rfl) wd_96 dX4_copyFrom_2 ?_
  obtain ⟨B1, e2, hF⟩ := lt1_some hF
  refine qb_put Cx hW (oP hj) ic4 0 (by decide) (Nat.le_of_ble_eq_true rfl) e2 rfl rfl ⟨nI32 _, rfl⟩ wd_96 dX4_copyFrom_5 (fun H locs hW => ?_)
  refine q_aload_n Cx dX4_copyFrom_8 rfl (lv_at hl 1 rfl) ?_
  refine q_get (v := .ref (vA V o 3)) Cx hW (oP ho) ic4 1 (by decide) rfl wd_99 dX4_copyFrom_9 ?_
  refine q_iconst (v := (0 : Int32)) Cx dX4_copyFrom_12 (by decide) ?_
  refine q_aload_n Cx dX4_copyFrom_13 rfl (lv_at hl 0 rfl) ?_
  refine q_get (v := .ref (vA V j 3)) Cx hW (oP hj) ic4 1 (by decide) rfl wd_99 dX4_copyFrom_14 ?_
  refine q_iconst (v := (0 : Int32)) Cx dX4_copyFrom_17 (by decide) ?_
  refine q_bipush (v := (24 : Int32)) Cx dX4_copyFrom_18 (by decide) ?_
  obtain ⟨B3, e4, hF⟩ := lt1_some hF
  refine qb_copy (cnt := (24 : Int32)) (B' := B3) Cx hW (ai_3 ho) (ai_3 hj) hoj (by decide) (by decide) (by decide) (by rw [e4, hBo]; rfl) wd_283 wd_285 wd_284 wd_74 hl.1 (by decide) (Nat.le_of_ble_eq_true rfl) dX4_copyFrom_20 (fun H locs hW => ?_)
  refine q_aload_n Cx dX4_copyFrom_23 rfl (lv_at hl 1 rfl) ?_
  refine q_get (v := .ref (vA V o 4)) Cx hW (oP ho) ic4 2 (by decide) rfl wd_101 dX4_copyFrom_24 ?_
  refine q_iconst (v := (0 : Int32)) Cx dX4_copyFrom_27 (by decide) ?_
  refine q_aload_n Cx dX4_copyFrom_28 rfl (lv_at hl 0 rfl) ?_
  refine q_get (v := .ref (vA V j 4)) Cx hW (oP hj) ic4 2 (by decide) rfl wd_101 dX4_copyFrom_29 ?_
  refine q_iconst (v := (0 : Int32)) Cx dX4_copyFrom_32 (by decide) ?_
  refine q_bipush (v := (24 : Int32)) Cx dX4_copyFrom_33 (by decide) ?_
  obtain ⟨B5, e6, hF⟩ := lt1_some hF
  refine qb_copy (cnt := (24 : Int32)) (B' := B5) Cx hW (ai_4 ho) (ai_4 hj) hoj (by decide) (by decide) (by decide) (by rw [e6, hBo]; rfl) wd_283 wd_285 wd_284 wd_74 hl.1 (by decide) (Nat.le_of_ble_eq_true rfl) dX4_copyFrom_35 (fun H locs hW => ?_)
  refine q_aload_n Cx dX4_copyFrom_38 rfl (lv_at hl 1 rfl) ?_
  refine q_get (v := .ref (vA V o 5)) Cx hW (oP ho) ic4 3 (by decide) rfl wd_103 dX4_copyFrom_39 ?_
  refine q_iconst (v := (0 : Int32)) Cx dX4_copyFrom_42 (by decide) ?_
  refine q_aload_n Cx dX4_copyFrom_43 rfl (lv_at hl 0 rfl) ?_
  refine q_get (v := .ref (vA V j 5)) Cx hW (oP hj) ic4 3 (by decide) rfl wd_103 dX4_copyFrom_44 ?_
  refine q_iconst (v := (0 : Int32)) Cx dX4_copyFrom_47 (by decide) ?_
  refine q_bipush (v := (24 : Int32)) Cx dX4_copyFrom_48 (by decide) ?_
  obtain ⟨B7, e8, hF⟩ := lt1_some hF
  refine qb_copy (cnt := (24 : Int32)) (B' := B7) Cx hW (ai_5 ho) (ai_5 hj) hoj (by decide) (by decide) (by decide) (by rw [e8, hBo]; rfl) wd_283 wd_285 wd_284 wd_74 hl.1 (by decide) (Nat.le_of_ble_eq_true rfl) dX4_copyFrom_50 (fun H locs hW => ?_)
  refine q_aload_n Cx dX4_copyFrom_53 rfl (lv_at hl 1 rfl) ?_
  refine q_get (v := .ref (vA V o 6)) Cx hW (oP ho) ic4 4 (by decide) rfl wd_105 dX4_copyFrom_54 ?_
  refine q_iconst (v := (0 : Int32)) Cx dX4_copyFrom_57 (by decide) ?_
  refine q_aload_n Cx dX4_copyFrom_58 rfl (lv_at hl 0 rfl) ?_
  refine q_get (v := .ref (vA V j 6)) Cx hW (oP hj) ic4 4 (by decide) rfl wd_105 dX4_copyFrom_59 ?_
  refine q_iconst (v := (0 : Int32)) Cx dX4_copyFrom_62 (by decide) ?_
  refine q_bipush (v := (24 : Int32)) Cx dX4_copyFrom_63 (by decide) ?_
  obtain ⟨B9, e10, hF⟩ := lt1_some hF
  refine qb_copy (cnt := (24 : Int32)) (B' := B9) Cx hW (ai_6 ho) (ai_6 hj) hoj (by decide) (by decide) (by decide) (by rw [e10, hBo]; rfl) wd_283 wd_285 wd_284 wd_74 hl.1 (by decide) (Nat.le_of_ble_eq_true rfl) dX4_copyFrom_65 (fun H locs hW => ?_)
  refine q_aload_n Cx dX4_copyFrom_68 rfl (lv_at hl 1 rfl) ?_
  refine q_get (v := .ref (vA V o 7)) Cx hW (oP ho) ic4 5 (by decide) rfl wd_107 dX4_copyFrom_69 ?_
  refine q_iconst (v := (0 : Int32)) Cx dX4_copyFrom_72 (by decide) ?_
  refine q_aload_n Cx dX4_copyFrom_73 rfl (lv_at hl 0 rfl) ?_
  refine q_get (v := .ref (vA V j 7)) Cx hW (oP hj) ic4 5 (by decide) rfl wd_107 dX4_copyFrom_74 ?_
  refine q_iconst (v := (0 : Int32)) Cx dX4_copyFrom_77 (by decide) ?_
  refine q_bipush (v := (24 : Int32)) Cx dX4_copyFrom_78 (by decide) ?_
  obtain ⟨B11, e12, hF⟩ := lt1_some hF
  refine qb_copy (cnt := (24 : Int32)) (B' := B11) Cx hW (ai_7 ho) (ai_7 hj) hoj (by decide) (by decide) (by decide) (by rw [e12, hBo]; rfl) wd_283 wd_285 wd_284 wd_74 hl.1 (by decide) (Nat.le_of_ble_eq_true rfl) dX4_copyFrom_80 (fun H locs hW => ?_)
  refine q_aload_n Cx dX4_copyFrom_83 rfl (lv_at hl 1 rfl) ?_
  refine q_get (v := .ref (vA V o 8)) Cx hW (oP ho) ic4 6 (by decide) rfl wd_109 dX4_copyFrom_84 ?_
  refine q_iconst (v := (0 : Int32)) Cx dX4_copyFrom_87 (by decide) ?_
  refine q_aload_n Cx dX4_copyFrom_88 rfl (lv_at hl 0 rfl) ?_
  refine q_get (v := .ref (vA V j 8)) Cx hW (oP hj) ic4 6 (by decide) rfl wd_109 dX4_copyFrom_89 ?_
  refine q_iconst (v := (0 : Int32)) Cx dX4_copyFrom_92 (by decide) ?_
  refine q_bipush (v := (96 : Int32)) Cx dX4_copyFrom_93 (by decide) ?_
  obtain ⟨B13, e14, hF⟩ := lt1_some hF
  refine qb_copy (cnt := (96 : Int32)) (B' := B13) Cx hW (ai_8 ho) (ai_8 hj) hoj (by decide) (by decide) (by decide) (by rw [e14, hBo]; rfl) wd_283 wd_285 wd_284 wd_74 hl.1 (by decide) (Nat.le_of_ble_eq_true rfl) dX4_copyFrom_95 (fun H locs hW => ?_)
  refine q_aload_n Cx dX4_copyFrom_98 rfl (lv_at hl 1 rfl) ?_
  refine q_get (v := .ref (vA V o 9)) Cx hW (oP ho) ic4 7 (by decide) rfl wd_110 dX4_copyFrom_99 ?_
  refine q_iconst (v := (0 : Int32)) Cx dX4_copyFrom_102 (by decide) ?_
  refine q_aload_n Cx dX4_copyFrom_103 rfl (lv_at hl 0 rfl) ?_
  refine q_get (v := .ref (vA V j 9)) Cx hW (oP hj) ic4 7 (by decide) rfl wd_110 dX4_copyFrom_104 ?_
  refine q_iconst (v := (0 : Int32)) Cx dX4_copyFrom_107 (by decide) ?_
  refine q_iconst (v := (4 : Int32)) Cx dX4_copyFrom_108 (by decide) ?_
  obtain ⟨B15, e16, hF⟩ := lt1_some hF
  refine qb_copy (cnt := (4 : Int32)) (B' := B15) Cx hW (ai_9 ho) (ai_9 hj) hoj (by decide) (by decide) (by decide) (by rw [e16, hBo]; rfl) wd_283 wd_285 wd_284 wd_74 hl.1 (by decide) (Nat.le_of_ble_eq_true rfl) dX4_copyFrom_109 (fun H locs hW => ?_)
  cases hF
  exact hret _ _ _ _ dX4_copyFrom_112 hW
set_option maxRecDepth 100000 in
theorem kX4_copyFrom {l : Launch} {V : VT} {M : Mem} {j : Nat} (hj : j < 11) {o : Nat} (ho : o < 11) (hoj : o ≠ j) {Bo : Blk} (hBo : Bo = M o) {B : Blk} {B' : Blk} (hF : FX4_copyFrom B Bo = some B') : MetV l V yX4_copyFrom cX4_copyFrom 2 ({ frames := 1, cells := 0, slots := 0, locals := 60 } : Room) [.ref (vA V j 1), .ref (vA V o 1)] (jb M j B) (jb M j B') := metV_of (by decide) (Nat.le_of_ble_eq_true rfl) (fun E H0 _ Cx hret H locs ls hW hl => wX4_copyFrom hj ho hoj Cx hret hBo hW hl hF)
theorem dX4_has_0 : decode cX4_has 0 = .ok (.iload_n 1, 1) := by decide +kernel
theorem dX4_has_1 : decode cX4_has 1 = .ok (.ifCond .lt 15, 3) := by decide +kernel
theorem dX4_has_4 : decode cX4_has 4 = .ok (.iload_n 1, 1) := by decide +kernel
theorem dX4_has_5 : decode cX4_has 5 = .ok (.aload_n 0, 1) := by decide +kernel
theorem dX4_has_6 : decode cX4_has 6 = .ok (.getfield 39, 3) := by decide +kernel
theorem dX4_has_9 : decode cX4_has 9 = .ok (.if_icmp .ge 7, 3) := by decide +kernel
theorem dX4_has_12 : decode cX4_has 12 = .ok (.iconst 1, 1) := by decide +kernel
theorem dX4_has_13 : decode cX4_has 13 = .ok (.goto 4, 3) := by decide +kernel
theorem dX4_has_16 : decode cX4_has 16 = .ok (.iconst 0, 1) := by decide +kernel
theorem dX4_has_17 : decode cX4_has 17 = .ok (.ireturn, 1) := by decide +kernel
theorem okX4_has : CalOK yX4_has cX4_has 2 (some .boolean) 1 := ⟨wd_69, wd_311, by decide +kernel⟩
theorem ovX4_has : VirOK yX4_has := ⟨wd_309, wd_310⟩
def FX4_has (B : Blk) (l1 : Int32) : Option Int32 :=
  if l1 < 0 then
    some (0 : Int32)
  else
    if ((B 1) 0) ≤ l1 then
      some (0 : Int32)
    else
      some (1 : Int32)
set_option maxRecDepth 100000 in
set_option maxHeartbeats 4000000 in
theorem wX4_has {E : WE} {V : VT} {A : Nat → Prop} {H0 : Heap} {M : Mem} {j : Nat} (hj : j < 11) (Cx : CX E RX4 cX4_has 2 0 0) {r : Int32} {B : Blk} (hret : RetI E V A H0 cX4_has .boolean r (jb M j B)) {H : Heap} {locs : List Loc} {ls : Array Slot} {l1 : Int32} (hW : Wd V A H0 (jb M j B) (eS E) H locs) (hl : lv_has ls 2 [(0, .ref (vA V j 1)), (1, .int l1)]) (hF : FX4_has B l1 = some r) : Wq E H locs 0 ls [] := by
  unfold FX4_has at hF
  refine q_iload_n Cx dX4_has_0 rfl (lv_at hl 1 rfl) ?_
  refine q_if_lt (tgt := 16) Cx dX4_has_1 (by decide) (fun c1 => ?_) (fun c1 => ?_)
  · have hF := (if_pos c1).symm.trans hF
    refine q_iconst (v := (0 : Int32)) Cx dX4_has_16 (by decide) ?_
    cases hF
    exact hret _ _ _ _ dX4_has_17 (by rfl) hW
  · have hF := (if_neg c1).symm.trans hF
    refine q_iload_n Cx dX4_has_4 rfl (lv_at hl 1 rfl) ?_
    refine q_aload_n Cx dX4_has_5 rfl (lv_at hl 0 rfl) ?_
    refine qb_get (v := .int ((B 1) 0)) Cx hW (oP hj) ic4 0 (by decide) rfl wd_96 dX4_has_6 ?_
    refine q_icmp_ge (tgt := 16) Cx dX4_has_9 (by decide) (fun c2 => ?_) (fun c2 => ?_)
    · have hF := (if_pos c2).symm.trans hF
      refine q_iconst (v := (0 : Int32)) Cx dX4_has_16 (by decide) ?_
      cases hF
      exact hret _ _ _ _ dX4_has_17 (by rfl) hW
    · have hF := (if_neg c2).symm.trans hF
      refine q_iconst (v := (1 : Int32)) Cx dX4_has_12 (by decide) ?_
      refine q_goto (tgt := 17) Cx dX4_has_13 (by decide) ?_
      cases hF
      exact hret _ _ _ _ dX4_has_17 (by rfl) hW
set_option maxRecDepth 100000 in
theorem kX4_has {l : Launch} {V : VT} {M : Mem} {j : Nat} (hj : j < 11) {B : Blk} {l1 : Int32} {r : Int32} (hF : FX4_has B l1 = some r) : MetI l V yX4_has cX4_has 2 .boolean ({ frames := 0, cells := 0, slots := 0, locals := 0 } : Room) [.ref (vA V j 1), .int l1] r (jb M j B) (jb M j B) := metI_of (by decide) (Nat.le_of_ble_eq_true rfl) (fun E H0 _ Cx hret H locs ls hW hl => wX4_has hj Cx hret hW hl hF)
theorem dX4_append_0 : decode cX4_append 0 = .ok (.aload_n 0, 1) := by decide +kernel
theorem dX4_append_1 : decode cX4_append 1 = .ok (.getfield 39, 3) := by decide +kernel
theorem dX4_append_4 : decode cX4_append 4 = .ok (.istore 4, 2) := by decide +kernel
theorem dX4_append_6 : decode cX4_append 6 = .ok (.iload 4, 2) := by decide +kernel
theorem dX4_append_8 : decode cX4_append 8 = .ok (.bipush 24, 2) := by decide +kernel
theorem dX4_append_10 : decode cX4_append 10 = .ok (.if_icmp .lt 4, 3) := by decide +kernel
theorem dX4_append_13 : decode cX4_append 13 = .ok (.return_, 1) := by decide +kernel
theorem dX4_append_14 : decode cX4_append 14 = .ok (.aload_n 0, 1) := by decide +kernel
theorem dX4_append_15 : decode cX4_append 15 = .ok (.getfield 9, 3) := by decide +kernel
theorem dX4_append_18 : decode cX4_append 18 = .ok (.iload 4, 2) := by decide +kernel
theorem dX4_append_20 : decode cX4_append 20 = .ok (.iload_n 1, 1) := by decide +kernel
theorem dX4_append_21 : decode cX4_append 21 = .ok (.iastore, 1) := by decide +kernel
theorem dX4_append_22 : decode cX4_append 22 = .ok (.aload_n 0, 1) := by decide +kernel
theorem dX4_append_23 : decode cX4_append 23 = .ok (.getfield 15, 3) := by decide +kernel
theorem dX4_append_26 : decode cX4_append 26 = .ok (.iload 4, 2) := by decide +kernel
theorem dX4_append_28 : decode cX4_append 28 = .ok (.iload_n 2, 1) := by decide +kernel
theorem dX4_append_29 : decode cX4_append 29 = .ok (.iastore, 1) := by decide +kernel
theorem dX4_append_30 : decode cX4_append 30 = .ok (.aload_n 0, 1) := by decide +kernel
theorem dX4_append_31 : decode cX4_append 31 = .ok (.getfield 18, 3) := by decide +kernel
theorem dX4_append_34 : decode cX4_append 34 = .ok (.iload 4, 2) := by decide +kernel
theorem dX4_append_36 : decode cX4_append 36 = .ok (.iload_n 3, 1) := by decide +kernel
theorem dX4_append_37 : decode cX4_append 37 = .ok (.iastore, 1) := by decide +kernel
theorem dX4_append_38 : decode cX4_append 38 = .ok (.aload_n 0, 1) := by decide +kernel
theorem dX4_append_39 : decode cX4_append 39 = .ok (.getfield 27, 3) := by decide +kernel
theorem dX4_append_42 : decode cX4_append 42 = .ok (.iload_n 1, 1) := by decide +kernel
theorem dX4_append_43 : decode cX4_append 43 = .ok (.bipush 24, 2) := by decide +kernel
theorem dX4_append_45 : decode cX4_append 45 = .ok (.imul, 1) := by decide +kernel
theorem dX4_append_46 : decode cX4_append 46 = .ok (.aload_n 0, 1) := by decide +kernel
theorem dX4_append_47 : decode cX4_append 47 = .ok (.getfield 30, 3) := by decide +kernel
theorem dX4_append_50 : decode cX4_append 50 = .ok (.iload_n 1, 1) := by decide +kernel
theorem dX4_append_51 : decode cX4_append 51 = .ok (.iaload, 1) := by decide +kernel
theorem dX4_append_52 : decode cX4_append 52 = .ok (.iadd, 1) := by decide +kernel
theorem dX4_append_53 : decode cX4_append 53 = .ok (.iload 4, 2) := by decide +kernel
theorem dX4_append_55 : decode cX4_append 55 = .ok (.iastore, 1) := by decide +kernel
theorem dX4_append_56 : decode cX4_append 56 = .ok (.aload_n 0, 1) := by decide +kernel
theorem dX4_append_57 : decode cX4_append 57 = .ok (.getfield 30, 3) := by decide +kernel
theorem dX4_append_60 : decode cX4_append 60 = .ok (.iload_n 1, 1) := by decide +kernel
theorem dX4_append_61 : decode cX4_append 61 = .ok (.dup2, 1) := by decide +kernel
theorem dX4_append_62 : decode cX4_append 62 = .ok (.iaload, 1) := by decide +kernel
theorem dX4_append_63 : decode cX4_append 63 = .ok (.iconst 1, 1) := by decide +kernel
theorem dX4_append_64 : decode cX4_append 64 = .ok (.iadd, 1) := by decide +kernel
theorem dX4_append_65 : decode cX4_append 65 = .ok (.iastore, 1) := by decide +kernel
theorem dX4_append_66 : decode cX4_append 66 = .ok (.aload_n 0, 1) := by decide +kernel
theorem dX4_append_67 : decode cX4_append 67 = .ok (.dup, 1) := by decide +kernel
theorem dX4_append_68 : decode cX4_append 68 = .ok (.getfield 39, 3) := by decide +kernel
theorem dX4_append_71 : decode cX4_append 71 = .ok (.iconst 1, 1) := by decide +kernel
theorem dX4_append_72 : decode cX4_append 72 = .ok (.iadd, 1) := by decide +kernel
theorem dX4_append_73 : decode cX4_append 73 = .ok (.putfield 39, 3) := by decide +kernel
theorem dX4_append_76 : decode cX4_append 76 = .ok (.return_, 1) := by decide +kernel
theorem okX4_append : CalOK yX4_append cX4_append 5 (none) 3 := ⟨wd_69, wd_316, by decide +kernel⟩
theorem ovX4_append : VirOK yX4_append := ⟨wd_314, wd_315⟩
def FX4_append (B : Blk) (l1 : Int32) (l2 : Int32) (l3 : Int32) : Option Blk :=
  lt1 ((B 1) 0) fun x1 =>
  if x1 < (24 : Int32) then
    stb B 3 24 x1 l1 fun B4 =>
    stb B4 4 24 x1 l2 fun B7 =>
    stb B7 5 24 x1 l3 fun B10 =>
    ld (B10 9) 4 l1 fun v13 =>
    stb B10 8 96 ((l1 * (24 : Int32)) + v13) x1 fun B16 =>
    ld (B16 9) 4 l1 fun v19 =>
    stb B16 9 4 l1 (v19 + (1 : Int32)) fun B22 =>
    lt1 (bs B22 1 0 (((B22 1) 0) + (1 : Int32))) fun B25 =>
    some B25
  else
    some B
set_option maxRecDepth 100000 in
set_option maxHeartbeats 4000000 in
theorem wX4_append {E : WE} {V : VT} {A : Nat → Prop} {H0 : Heap} {M : Mem} {j : Nat} (hj : j < 11) (Cx : CX E RX4 cX4_append 5 0 0) {B' : Blk} (hret : RetV E V A H0 cX4_append (jb M j B')) {H : Heap} {locs : List Loc} {ls : Array Slot} {l1 : Int32} {l2 : Int32} {l3 : Int32} {B : Blk} (hW : Wd V A H0 (jb M j B) (eS E) H locs) (hl : lv_has ls 5 [(0, .ref (vA V j 1)), (1, .int l1), (2, .int l2), (3, .int l3)]) (hF : FX4_append B l1 l2 l3 = some B') : Wq E H locs 0 ls [] := by
  unfold FX4_append at hF
  refine q_aload_n Cx dX4_append_0 rfl (lv_at hl 0 rfl) ?_
  refine qb_get (v := .int ((B 1) 0)) Cx hW (oP hj) ic4 0 (by decide) rfl wd_96 dX4_append_1 ?_
  obtain ⟨x1, e2, hF⟩ := lt1_some hF
  refine q_topi e2 ?_
  refine q_istore (lv' := [(4, .int x1), (0, .ref (vA V j 1)), (1, .int l1), (2, .int l2), (3, .int l3)]) Cx dX4_append_4 hl (by decide) rfl (fun ls hl => ?_)
  refine q_iload Cx dX4_append_6 (lv_at hl 0 rfl) ?_
  refine q_bipush (v := (24 : Int32)) Cx dX4_append_8 (by decide) ?_
  refine q_icmp_lt (tgt := 14) Cx dX4_append_10 (by decide) (fun c3 => ?_) (fun c3 => ?_)
  · have hF := (if_pos c3).symm.trans hF
    refine q_aload_n Cx dX4_append_14 rfl (lv_at hl 1 rfl) ?_
    refine q_get (v := .ref (vA V j 3)) Cx hW (oP hj) ic4 1 (by decide) rfl wd_99 dX4_append_15 ?_
    refine q_iload Cx dX4_append_18 (lv_at hl 0 rfl) ?_
    refine q_iload_n Cx dX4_append_20 rfl (lv_at hl 2 rfl) ?_
    obtain ⟨h5, B4, e6, hF⟩ := stb_some hF
    refine qb_iast Cx hW (ai_3 hj) h5 e6 dX4_append_21 (fun H locs hW => ?_)
    refine q_aload_n Cx dX4_append_22 rfl (lv_at hl 1 rfl) ?_
    refine q_get (v := .ref (vA V j 4)) Cx hW (oP hj) ic4 2 (by decide) rfl wd_101 dX4_append_23 ?_
    refine q_iload Cx dX4_append_26 (lv_at hl 0 rfl) ?_
    refine q_iload_n Cx dX4_append_28 rfl (lv_at hl 3 rfl) ?_
    obtain ⟨h8, B7, e9, hF⟩ := stb_some hF
    refine qb_iast Cx hW (ai_4 hj) h8 e9 dX4_append_29 (fun H locs hW => ?_)
    refine q_aload_n Cx dX4_append_30 rfl (lv_at hl 1 rfl) ?_
    refine q_get (v := .ref (vA V j 5)) Cx hW (oP hj) ic4 3 (by decide) rfl wd_103 dX4_append_31 ?_
    refine q_iload Cx dX4_append_34 (lv_at hl 0 rfl) ?_
    refine q_iload_n Cx dX4_append_36 rfl (lv_at hl 4 rfl) ?_
    obtain ⟨h11, B10, e12, hF⟩ := stb_some hF
    refine qb_iast Cx hW (ai_5 hj) h11 e12 dX4_append_37 (fun H locs hW => ?_)
    refine q_aload_n Cx dX4_append_38 rfl (lv_at hl 1 rfl) ?_
    refine q_get (v := .ref (vA V j 8)) Cx hW (oP hj) ic4 6 (by decide) rfl wd_109 dX4_append_39 ?_
    refine q_iload_n Cx dX4_append_42 rfl (lv_at hl 2 rfl) ?_
    refine q_bipush (v := (24 : Int32)) Cx dX4_append_43 (by decide) ?_
    refine q_imul Cx dX4_append_45 ?_
    refine q_aload_n Cx dX4_append_46 rfl (lv_at hl 1 rfl) ?_
    refine q_get (v := .ref (vA V j 9)) Cx hW (oP hj) ic4 7 (by decide) rfl wd_110 dX4_append_47 ?_
    refine q_iload_n Cx dX4_append_50 rfl (lv_at hl 2 rfl) ?_
    obtain ⟨h14, v13, e15, hF⟩ := ld_some hF
    refine qb_iald Cx hW (ai_9 hj) h14 e15 dX4_append_51 ?_
    refine q_iadd Cx dX4_append_52 ?_
    refine q_iload Cx dX4_append_53 (lv_at hl 0 rfl) ?_
    obtain ⟨h17, B16, e18, hF⟩ := stb_some hF
    refine qb_iast Cx hW (ai_8 hj) h17 e18 dX4_append_55 (fun H locs hW => ?_)
    refine q_aload_n Cx dX4_append_56 rfl (lv_at hl 1 rfl) ?_
    refine q_get (v := .ref (vA V j 9)) Cx hW (oP hj) ic4 7 (by decide) rfl wd_110 dX4_append_57 ?_
    refine q_iload_n Cx dX4_append_60 rfl (lv_at hl 2 rfl) ?_
    refine q_dup2 Cx dX4_append_61 rfl rfl ?_
    obtain ⟨h20, v19, e21, hF⟩ := ld_some hF
    refine qb_iald Cx hW (ai_9 hj) h20 e21 dX4_append_62 ?_
    refine q_iconst (v := (1 : Int32)) Cx dX4_append_63 (by decide) ?_
    refine q_iadd Cx dX4_append_64 ?_
    obtain ⟨h23, B22, e24, hF⟩ := stb_some hF
    refine qb_iast Cx hW (ai_9 hj) h23 e24 dX4_append_65 (fun H locs hW => ?_)
    refine q_aload_n Cx dX4_append_66 rfl (lv_at hl 1 rfl) ?_
    refine q_dup Cx dX4_append_67 rfl ?_
    refine qb_get (v := .int ((B22 1) 0)) Cx hW (oP hj) ic4 0 (by decide) rfl wd_96 dX4_append_68 ?_
    refine q_iconst (v := (1 : Int32)) Cx dX4_append_71 (by decide) ?_
    refine q_iadd Cx dX4_append_72 ?_
    obtain ⟨B25, e26, hF⟩ := lt1_some hF
    refine qb_put Cx hW (oP hj) ic4 0 (by decide) (Nat.le_of_ble_eq_true rfl) e26 rfl rfl ⟨nI32 _, rfl⟩ wd_96 dX4_append_73 (fun H locs hW => ?_)
    cases hF
    exact hret _ _ _ _ dX4_append_76 hW
  · have hF := (if_neg c3).symm.trans hF
    cases hF
    exact hret _ _ _ _ dX4_append_13 hW
set_option maxRecDepth 100000 in
theorem kX4_append {l : Launch} {V : VT} {M : Mem} {j : Nat} (hj : j < 11) {B : Blk} {l1 : Int32} {l2 : Int32} {l3 : Int32} {B' : Blk} (hF : FX4_append B l1 l2 l3 = some B') : MetV l V yX4_append cX4_append 5 ({ frames := 0, cells := 0, slots := 0, locals := 0 } : Room) [.ref (vA V j 1), .int l1, .int l2, .int l3] (jb M j B) (jb M j B') := metV_of (by decide) (Nat.le_of_ble_eq_true rfl) (fun E H0 _ Cx hret H locs ls hW hl => wX4_append hj Cx hret hW hl hF)
theorem dX4_inRow_0 : decode cX4_inRow 0 = .ok (.iload_n 1, 1) := by decide +kernel
theorem dX4_inRow_1 : decode cX4_inRow 1 = .ok (.ifCond .lt 22, 3) := by decide +kernel
theorem dX4_inRow_4 : decode cX4_inRow 4 = .ok (.iload_n 1, 1) := by decide +kernel
theorem dX4_inRow_5 : decode cX4_inRow 5 = .ok (.iconst 4, 1) := by decide +kernel
theorem dX4_inRow_6 : decode cX4_inRow 6 = .ok (.if_icmp .ge 17, 3) := by decide +kernel
theorem dX4_inRow_9 : decode cX4_inRow 9 = .ok (.iload_n 2, 1) := by decide +kernel
theorem dX4_inRow_10 : decode cX4_inRow 10 = .ok (.ifCond .lt 13, 3) := by decide +kernel
theorem dX4_inRow_13 : decode cX4_inRow 13 = .ok (.iload_n 2, 1) := by decide +kernel
theorem dX4_inRow_14 : decode cX4_inRow 14 = .ok (.aload_n 0, 1) := by decide +kernel
theorem dX4_inRow_15 : decode cX4_inRow 15 = .ok (.getfield 30, 3) := by decide +kernel
theorem dX4_inRow_18 : decode cX4_inRow 18 = .ok (.iload_n 1, 1) := by decide +kernel
theorem dX4_inRow_19 : decode cX4_inRow 19 = .ok (.iaload, 1) := by decide +kernel
theorem dX4_inRow_20 : decode cX4_inRow 20 = .ok (.if_icmp .lt 6, 3) := by decide +kernel
theorem dX4_inRow_23 : decode cX4_inRow 23 = .ok (.bipush (-6), 2) := by decide +kernel
theorem dX4_inRow_25 : decode cX4_inRow 25 = .ok (.ireturn, 1) := by decide +kernel
theorem dX4_inRow_26 : decode cX4_inRow 26 = .ok (.aload_n 0, 1) := by decide +kernel
theorem dX4_inRow_27 : decode cX4_inRow 27 = .ok (.getfield 27, 3) := by decide +kernel
theorem dX4_inRow_30 : decode cX4_inRow 30 = .ok (.iload_n 1, 1) := by decide +kernel
theorem dX4_inRow_31 : decode cX4_inRow 31 = .ok (.bipush 24, 2) := by decide +kernel
theorem dX4_inRow_33 : decode cX4_inRow 33 = .ok (.imul, 1) := by decide +kernel
theorem dX4_inRow_34 : decode cX4_inRow 34 = .ok (.iload_n 2, 1) := by decide +kernel
theorem dX4_inRow_35 : decode cX4_inRow 35 = .ok (.iadd, 1) := by decide +kernel
theorem dX4_inRow_36 : decode cX4_inRow 36 = .ok (.iaload, 1) := by decide +kernel
theorem dX4_inRow_37 : decode cX4_inRow 37 = .ok (.ireturn, 1) := by decide +kernel
theorem okX4_inRow : CalOK yX4_inRow cX4_inRow 3 (some .int) 2 := ⟨wd_69, wd_328, by decide +kernel⟩
theorem ovX4_inRow : VirOK yX4_inRow := ⟨wd_326, wd_327⟩
def FX4_inRow (B : Blk) (l1 : Int32) (l2 : Int32) : Option Int32 :=
  if l1 < 0 then
    some (-6 : Int32)
  else
    if (4 : Int32) ≤ l1 then
      some (-6 : Int32)
    else
      if l2 < 0 then
        some (-6 : Int32)
      else
        ld (B 9) 4 l1 fun v4 =>
        if l2 < v4 then
          ld (B 8) 96 ((l1 * (24 : Int32)) + l2) fun v8 =>
          some v8
        else
          some (-6 : Int32)
set_option maxRecDepth 100000 in
set_option maxHeartbeats 4000000 in
theorem wX4_inRow {E : WE} {V : VT} {A : Nat → Prop} {H0 : Heap} {M : Mem} {j : Nat} (hj : j < 11) (Cx : CX E RX4 cX4_inRow 3 0 0) {r : Int32} {B : Blk} (hret : RetI E V A H0 cX4_inRow .int r (jb M j B)) {H : Heap} {locs : List Loc} {ls : Array Slot} {l1 : Int32} {l2 : Int32} (hW : Wd V A H0 (jb M j B) (eS E) H locs) (hl : lv_has ls 3 [(0, .ref (vA V j 1)), (1, .int l1), (2, .int l2)]) (hF : FX4_inRow B l1 l2 = some r) : Wq E H locs 0 ls [] := by
  unfold FX4_inRow at hF
  refine q_iload_n Cx dX4_inRow_0 rfl (lv_at hl 1 rfl) ?_
  refine q_if_lt (tgt := 23) Cx dX4_inRow_1 (by decide) (fun c1 => ?_) (fun c1 => ?_)
  · have hF := (if_pos c1).symm.trans hF
    refine q_bipush (v := (-6 : Int32)) Cx dX4_inRow_23 (by decide) ?_
    cases hF
    exact hret _ _ _ _ dX4_inRow_25 (nI32 _) hW
  · have hF := (if_neg c1).symm.trans hF
    refine q_iload_n Cx dX4_inRow_4 rfl (lv_at hl 1 rfl) ?_
    refine q_iconst (v := (4 : Int32)) Cx dX4_inRow_5 (by decide) ?_
    refine q_icmp_ge (tgt := 23) Cx dX4_inRow_6 (by decide) (fun c2 => ?_) (fun c2 => ?_)
    · have hF := (if_pos c2).symm.trans hF
      refine q_bipush (v := (-6 : Int32)) Cx dX4_inRow_23 (by decide) ?_
      cases hF
      exact hret _ _ _ _ dX4_inRow_25 (nI32 _) hW
    · have hF := (if_neg c2).symm.trans hF
      refine q_iload_n Cx dX4_inRow_9 rfl (lv_at hl 2 rfl) ?_
      refine q_if_lt (tgt := 23) Cx dX4_inRow_10 (by decide) (fun c3 => ?_) (fun c3 => ?_)
      · have hF := (if_pos c3).symm.trans hF
        refine q_bipush (v := (-6 : Int32)) Cx dX4_inRow_23 (by decide) ?_
        cases hF
        exact hret _ _ _ _ dX4_inRow_25 (nI32 _) hW
      · have hF := (if_neg c3).symm.trans hF
        refine q_iload_n Cx dX4_inRow_13 rfl (lv_at hl 2 rfl) ?_
        refine q_aload_n Cx dX4_inRow_14 rfl (lv_at hl 0 rfl) ?_
        refine q_get (v := .ref (vA V j 9)) Cx hW (oP hj) ic4 7 (by decide) rfl wd_110 dX4_inRow_15 ?_
        refine q_iload_n Cx dX4_inRow_18 rfl (lv_at hl 1 rfl) ?_
        obtain ⟨h5, v4, e6, hF⟩ := ld_some hF
        refine qb_iald Cx hW (ai_9 hj) h5 e6 dX4_inRow_19 ?_
        refine q_icmp_lt (tgt := 26) Cx dX4_inRow_20 (by decide) (fun c7 => ?_) (fun c7 => ?_)
        · have hF := (if_pos c7).symm.trans hF
          refine q_aload_n Cx dX4_inRow_26 rfl (lv_at hl 0 rfl) ?_
          refine q_get (v := .ref (vA V j 8)) Cx hW (oP hj) ic4 6 (by decide) rfl wd_109 dX4_inRow_27 ?_
          refine q_iload_n Cx dX4_inRow_30 rfl (lv_at hl 1 rfl) ?_
          refine q_bipush (v := (24 : Int32)) Cx dX4_inRow_31 (by decide) ?_
          refine q_imul Cx dX4_inRow_33 ?_
          refine q_iload_n Cx dX4_inRow_34 rfl (lv_at hl 2 rfl) ?_
          refine q_iadd Cx dX4_inRow_35 ?_
          obtain ⟨h9, v8, e10, hF⟩ := ld_some hF
          refine qb_iald Cx hW (ai_8 hj) h9 e10 dX4_inRow_36 ?_
          cases hF
          exact hret _ _ _ _ dX4_inRow_37 (nI32 _) hW
        · have hF := (if_neg c7).symm.trans hF
          refine q_bipush (v := (-6 : Int32)) Cx dX4_inRow_23 (by decide) ?_
          cases hF
          exact hret _ _ _ _ dX4_inRow_25 (nI32 _) hW
set_option maxRecDepth 100000 in
theorem kX4_inRow {l : Launch} {V : VT} {M : Mem} {j : Nat} (hj : j < 11) {B : Blk} {l1 : Int32} {l2 : Int32} {r : Int32} (hF : FX4_inRow B l1 l2 = some r) : MetI l V yX4_inRow cX4_inRow 3 .int ({ frames := 0, cells := 0, slots := 0, locals := 0 } : Room) [.ref (vA V j 1), .int l1, .int l2] r (jb M j B) (jb M j B) := metI_of (by decide) (Nat.le_of_ble_eq_true rfl) (fun E H0 _ Cx hret H locs ls hW hl => wX4_inRow hj Cx hret hW hl hF)
theorem dX4_endOf_0 : decode cX4_endOf 0 = .ok (.iload_n 1, 1) := by decide +kernel
theorem dX4_endOf_1 : decode cX4_endOf 1 = .ok (.ifCond .lt 20, 3) := by decide +kernel
theorem dX4_endOf_4 : decode cX4_endOf 4 = .ok (.iload_n 1, 1) := by decide +kernel
theorem dX4_endOf_5 : decode cX4_endOf 5 = .ok (.aload_n 0, 1) := by decide +kernel
theorem dX4_endOf_6 : decode cX4_endOf 6 = .ok (.getfield 39, 3) := by decide +kernel
theorem dX4_endOf_9 : decode cX4_endOf 9 = .ok (.if_icmp .ge 12, 3) := by decide +kernel
theorem dX4_endOf_12 : decode cX4_endOf 12 = .ok (.aload_n 0, 1) := by decide +kernel
theorem dX4_endOf_13 : decode cX4_endOf 13 = .ok (.getfield 21, 3) := by decide +kernel
theorem dX4_endOf_16 : decode cX4_endOf 16 = .ok (.iload_n 1, 1) := by decide +kernel
theorem dX4_endOf_17 : decode cX4_endOf 17 = .ok (.iaload, 1) := by decide +kernel
theorem dX4_endOf_18 : decode cX4_endOf 18 = .ok (.goto 4, 3) := by decide +kernel
theorem dX4_endOf_21 : decode cX4_endOf 21 = .ok (.iconst 0, 1) := by decide +kernel
theorem dX4_endOf_22 : decode cX4_endOf 22 = .ok (.ireturn, 1) := by decide +kernel
theorem okX4_endOf : CalOK yX4_endOf cX4_endOf 2 (some .int) 1 := ⟨wd_69, wd_332, by decide +kernel⟩
theorem ovX4_endOf : VirOK yX4_endOf := ⟨wd_330, wd_331⟩
def FX4_endOf (B : Blk) (l1 : Int32) : Option Int32 :=
  if l1 < 0 then
    some (0 : Int32)
  else
    if ((B 1) 0) ≤ l1 then
      some (0 : Int32)
    else
      ld (B 6) 24 l1 fun v3 =>
      some v3
set_option maxRecDepth 100000 in
set_option maxHeartbeats 4000000 in
theorem wX4_endOf {E : WE} {V : VT} {A : Nat → Prop} {H0 : Heap} {M : Mem} {j : Nat} (hj : j < 11) (Cx : CX E RX4 cX4_endOf 2 0 0) {r : Int32} {B : Blk} (hret : RetI E V A H0 cX4_endOf .int r (jb M j B)) {H : Heap} {locs : List Loc} {ls : Array Slot} {l1 : Int32} (hW : Wd V A H0 (jb M j B) (eS E) H locs) (hl : lv_has ls 2 [(0, .ref (vA V j 1)), (1, .int l1)]) (hF : FX4_endOf B l1 = some r) : Wq E H locs 0 ls [] := by
  unfold FX4_endOf at hF
  refine q_iload_n Cx dX4_endOf_0 rfl (lv_at hl 1 rfl) ?_
  refine q_if_lt (tgt := 21) Cx dX4_endOf_1 (by decide) (fun c1 => ?_) (fun c1 => ?_)
  · have hF := (if_pos c1).symm.trans hF
    refine q_iconst (v := (0 : Int32)) Cx dX4_endOf_21 (by decide) ?_
    cases hF
    exact hret _ _ _ _ dX4_endOf_22 (nI32 _) hW
  · have hF := (if_neg c1).symm.trans hF
    refine q_iload_n Cx dX4_endOf_4 rfl (lv_at hl 1 rfl) ?_
    refine q_aload_n Cx dX4_endOf_5 rfl (lv_at hl 0 rfl) ?_
    refine qb_get (v := .int ((B 1) 0)) Cx hW (oP hj) ic4 0 (by decide) rfl wd_96 dX4_endOf_6 ?_
    refine q_icmp_ge (tgt := 21) Cx dX4_endOf_9 (by decide) (fun c2 => ?_) (fun c2 => ?_)
    · have hF := (if_pos c2).symm.trans hF
      refine q_iconst (v := (0 : Int32)) Cx dX4_endOf_21 (by decide) ?_
      cases hF
      exact hret _ _ _ _ dX4_endOf_22 (nI32 _) hW
    · have hF := (if_neg c2).symm.trans hF
      refine q_aload_n Cx dX4_endOf_12 rfl (lv_at hl 0 rfl) ?_
      refine q_get (v := .ref (vA V j 6)) Cx hW (oP hj) ic4 4 (by decide) rfl wd_105 dX4_endOf_13 ?_
      refine q_iload_n Cx dX4_endOf_16 rfl (lv_at hl 1 rfl) ?_
      obtain ⟨h4, v3, e5, hF⟩ := ld_some hF
      refine qb_iald Cx hW (ai_6 hj) h4 e5 dX4_endOf_17 ?_
      refine q_goto (tgt := 22) Cx dX4_endOf_18 (by decide) ?_
      cases hF
      exact hret _ _ _ _ dX4_endOf_22 (nI32 _) hW
set_option maxRecDepth 100000 in
theorem kX4_endOf {l : Launch} {V : VT} {M : Mem} {j : Nat} (hj : j < 11) {B : Blk} {l1 : Int32} {r : Int32} (hF : FX4_endOf B l1 = some r) : MetI l V yX4_endOf cX4_endOf 2 .int ({ frames := 0, cells := 0, slots := 0, locals := 0 } : Room) [.ref (vA V j 1), .int l1] r (jb M j B) (jb M j B) := metI_of (by decide) (Nat.le_of_ble_eq_true rfl) (fun E H0 _ Cx hret H locs ls hW hl => wX4_endOf hj Cx hret hW hl hF)
theorem dX4_scheduleRow_0 : decode cX4_scheduleRow 0 = .ok (.aload_n 0, 1) := by decide +kernel
theorem dX4_scheduleRow_1 : decode cX4_scheduleRow 1 = .ok (.aload_n 0, 1) := by decide +kernel
theorem dX4_scheduleRow_2 : decode cX4_scheduleRow 2 = .ok (.iload_n 1, 1) := by decide +kernel
theorem dX4_scheduleRow_3 : decode cX4_scheduleRow 3 = .ok (.aload_n 0, 1) := by decide +kernel
theorem dX4_scheduleRow_4 : decode cX4_scheduleRow 4 = .ok (.getfield 33, 3) := by decide +kernel
theorem dX4_scheduleRow_7 : decode cX4_scheduleRow 7 = .ok (.iload_n 1, 1) := by decide +kernel
theorem dX4_scheduleRow_8 : decode cX4_scheduleRow 8 = .ok (.iaload, 1) := by decide +kernel
theorem dX4_scheduleRow_9 : decode cX4_scheduleRow 9 = .ok (.iconst 1, 1) := by decide +kernel
theorem dX4_scheduleRow_10 : decode cX4_scheduleRow 10 = .ok (.isub, 1) := by decide +kernel
theorem dX4_scheduleRow_11 : decode cX4_scheduleRow 11 = .ok (.invokevirtual 49, 3) := by decide +kernel
theorem dX4_scheduleRow_14 : decode cX4_scheduleRow 14 = .ok (.invokevirtual 65, 3) := by decide +kernel
theorem dX4_scheduleRow_17 : decode cX4_scheduleRow 17 = .ok (.istore_n 3, 1) := by decide +kernel
theorem dX4_scheduleRow_18 : decode cX4_scheduleRow 18 = .ok (.aload_n 0, 1) := by decide +kernel
theorem dX4_scheduleRow_19 : decode cX4_scheduleRow 19 = .ok (.getfield 33, 3) := by decide +kernel
theorem dX4_scheduleRow_22 : decode cX4_scheduleRow 22 = .ok (.iload_n 1, 1) := by decide +kernel
theorem dX4_scheduleRow_23 : decode cX4_scheduleRow 23 = .ok (.iaload, 1) := by decide +kernel
theorem dX4_scheduleRow_24 : decode cX4_scheduleRow 24 = .ok (.aload_n 0, 1) := by decide +kernel
theorem dX4_scheduleRow_25 : decode cX4_scheduleRow 25 = .ok (.getfield 30, 3) := by decide +kernel
theorem dX4_scheduleRow_28 : decode cX4_scheduleRow 28 = .ok (.iload_n 1, 1) := by decide +kernel
theorem dX4_scheduleRow_29 : decode cX4_scheduleRow 29 = .ok (.iaload, 1) := by decide +kernel
theorem dX4_scheduleRow_30 : decode cX4_scheduleRow 30 = .ok (.if_icmp .ge 124, 3) := by decide +kernel
theorem dX4_scheduleRow_33 : decode cX4_scheduleRow 33 = .ok (.iload_n 2, 1) := by decide +kernel
theorem dX4_scheduleRow_34 : decode cX4_scheduleRow 34 = .ok (.aload_n 0, 1) := by decide +kernel
theorem dX4_scheduleRow_35 : decode cX4_scheduleRow 35 = .ok (.getfield 39, 3) := by decide +kernel
theorem dX4_scheduleRow_38 : decode cX4_scheduleRow 38 = .ok (.if_icmp .ge 116, 3) := by decide +kernel
theorem dX4_scheduleRow_41 : decode cX4_scheduleRow 41 = .ok (.aload_n 0, 1) := by decide +kernel
theorem dX4_scheduleRow_42 : decode cX4_scheduleRow 42 = .ok (.iload_n 1, 1) := by decide +kernel
theorem dX4_scheduleRow_43 : decode cX4_scheduleRow 43 = .ok (.aload_n 0, 1) := by decide +kernel
theorem dX4_scheduleRow_44 : decode cX4_scheduleRow 44 = .ok (.getfield 33, 3) := by decide +kernel
theorem dX4_scheduleRow_47 : decode cX4_scheduleRow 47 = .ok (.iload_n 1, 1) := by decide +kernel
theorem dX4_scheduleRow_48 : decode cX4_scheduleRow 48 = .ok (.iaload, 1) := by decide +kernel
theorem dX4_scheduleRow_49 : decode cX4_scheduleRow 49 = .ok (.invokevirtual 49, 3) := by decide +kernel
theorem dX4_scheduleRow_52 : decode cX4_scheduleRow 52 = .ok (.istore 4, 2) := by decide +kernel
theorem dX4_scheduleRow_54 : decode cX4_scheduleRow 54 = .ok (.aload_n 0, 1) := by decide +kernel
theorem dX4_scheduleRow_55 : decode cX4_scheduleRow 55 = .ok (.iload 4, 2) := by decide +kernel
theorem dX4_scheduleRow_57 : decode cX4_scheduleRow 57 = .ok (.invokevirtual 68, 3) := by decide +kernel
theorem dX4_scheduleRow_60 : decode cX4_scheduleRow 60 = .ok (.ifCond .eq 94, 3) := by decide +kernel
theorem dX4_scheduleRow_63 : decode cX4_scheduleRow 63 = .ok (.aload_n 0, 1) := by decide +kernel
theorem dX4_scheduleRow_64 : decode cX4_scheduleRow 64 = .ok (.aload_n 0, 1) := by decide +kernel
theorem dX4_scheduleRow_65 : decode cX4_scheduleRow 65 = .ok (.getfield 18, 3) := by decide +kernel
theorem dX4_scheduleRow_68 : decode cX4_scheduleRow 68 = .ok (.iload 4, 2) := by decide +kernel
theorem dX4_scheduleRow_70 : decode cX4_scheduleRow 70 = .ok (.iaload, 1) := by decide +kernel
theorem dX4_scheduleRow_71 : decode cX4_scheduleRow 71 = .ok (.invokevirtual 68, 3) := by decide +kernel
theorem dX4_scheduleRow_74 : decode cX4_scheduleRow 74 = .ok (.ifCond .eq 20, 3) := by decide +kernel
theorem dX4_scheduleRow_77 : decode cX4_scheduleRow 77 = .ok (.aload_n 0, 1) := by decide +kernel
theorem dX4_scheduleRow_78 : decode cX4_scheduleRow 78 = .ok (.aload_n 0, 1) := by decide +kernel
theorem dX4_scheduleRow_79 : decode cX4_scheduleRow 79 = .ok (.getfield 18, 3) := by decide +kernel
theorem dX4_scheduleRow_82 : decode cX4_scheduleRow 82 = .ok (.iload 4, 2) := by decide +kernel
theorem dX4_scheduleRow_84 : decode cX4_scheduleRow 84 = .ok (.iaload, 1) := by decide +kernel
theorem dX4_scheduleRow_85 : decode cX4_scheduleRow 85 = .ok (.invokevirtual 65, 3) := by decide +kernel
theorem dX4_scheduleRow_88 : decode cX4_scheduleRow 88 = .ok (.ifCond .ne 6, 3) := by decide +kernel
theorem dX4_scheduleRow_91 : decode cX4_scheduleRow 91 = .ok (.goto 63, 3) := by decide +kernel
theorem dX4_scheduleRow_94 : decode cX4_scheduleRow 94 = .ok (.aload_n 0, 1) := by decide +kernel
theorem dX4_scheduleRow_95 : decode cX4_scheduleRow 95 = .ok (.aload_n 0, 1) := by decide +kernel
theorem dX4_scheduleRow_96 : decode cX4_scheduleRow 96 = .ok (.getfield 18, 3) := by decide +kernel
theorem dX4_scheduleRow_99 : decode cX4_scheduleRow 99 = .ok (.iload 4, 2) := by decide +kernel
theorem dX4_scheduleRow_101 : decode cX4_scheduleRow 101 = .ok (.iaload, 1) := by decide +kernel
theorem dX4_scheduleRow_102 : decode cX4_scheduleRow 102 = .ok (.invokevirtual 65, 3) := by decide +kernel
theorem dX4_scheduleRow_105 : decode cX4_scheduleRow 105 = .ok (.istore 5, 2) := by decide +kernel
theorem dX4_scheduleRow_107 : decode cX4_scheduleRow 107 = .ok (.iload_n 3, 1) := by decide +kernel
theorem dX4_scheduleRow_108 : decode cX4_scheduleRow 108 = .ok (.iload 5, 2) := by decide +kernel
theorem dX4_scheduleRow_110 : decode cX4_scheduleRow 110 = .ok (.invokestatic 57, 3) := by decide +kernel
theorem dX4_scheduleRow_113 : decode cX4_scheduleRow 113 = .ok (.aload_n 0, 1) := by decide +kernel
theorem dX4_scheduleRow_114 : decode cX4_scheduleRow 114 = .ok (.getfield 15, 3) := by decide +kernel
theorem dX4_scheduleRow_117 : decode cX4_scheduleRow 117 = .ok (.iload 4, 2) := by decide +kernel
theorem dX4_scheduleRow_119 : decode cX4_scheduleRow 119 = .ok (.iaload, 1) := by decide +kernel
theorem dX4_scheduleRow_120 : decode cX4_scheduleRow 120 = .ok (.iadd, 1) := by decide +kernel
theorem dX4_scheduleRow_121 : decode cX4_scheduleRow 121 = .ok (.istore_n 3, 1) := by decide +kernel
theorem dX4_scheduleRow_122 : decode cX4_scheduleRow 122 = .ok (.aload_n 0, 1) := by decide +kernel
theorem dX4_scheduleRow_123 : decode cX4_scheduleRow 123 = .ok (.getfield 21, 3) := by decide +kernel
theorem dX4_scheduleRow_126 : decode cX4_scheduleRow 126 = .ok (.iload 4, 2) := by decide +kernel
theorem dX4_scheduleRow_128 : decode cX4_scheduleRow 128 = .ok (.iload_n 3, 1) := by decide +kernel
theorem dX4_scheduleRow_129 : decode cX4_scheduleRow 129 = .ok (.iastore, 1) := by decide +kernel
theorem dX4_scheduleRow_130 : decode cX4_scheduleRow 130 = .ok (.aload_n 0, 1) := by decide +kernel
theorem dX4_scheduleRow_131 : decode cX4_scheduleRow 131 = .ok (.getfield 24, 3) := by decide +kernel
theorem dX4_scheduleRow_134 : decode cX4_scheduleRow 134 = .ok (.iload_n 2, 1) := by decide +kernel
theorem dX4_scheduleRow_135 : decode cX4_scheduleRow 135 = .ok (.iload 4, 2) := by decide +kernel
theorem dX4_scheduleRow_137 : decode cX4_scheduleRow 137 = .ok (.iastore, 1) := by decide +kernel
theorem dX4_scheduleRow_138 : decode cX4_scheduleRow 138 = .ok (.iinc 2 1, 3) := by decide +kernel
theorem dX4_scheduleRow_141 : decode cX4_scheduleRow 141 = .ok (.aload_n 0, 1) := by decide +kernel
theorem dX4_scheduleRow_142 : decode cX4_scheduleRow 142 = .ok (.getfield 33, 3) := by decide +kernel
theorem dX4_scheduleRow_145 : decode cX4_scheduleRow 145 = .ok (.iload_n 1, 1) := by decide +kernel
theorem dX4_scheduleRow_146 : decode cX4_scheduleRow 146 = .ok (.dup2, 1) := by decide +kernel
theorem dX4_scheduleRow_147 : decode cX4_scheduleRow 147 = .ok (.iaload, 1) := by decide +kernel
theorem dX4_scheduleRow_148 : decode cX4_scheduleRow 148 = .ok (.iconst 1, 1) := by decide +kernel
theorem dX4_scheduleRow_149 : decode cX4_scheduleRow 149 = .ok (.iadd, 1) := by decide +kernel
theorem dX4_scheduleRow_150 : decode cX4_scheduleRow 150 = .ok (.iastore, 1) := by decide +kernel
theorem dX4_scheduleRow_151 : decode cX4_scheduleRow 151 = .ok (.goto (-133), 3) := by decide +kernel
theorem dX4_scheduleRow_154 : decode cX4_scheduleRow 154 = .ok (.iload_n 2, 1) := by decide +kernel
theorem dX4_scheduleRow_155 : decode cX4_scheduleRow 155 = .ok (.ireturn, 1) := by decide +kernel
theorem okX4_scheduleRow : CalOK yX4_scheduleRow cX4_scheduleRow 6 (some .int) 2 := ⟨wd_69, wd_324, by decide +kernel⟩
theorem ovX4_scheduleRow : VirOK yX4_scheduleRow := ⟨wd_323, wd_0⟩
def FX4_scheduleRow_94 (k18 : Int32 → Int32 → Int32 → Blk → Option (Int32 × Blk)) (l1 : Int32) (l2 : Int32) (l3 : Int32) (l4 : Int32) (B : Blk) : Option (Int32 × Blk) :=
  ld (B 5) 24 l4 fun v30 =>
  c1 (FX4_endOf B v30) fun r33 =>
  lt1 (if l3 < r33 then r33 else l3) fun x35 =>
  ld (B 4) 24 l4 fun v37 =>
  lt1 (x35 + v37) fun x40 =>
  stb B 6 24 l4 x40 fun B42 =>
  stb B42 7 24 l2 l4 fun B45 =>
  lt1 (l2 + (1 : Int32)) fun x48 =>
  ld (B45 10) 4 l1 fun v50 =>
  stb B45 10 4 l1 (v50 + (1 : Int32)) fun B53 =>
  k18 l1 x48 x40 B53
set_option maxRecDepth 100000 in
set_option maxHeartbeats 4000000 in
theorem wX4_scheduleRow_94 {E : WE} {V : VT} {A : Nat → Prop} {H0 : Heap} {M : Mem} {j : Nat} (hj : j < 11) (Cx : CX E RX4 cX4_scheduleRow 6 1 40) {r : Int32} {B' : Blk} (hret : RetI E V A H0 cX4_scheduleRow .int r (jb M j B')) {k18 : Int32 → Int32 → Int32 → Blk → Option (Int32 × Blk)} (hk18 : ∀ {H : Heap} {locs : List Loc} {ls : Array Slot} {B : Blk} {l1 : Int32} {l2 : Int32} {l3 : Int32}, Wd V A H0 (jb M j B) (eS E) H locs → lv_has ls 6 [(0, .ref (vA V j 1)), (1, .int l1), (2, .int l2), (3, .int l3)] → k18 l1 l2 l3 B = some (r, B') → Wq E H locs 18 ls []) {H : Heap} {locs : List Loc} {ls : Array Slot} {l1 : Int32} {l2 : Int32} {l3 : Int32} {l4 : Int32} {B : Blk} (hW : Wd V A H0 (jb M j B) (eS E) H locs) (hl : lv_has ls 6 [(0, .ref (vA V j 1)), (1, .int l1), (2, .int l2), (3, .int l3), (4, .int l4)]) (hF : FX4_scheduleRow_94 k18 l1 l2 l3 l4 B = some (r, B')) : Wq E H locs 94 ls [] := by
  unfold FX4_scheduleRow_94 at hF
  refine q_aload_n Cx dX4_scheduleRow_94 rfl (lv_at hl 0 rfl) ?_
  refine q_aload_n Cx dX4_scheduleRow_95 rfl (lv_at hl 0 rfl) ?_
  refine q_get (v := .ref (vA V j 5)) Cx hW (oP hj) ic4 3 (by decide) rfl wd_103 dX4_scheduleRow_96 ?_
  refine q_iload Cx dX4_scheduleRow_99 (lv_at hl 4 rfl) ?_
  obtain ⟨h31, v30, e32, hF⟩ := ld_some hF
  refine qb_iald Cx hW (ai_5 hj) h31 e32 dX4_scheduleRow_101 ?_
  obtain ⟨r33, e34, hF⟩ := c1_some hF
  refine q_callI (as := [.int v30]) (rest := []) Cx (kX4_endOf hj e34) okX4_endOf ovX4_endOf wd_329 ⟨rfl, rfl, by decide, by decide⟩ hW (oP hj) ic4 rfl hl.1 (Nat.le_of_ble_eq_true rfl) rfl dX4_scheduleRow_102 (fun H locs hW => ?_)
  refine q_istore (lv' := [(5, .int r33), (0, .ref (vA V j 1)), (1, .int l1), (2, .int l2), (3, .int l3), (4, .int l4)]) Cx dX4_scheduleRow_105 hl (by decide) rfl (fun ls hl => ?_)
  refine q_iload_n Cx dX4_scheduleRow_107 rfl (lv_at hl 4 rfl) ?_
  refine q_iload Cx dX4_scheduleRow_108 (lv_at hl 0 rfl) ?_
  obtain ⟨x35, e36, hF⟩ := lt1_some hF
  refine q_max Cx wd_334 wd_335 wd_75 wd_336 hl.1 (by decide) (Nat.le_of_ble_eq_true rfl) e36.symm dX4_scheduleRow_110 ?_
  refine q_aload_n Cx dX4_scheduleRow_113 rfl (lv_at hl 1 rfl) ?_
  refine q_get (v := .ref (vA V j 4)) Cx hW (oP hj) ic4 2 (by decide) rfl wd_101 dX4_scheduleRow_114 ?_
  refine q_iload Cx dX4_scheduleRow_117 (lv_at hl 5 rfl) ?_
  obtain ⟨h38, v37, e39, hF⟩ := ld_some hF
  refine qb_iald Cx hW (ai_4 hj) h38 e39 dX4_scheduleRow_119 ?_
  refine q_iadd Cx dX4_scheduleRow_120 ?_
  obtain ⟨x40, e41, hF⟩ := lt1_some hF
  refine q_topi e41 ?_
  refine q_istore_n (lv' := [(3, .int x40), (5, .int r33), (0, .ref (vA V j 1)), (1, .int l1), (2, .int l2), (4, .int l4)]) Cx dX4_scheduleRow_121 rfl hl (by decide) rfl (fun ls hl => ?_)
  refine q_aload_n Cx dX4_scheduleRow_122 rfl (lv_at hl 2 rfl) ?_
  refine q_get (v := .ref (vA V j 6)) Cx hW (oP hj) ic4 4 (by decide) rfl wd_105 dX4_scheduleRow_123 ?_
  refine q_iload Cx dX4_scheduleRow_126 (lv_at hl 5 rfl) ?_
  refine q_iload_n Cx dX4_scheduleRow_128 rfl (lv_at hl 0 rfl) ?_
  obtain ⟨h43, B42, e44, hF⟩ := stb_some hF
  refine qb_iast Cx hW (ai_6 hj) h43 e44 dX4_scheduleRow_129 (fun H locs hW => ?_)
  refine q_aload_n Cx dX4_scheduleRow_130 rfl (lv_at hl 2 rfl) ?_
  refine q_get (v := .ref (vA V j 7)) Cx hW (oP hj) ic4 5 (by decide) rfl wd_107 dX4_scheduleRow_131 ?_
  refine q_iload_n Cx dX4_scheduleRow_134 rfl (lv_at hl 4 rfl) ?_
  refine q_iload Cx dX4_scheduleRow_135 (lv_at hl 5 rfl) ?_
  obtain ⟨h46, B45, e47, hF⟩ := stb_some hF
  refine qb_iast Cx hW (ai_7 hj) h46 e47 dX4_scheduleRow_137 (fun H locs hW => ?_)
  obtain ⟨x48, e49, hF⟩ := lt1_some hF
  refine q_iinc (k := 4) (v := x48) (lv' := [(2, .int x48), (3, .int x40), (5, .int r33), (0, .ref (vA V j 1)), (1, .int l1), (4, .int l4)]) Cx dX4_scheduleRow_138 hl rfl e49.symm (by decide) rfl (fun ls hl => ?_)
  refine q_aload_n Cx dX4_scheduleRow_141 rfl (lv_at hl 3 rfl) ?_
  refine q_get (v := .ref (vA V j 10)) Cx hW (oP hj) ic4 8 (by decide) rfl wd_112 dX4_scheduleRow_142 ?_
  refine q_iload_n Cx dX4_scheduleRow_145 rfl (lv_at hl 4 rfl) ?_
  refine q_dup2 Cx dX4_scheduleRow_146 rfl rfl ?_
  obtain ⟨h51, v50, e52, hF⟩ := ld_some hF
  refine qb_iald Cx hW (ai_10 hj) h51 e52 dX4_scheduleRow_147 ?_
  refine q_iconst (v := (1 : Int32)) Cx dX4_scheduleRow_148 (by decide) ?_
  refine q_iadd Cx dX4_scheduleRow_149 ?_
  obtain ⟨h54, B53, e55, hF⟩ := stb_some hF
  refine qb_iast Cx hW (ai_10 hj) h54 e55 dX4_scheduleRow_150 (fun H locs hW => ?_)
  refine q_goto (tgt := 18) Cx dX4_scheduleRow_151 (by decide) ?_
  exact hk18 hW (lv_sub hl [3, 4, 0, 1] rfl) hF
def FX4_scheduleRow_18s (k18 : Int32 → Int32 → Int32 → Blk → Option (Int32 × Blk)) (l1 : Int32) (l2 : Int32) (l3 : Int32) (B : Blk) : Option (Int32 × Blk) :=
  ld (B 10) 4 l1 fun v8 =>
  ld (B 9) 4 l1 fun v11 =>
  if v11 ≤ v8 then
    some (l2, B)
  else
    if ((B 1) 0) ≤ l2 then
      some (l2, B)
    else
      ld (B 10) 4 l1 fun v16 =>
      c1 (FX4_inRow B l1 v16) fun r19 =>
      c1 (FX4_has B r19) fun r21 =>
      if r21 = 0 then
        some (l2, B)
      else
        ld (B 5) 24 r19 fun v24 =>
        c1 (FX4_has B v24) fun r27 =>
        if r27 = 0 then
          FX4_scheduleRow_94 k18 l1 l2 l3 r19 B
        else
          ld (B 5) 24 r19 fun v56 =>
          c1 (FX4_endOf B v56) fun r59 =>
          if r59 = 0 then
            some (l2, B)
          else
            FX4_scheduleRow_94 k18 l1 l2 l3 r19 B
set_option maxRecDepth 100000 in
set_option maxHeartbeats 4000000 in
theorem wX4_scheduleRow_18s {E : WE} {V : VT} {A : Nat → Prop} {H0 : Heap} {M : Mem} {j : Nat} (hj : j < 11) (Cx : CX E RX4 cX4_scheduleRow 6 1 40) {r : Int32} {B' : Blk} (hret : RetI E V A H0 cX4_scheduleRow .int r (jb M j B')) {k18 : Int32 → Int32 → Int32 → Blk → Option (Int32 × Blk)} (hk18 : ∀ {H : Heap} {locs : List Loc} {ls : Array Slot} {B : Blk} {l1 : Int32} {l2 : Int32} {l3 : Int32}, Wd V A H0 (jb M j B) (eS E) H locs → lv_has ls 6 [(0, .ref (vA V j 1)), (1, .int l1), (2, .int l2), (3, .int l3)] → k18 l1 l2 l3 B = some (r, B') → Wq E H locs 18 ls []) {H : Heap} {locs : List Loc} {ls : Array Slot} {l1 : Int32} {l2 : Int32} {l3 : Int32} {B : Blk} (hW : Wd V A H0 (jb M j B) (eS E) H locs) (hl : lv_has ls 6 [(0, .ref (vA V j 1)), (1, .int l1), (2, .int l2), (3, .int l3)]) (hF : FX4_scheduleRow_18s k18 l1 l2 l3 B = some (r, B')) : Wq E H locs 18 ls [] := by
  unfold FX4_scheduleRow_18s at hF
  refine q_aload_n Cx dX4_scheduleRow_18 rfl (lv_at hl 0 rfl) ?_
  refine q_get (v := .ref (vA V j 10)) Cx hW (oP hj) ic4 8 (by decide) rfl wd_112 dX4_scheduleRow_19 ?_
  refine q_iload_n Cx dX4_scheduleRow_22 rfl (lv_at hl 1 rfl) ?_
  obtain ⟨h9, v8, e10, hF⟩ := ld_some hF
  refine qb_iald Cx hW (ai_10 hj) h9 e10 dX4_scheduleRow_23 ?_
  refine q_aload_n Cx dX4_scheduleRow_24 rfl (lv_at hl 0 rfl) ?_
  refine q_get (v := .ref (vA V j 9)) Cx hW (oP hj) ic4 7 (by decide) rfl wd_110 dX4_scheduleRow_25 ?_
  refine q_iload_n Cx dX4_scheduleRow_28 rfl (lv_at hl 1 rfl) ?_
  obtain ⟨h12, v11, e13, hF⟩ := ld_some hF
  refine qb_iald Cx hW (ai_9 hj) h12 e13 dX4_scheduleRow_29 ?_
  refine q_icmp_ge (tgt := 154) Cx dX4_scheduleRow_30 (by decide) (fun c14 => ?_) (fun c14 => ?_)
  · have hF := (if_pos c14).symm.trans hF
    refine q_iload_n Cx dX4_scheduleRow_154 rfl (lv_at hl 2 rfl) ?_
    cases hF
    exact hret _ _ _ _ dX4_scheduleRow_155 (nI32 _) hW
  · have hF := (if_neg c14).symm.trans hF
    refine q_iload_n Cx dX4_scheduleRow_33 rfl (lv_at hl 2 rfl) ?_
    refine q_aload_n Cx dX4_scheduleRow_34 rfl (lv_at hl 0 rfl) ?_
    refine qb_get (v := .int ((B 1) 0)) Cx hW (oP hj) ic4 0 (by decide) rfl wd_96 dX4_scheduleRow_35 ?_
    refine q_icmp_ge (tgt := 154) Cx dX4_scheduleRow_38 (by decide) (fun c15 => ?_) (fun c15 => ?_)
    · have hF := (if_pos c15).symm.trans hF
      refine q_iload_n Cx dX4_scheduleRow_154 rfl (lv_at hl 2 rfl) ?_
      cases hF
      exact hret _ _ _ _ dX4_scheduleRow_155 (nI32 _) hW
    · have hF := (if_neg c15).symm.trans hF
      refine q_aload_n Cx dX4_scheduleRow_41 rfl (lv_at hl 0 rfl) ?_
      refine q_iload_n Cx dX4_scheduleRow_42 rfl (lv_at hl 1 rfl) ?_
      refine q_aload_n Cx dX4_scheduleRow_43 rfl (lv_at hl 0 rfl) ?_
      refine q_get (v := .ref (vA V j 10)) Cx hW (oP hj) ic4 8 (by decide) rfl wd_112 dX4_scheduleRow_44 ?_
      refine q_iload_n Cx dX4_scheduleRow_47 rfl (lv_at hl 1 rfl) ?_
      obtain ⟨h17, v16, e18, hF⟩ := ld_some hF
      refine qb_iald Cx hW (ai_10 hj) h17 e18 dX4_scheduleRow_48 ?_
      obtain ⟨r19, e20, hF⟩ := c1_some hF
      refine q_callI (as := [.int l1, .int v16]) (rest := []) Cx (kX4_inRow hj e20) okX4_inRow ovX4_inRow wd_325 ⟨rfl, rfl, by decide, by decide⟩ hW (oP hj) ic4 rfl hl.1 (Nat.le_of_ble_eq_true rfl) rfl dX4_scheduleRow_49 (fun H locs hW => ?_)
      refine q_istore (lv' := [(4, .int r19), (0, .ref (vA V j 1)), (1, .int l1), (2, .int l2), (3, .int l3)]) Cx dX4_scheduleRow_52 hl (by decide) rfl (fun ls hl => ?_)
      refine q_aload_n Cx dX4_scheduleRow_54 rfl (lv_at hl 1 rfl) ?_
      refine q_iload Cx dX4_scheduleRow_55 (lv_at hl 0 rfl) ?_
      obtain ⟨r21, e22, hF⟩ := c1_some hF
      refine q_callI (as := [.int r19]) (rest := []) Cx (kX4_has hj e22) okX4_has ovX4_has wd_333 ⟨rfl, rfl, by decide, by decide⟩ hW (oP hj) ic4 rfl hl.1 (Nat.le_of_ble_eq_true rfl) rfl dX4_scheduleRow_57 (fun H locs hW => ?_)
      refine q_if_eq (tgt := 154) Cx dX4_scheduleRow_60 (by decide) (fun c23 => ?_) (fun c23 => ?_)
      · have hF := (if_pos c23).symm.trans hF
        refine q_iload_n Cx dX4_scheduleRow_154 rfl (lv_at hl 3 rfl) ?_
        cases hF
        exact hret _ _ _ _ dX4_scheduleRow_155 (nI32 _) hW
      · have hF := (if_neg c23).symm.trans hF
        refine q_aload_n Cx dX4_scheduleRow_63 rfl (lv_at hl 1 rfl) ?_
        refine q_aload_n Cx dX4_scheduleRow_64 rfl (lv_at hl 1 rfl) ?_
        refine q_get (v := .ref (vA V j 5)) Cx hW (oP hj) ic4 3 (by decide) rfl wd_103 dX4_scheduleRow_65 ?_
        refine q_iload Cx dX4_scheduleRow_68 (lv_at hl 0 rfl) ?_
        obtain ⟨h25, v24, e26, hF⟩ := ld_some hF
        refine qb_iald Cx hW (ai_5 hj) h25 e26 dX4_scheduleRow_70 ?_
        obtain ⟨r27, e28, hF⟩ := c1_some hF
        refine q_callI (as := [.int v24]) (rest := []) Cx (kX4_has hj e28) okX4_has ovX4_has wd_333 ⟨rfl, rfl, by decide, by decide⟩ hW (oP hj) ic4 rfl hl.1 (Nat.le_of_ble_eq_true rfl) rfl dX4_scheduleRow_71 (fun H locs hW => ?_)
        refine q_if_eq (tgt := 94) Cx dX4_scheduleRow_74 (by decide) (fun c29 => ?_) (fun c29 => ?_)
        · have hF := (if_pos c29).symm.trans hF
          exact wX4_scheduleRow_94 hj Cx hret hk18 hW (lv_sub hl [1, 2, 3, 4, 0] rfl) hF
        · have hF := (if_neg c29).symm.trans hF
          refine q_aload_n Cx dX4_scheduleRow_77 rfl (lv_at hl 1 rfl) ?_
          refine q_aload_n Cx dX4_scheduleRow_78 rfl (lv_at hl 1 rfl) ?_
          refine q_get (v := .ref (vA V j 5)) Cx hW (oP hj) ic4 3 (by decide) rfl wd_103 dX4_scheduleRow_79 ?_
          refine q_iload Cx dX4_scheduleRow_82 (lv_at hl 0 rfl) ?_
          obtain ⟨h57, v56, e58, hF⟩ := ld_some hF
          refine qb_iald Cx hW (ai_5 hj) h57 e58 dX4_scheduleRow_84 ?_
          obtain ⟨r59, e60, hF⟩ := c1_some hF
          refine q_callI (as := [.int v56]) (rest := []) Cx (kX4_endOf hj e60) okX4_endOf ovX4_endOf wd_329 ⟨rfl, rfl, by decide, by decide⟩ hW (oP hj) ic4 rfl hl.1 (Nat.le_of_ble_eq_true rfl) rfl dX4_scheduleRow_85 (fun H locs hW => ?_)
          refine q_if_ne (tgt := 94) Cx dX4_scheduleRow_88 (by decide) (fun c61 => ?_) (fun c61 => ?_)
          · have hF := (if_neg c61).symm.trans hF
            exact wX4_scheduleRow_94 hj Cx hret hk18 hW (lv_sub hl [1, 2, 3, 4, 0] rfl) hF
          · have hF := (if_pos c61).symm.trans hF
            refine q_goto (tgt := 154) Cx dX4_scheduleRow_91 (by decide) ?_
            refine q_iload_n Cx dX4_scheduleRow_154 rfl (lv_at hl 3 rfl) ?_
            cases hF
            exact hret _ _ _ _ dX4_scheduleRow_155 (nI32 _) hW
def FX4_scheduleRow_18 : Nat → Int32 → Int32 → Int32 → Blk → Option (Int32 × Blk)
  | 0 => fun _ _ _ _ => none
  | n + 1 => FX4_scheduleRow_18s (FX4_scheduleRow_18 n)
set_option maxRecDepth 100000 in
theorem wX4_scheduleRow_18 {E : WE} {V : VT} {A : Nat → Prop} {H0 : Heap} {M : Mem} {j : Nat} (hj : j < 11) (Cx : CX E RX4 cX4_scheduleRow 6 1 40) {r : Int32} {B' : Blk} (hret : RetI E V A H0 cX4_scheduleRow .int r (jb M j B')) : ∀ (n : Nat) {H : Heap} {locs : List Loc} {ls : Array Slot} {l1 : Int32} {l2 : Int32} {l3 : Int32} {B : Blk}, Wd V A H0 (jb M j B) (eS E) H locs → lv_has ls 6 [(0, .ref (vA V j 1)), (1, .int l1), (2, .int l2), (3, .int l3)] → FX4_scheduleRow_18 n l1 l2 l3 B = some (r, B') → Wq E H locs 18 ls [] := by
  intro n
  induction n with
  | zero => intro _ _ _ _ _ _ _ hW hl hF; cases hF
  | succ n ih => intro _ _ _ _ _ _ _ hW hl hF; exact wX4_scheduleRow_18s hj Cx hret ih hW hl hF
def FX4_scheduleRow (B : Blk) (l1 : Int32) (l2 : Int32) : Option (Int32 × Blk) :=
  ld (B 10) 4 l1 fun v1 =>
  c1 (FX4_inRow B l1 (v1 - (1 : Int32))) fun r4 =>
  c1 (FX4_endOf B r4) fun r6 =>
  FX4_scheduleRow_18 fu l1 l2 r6 B
set_option maxRecDepth 100000 in
set_option maxHeartbeats 4000000 in
theorem wX4_scheduleRow {E : WE} {V : VT} {A : Nat → Prop} {H0 : Heap} {M : Mem} {j : Nat} (hj : j < 11) (Cx : CX E RX4 cX4_scheduleRow 6 1 40) {r : Int32} {B' : Blk} (hret : RetI E V A H0 cX4_scheduleRow .int r (jb M j B')) {H : Heap} {locs : List Loc} {ls : Array Slot} {l1 : Int32} {l2 : Int32} {B : Blk} (hW : Wd V A H0 (jb M j B) (eS E) H locs) (hl : lv_has ls 6 [(0, .ref (vA V j 1)), (1, .int l1), (2, .int l2)]) (hF : FX4_scheduleRow B l1 l2 = some (r, B')) : Wq E H locs 0 ls [] := by
  unfold FX4_scheduleRow at hF
  refine q_aload_n Cx dX4_scheduleRow_0 rfl (lv_at hl 0 rfl) ?_
  refine q_aload_n Cx dX4_scheduleRow_1 rfl (lv_at hl 0 rfl) ?_
  refine q_iload_n Cx dX4_scheduleRow_2 rfl (lv_at hl 1 rfl) ?_
  refine q_aload_n Cx dX4_scheduleRow_3 rfl (lv_at hl 0 rfl) ?_
  refine q_get (v := .ref (vA V j 10)) Cx hW (oP hj) ic4 8 (by decide) rfl wd_112 dX4_scheduleRow_4 ?_
  refine q_iload_n Cx dX4_scheduleRow_7 rfl (lv_at hl 1 rfl) ?_
  obtain ⟨h2, v1, e3, hF⟩ := ld_some hF
  refine qb_iald Cx hW (ai_10 hj) h2 e3 dX4_scheduleRow_8 ?_
  refine q_iconst (v := (1 : Int32)) Cx dX4_scheduleRow_9 (by decide) ?_
  refine q_isub Cx dX4_scheduleRow_10 ?_
  obtain ⟨r4, e5, hF⟩ := c1_some hF
  refine q_callI (as := [.int l1, .int (v1 - (1 : Int32))]) (rest := [.ref (vA V j 1)]) Cx (kX4_inRow hj e5) okX4_inRow ovX4_inRow wd_325 ⟨rfl, rfl, by decide, by decide⟩ hW (oP hj) ic4 rfl hl.1 (Nat.le_of_ble_eq_true rfl) rfl dX4_scheduleRow_11 (fun H locs hW => ?_)
  obtain ⟨r6, e7, hF⟩ := c1_some hF
  refine q_callI (as := [.int r4]) (rest := []) Cx (kX4_endOf hj e7) okX4_endOf ovX4_endOf wd_329 ⟨rfl, rfl, by decide, by decide⟩ hW (oP hj) ic4 rfl hl.1 (Nat.le_of_ble_eq_true rfl) rfl dX4_scheduleRow_14 (fun H locs hW => ?_)
  refine q_istore_n (lv' := [(3, .int r6), (0, .ref (vA V j 1)), (1, .int l1), (2, .int l2)]) Cx dX4_scheduleRow_17 rfl hl (by decide) rfl (fun ls hl => ?_)
  exact wX4_scheduleRow_18 hj Cx hret fu hW (lv_sub hl [1, 2, 3, 0] rfl) hF
set_option maxRecDepth 100000 in
theorem kX4_scheduleRow {l : Launch} {V : VT} {M : Mem} {j : Nat} (hj : j < 11) {B : Blk} {l1 : Int32} {l2 : Int32} {r : Int32} {B' : Blk} (hF : FX4_scheduleRow B l1 l2 = some (r, B')) : MetI l V yX4_scheduleRow cX4_scheduleRow 6 .int ({ frames := 1, cells := 0, slots := 0, locals := 40 } : Room) [.ref (vA V j 1), .int l1, .int l2] r (jb M j B) (jb M j B') := metI_of (by decide) (Nat.le_of_ble_eq_true rfl) (fun E H0 _ Cx hret H locs ls hW hl => wX4_scheduleRow hj Cx hret hW hl hF)
theorem dX4_schedule_0 : decode cX4_schedule 0 = .ok (.iconst 0, 1) := by decide +kernel
theorem dX4_schedule_1 : decode cX4_schedule 1 = .ok (.istore_n 1, 1) := by decide +kernel
theorem dX4_schedule_2 : decode cX4_schedule 2 = .ok (.iload_n 1, 1) := by decide +kernel
theorem dX4_schedule_3 : decode cX4_schedule 3 = .ok (.iconst 4, 1) := by decide +kernel
theorem dX4_schedule_4 : decode cX4_schedule 4 = .ok (.if_icmp .ge 16, 3) := by decide +kernel
theorem dX4_schedule_7 : decode cX4_schedule 7 = .ok (.aload_n 0, 1) := by decide +kernel
theorem dX4_schedule_8 : decode cX4_schedule 8 = .ok (.getfield 33, 3) := by decide +kernel
theorem dX4_schedule_11 : decode cX4_schedule 11 = .ok (.iload_n 1, 1) := by decide +kernel
theorem dX4_schedule_12 : decode cX4_schedule 12 = .ok (.iconst 0, 1) := by decide +kernel
theorem dX4_schedule_13 : decode cX4_schedule 13 = .ok (.iastore, 1) := by decide +kernel
theorem dX4_schedule_14 : decode cX4_schedule 14 = .ok (.iinc 1 1, 3) := by decide +kernel
theorem dX4_schedule_17 : decode cX4_schedule 17 = .ok (.goto (-15), 3) := by decide +kernel
theorem dX4_schedule_20 : decode cX4_schedule 20 = .ok (.iconst 0, 1) := by decide +kernel
theorem dX4_schedule_21 : decode cX4_schedule 21 = .ok (.istore_n 1, 1) := by decide +kernel
theorem dX4_schedule_22 : decode cX4_schedule 22 = .ok (.iload_n 1, 1) := by decide +kernel
theorem dX4_schedule_23 : decode cX4_schedule 23 = .ok (.aload_n 0, 1) := by decide +kernel
theorem dX4_schedule_24 : decode cX4_schedule 24 = .ok (.getfield 39, 3) := by decide +kernel
theorem dX4_schedule_27 : decode cX4_schedule 27 = .ok (.if_icmp .ge 16, 3) := by decide +kernel
theorem dX4_schedule_30 : decode cX4_schedule 30 = .ok (.aload_n 0, 1) := by decide +kernel
theorem dX4_schedule_31 : decode cX4_schedule 31 = .ok (.getfield 21, 3) := by decide +kernel
theorem dX4_schedule_34 : decode cX4_schedule 34 = .ok (.iload_n 1, 1) := by decide +kernel
theorem dX4_schedule_35 : decode cX4_schedule 35 = .ok (.iconst 0, 1) := by decide +kernel
theorem dX4_schedule_36 : decode cX4_schedule 36 = .ok (.iastore, 1) := by decide +kernel
theorem dX4_schedule_37 : decode cX4_schedule 37 = .ok (.iinc 1 1, 3) := by decide +kernel
theorem dX4_schedule_40 : decode cX4_schedule 40 = .ok (.goto (-18), 3) := by decide +kernel
theorem dX4_schedule_43 : decode cX4_schedule 43 = .ok (.iconst 0, 1) := by decide +kernel
theorem dX4_schedule_44 : decode cX4_schedule 44 = .ok (.istore_n 1, 1) := by decide +kernel
theorem dX4_schedule_45 : decode cX4_schedule 45 = .ok (.iconst 0, 1) := by decide +kernel
theorem dX4_schedule_46 : decode cX4_schedule 46 = .ok (.istore_n 2, 1) := by decide +kernel
theorem dX4_schedule_47 : decode cX4_schedule 47 = .ok (.iload_n 2, 1) := by decide +kernel
theorem dX4_schedule_48 : decode cX4_schedule 48 = .ok (.aload_n 0, 1) := by decide +kernel
theorem dX4_schedule_49 : decode cX4_schedule 49 = .ok (.getfield 39, 3) := by decide +kernel
theorem dX4_schedule_52 : decode cX4_schedule 52 = .ok (.if_icmp .ge 37, 3) := by decide +kernel
theorem dX4_schedule_55 : decode cX4_schedule 55 = .ok (.iload_n 1, 1) := by decide +kernel
theorem dX4_schedule_56 : decode cX4_schedule 56 = .ok (.aload_n 0, 1) := by decide +kernel
theorem dX4_schedule_57 : decode cX4_schedule 57 = .ok (.getfield 39, 3) := by decide +kernel
theorem dX4_schedule_60 : decode cX4_schedule 60 = .ok (.if_icmp .ge 29, 3) := by decide +kernel
theorem dX4_schedule_63 : decode cX4_schedule 63 = .ok (.iconst 0, 1) := by decide +kernel
theorem dX4_schedule_64 : decode cX4_schedule 64 = .ok (.istore_n 3, 1) := by decide +kernel
theorem dX4_schedule_65 : decode cX4_schedule 65 = .ok (.iload_n 3, 1) := by decide +kernel
theorem dX4_schedule_66 : decode cX4_schedule 66 = .ok (.iconst 4, 1) := by decide +kernel
theorem dX4_schedule_67 : decode cX4_schedule 67 = .ok (.if_icmp .ge 16, 3) := by decide +kernel
theorem dX4_schedule_70 : decode cX4_schedule 70 = .ok (.aload_n 0, 1) := by decide +kernel
theorem dX4_schedule_71 : decode cX4_schedule 71 = .ok (.iload_n 3, 1) := by decide +kernel
theorem dX4_schedule_72 : decode cX4_schedule 72 = .ok (.iload_n 1, 1) := by decide +kernel
theorem dX4_schedule_73 : decode cX4_schedule 73 = .ok (.invokevirtual 62, 3) := by decide +kernel
theorem dX4_schedule_76 : decode cX4_schedule 76 = .ok (.istore_n 1, 1) := by decide +kernel
theorem dX4_schedule_77 : decode cX4_schedule 77 = .ok (.iinc 3 1, 3) := by decide +kernel
theorem dX4_schedule_80 : decode cX4_schedule 80 = .ok (.goto (-15), 3) := by decide +kernel
theorem dX4_schedule_83 : decode cX4_schedule 83 = .ok (.iinc 2 1, 3) := by decide +kernel
theorem dX4_schedule_86 : decode cX4_schedule 86 = .ok (.goto (-39), 3) := by decide +kernel
theorem dX4_schedule_89 : decode cX4_schedule 89 = .ok (.iload_n 1, 1) := by decide +kernel
theorem dX4_schedule_90 : decode cX4_schedule 90 = .ok (.aload_n 0, 1) := by decide +kernel
theorem dX4_schedule_91 : decode cX4_schedule 91 = .ok (.getfield 39, 3) := by decide +kernel
theorem dX4_schedule_94 : decode cX4_schedule 94 = .ok (.if_icmp .ne 7, 3) := by decide +kernel
theorem dX4_schedule_97 : decode cX4_schedule 97 = .ok (.iconst 1, 1) := by decide +kernel
theorem dX4_schedule_98 : decode cX4_schedule 98 = .ok (.goto 4, 3) := by decide +kernel
theorem dX4_schedule_101 : decode cX4_schedule 101 = .ok (.iconst 0, 1) := by decide +kernel
theorem dX4_schedule_102 : decode cX4_schedule 102 = .ok (.ireturn, 1) := by decide +kernel
theorem okX4_schedule : CalOK yX4_schedule cX4_schedule 4 (some .boolean) 0 := ⟨wd_69, wd_320, by decide +kernel⟩
theorem ovX4_schedule : VirOK yX4_schedule := ⟨wd_318, wd_319⟩
def FX4_schedule_89 (l1 : Int32) (B : Blk) : Option (Int32 × Blk) :=
  if l1 = ((B 1) 0) then
    some ((1 : Int32), B)
  else
    some ((0 : Int32), B)
set_option maxRecDepth 100000 in
set_option maxHeartbeats 4000000 in
theorem wX4_schedule_89 {E : WE} {V : VT} {A : Nat → Prop} {H0 : Heap} {M : Mem} {j : Nat} (hj : j < 11) (Cx : CX E RX4 cX4_schedule 4 2 65) {r : Int32} {B' : Blk} (hret : RetI E V A H0 cX4_schedule .boolean r (jb M j B')) {H : Heap} {locs : List Loc} {ls : Array Slot} {l1 : Int32} {B : Blk} (hW : Wd V A H0 (jb M j B) (eS E) H locs) (hl : lv_has ls 4 [(0, .ref (vA V j 1)), (1, .int l1)]) (hF : FX4_schedule_89 l1 B = some (r, B')) : Wq E H locs 89 ls [] := by
  unfold FX4_schedule_89 at hF
  refine q_iload_n Cx dX4_schedule_89 rfl (lv_at hl 1 rfl) ?_
  refine q_aload_n Cx dX4_schedule_90 rfl (lv_at hl 0 rfl) ?_
  refine qb_get (v := .int ((B 1) 0)) Cx hW (oP hj) ic4 0 (by decide) rfl wd_96 dX4_schedule_91 ?_
  refine q_icmp_ne (tgt := 101) Cx dX4_schedule_94 (by decide) (fun c4 => ?_) (fun c4 => ?_)
  · have hF := (if_neg c4).symm.trans hF
    refine q_iconst (v := (0 : Int32)) Cx dX4_schedule_101 (by decide) ?_
    cases hF
    exact hret _ _ _ _ dX4_schedule_102 (by rfl) hW
  · have hF := (if_pos c4).symm.trans hF
    refine q_iconst (v := (1 : Int32)) Cx dX4_schedule_97 (by decide) ?_
    refine q_goto (tgt := 102) Cx dX4_schedule_98 (by decide) ?_
    cases hF
    exact hret _ _ _ _ dX4_schedule_102 (by rfl) hW
def FX4_schedule_65s (k47 : Int32 → Int32 → Blk → Option (Int32 × Blk)) (k65 : Int32 → Int32 → Int32 → Blk → Option (Int32 × Blk)) (l1 : Int32) (l2 : Int32) (l3 : Int32) (B : Blk) : Option (Int32 × Blk) :=
  if (4 : Int32) ≤ l3 then
    lt1 (l2 + (1 : Int32)) fun x7 =>
    k47 l1 x7 B
  else
    c2 (FX4_scheduleRow B l3 l1) fun r9 B11 =>
    lt1 (l3 + (1 : Int32)) fun x12 =>
    k65 r9 l2 x12 B11
set_option maxRecDepth 100000 in
set_option maxHeartbeats 4000000 in
theorem wX4_schedule_65s {E : WE} {V : VT} {A : Nat → Prop} {H0 : Heap} {M : Mem} {j : Nat} (hj : j < 11) (Cx : CX E RX4 cX4_schedule 4 2 65) {r : Int32} {B' : Blk} (hret : RetI E V A H0 cX4_schedule .boolean r (jb M j B')) {k47 : Int32 → Int32 → Blk → Option (Int32 × Blk)} (hk47 : ∀ {H : Heap} {locs : List Loc} {ls : Array Slot} {B : Blk} {l1 : Int32} {l2 : Int32}, Wd V A H0 (jb M j B) (eS E) H locs → lv_has ls 4 [(0, .ref (vA V j 1)), (1, .int l1), (2, .int l2)] → k47 l1 l2 B = some (r, B') → Wq E H locs 47 ls []) {k65 : Int32 → Int32 → Int32 → Blk → Option (Int32 × Blk)} (hk65 : ∀ {H : Heap} {locs : List Loc} {ls : Array Slot} {B : Blk} {l1 : Int32} {l2 : Int32} {l3 : Int32}, Wd V A H0 (jb M j B) (eS E) H locs → lv_has ls 4 [(0, .ref (vA V j 1)), (1, .int l1), (2, .int l2), (3, .int l3)] → k65 l1 l2 l3 B = some (r, B') → Wq E H locs 65 ls []) {H : Heap} {locs : List Loc} {ls : Array Slot} {l1 : Int32} {l2 : Int32} {l3 : Int32} {B : Blk} (hW : Wd V A H0 (jb M j B) (eS E) H locs) (hl : lv_has ls 4 [(0, .ref (vA V j 1)), (1, .int l1), (2, .int l2), (3, .int l3)]) (hF : FX4_schedule_65s k47 k65 l1 l2 l3 B = some (r, B')) : Wq E H locs 65 ls [] := by
  unfold FX4_schedule_65s at hF
  refine q_iload_n Cx dX4_schedule_65 rfl (lv_at hl 3 rfl) ?_
  refine q_iconst (v := (4 : Int32)) Cx dX4_schedule_66 (by decide) ?_
  refine q_icmp_ge (tgt := 83) Cx dX4_schedule_67 (by decide) (fun c6 => ?_) (fun c6 => ?_)
  · have hF := (if_pos c6).symm.trans hF
    obtain ⟨x7, e8, hF⟩ := lt1_some hF
    refine q_iinc (k := 2) (v := x7) (lv' := [(2, .int x7), (0, .ref (vA V j 1)), (1, .int l1), (3, .int l3)]) Cx dX4_schedule_83 hl rfl e8.symm (by decide) rfl (fun ls hl => ?_)
    refine q_goto (tgt := 47) Cx dX4_schedule_86 (by decide) ?_
    exact hk47 hW (lv_sub hl [1, 2, 0] rfl) hF
  · have hF := (if_neg c6).symm.trans hF
    refine q_aload_n Cx dX4_schedule_70 rfl (lv_at hl 0 rfl) ?_
    refine q_iload_n Cx dX4_schedule_71 rfl (lv_at hl 3 rfl) ?_
    refine q_iload_n Cx dX4_schedule_72 rfl (lv_at hl 1 rfl) ?_
    obtain ⟨r9, B11, e10, hF⟩ := c2_some hF
    refine q_callI (as := [.int l3, .int l1]) (rest := []) Cx (kX4_scheduleRow hj e10) okX4_scheduleRow ovX4_scheduleRow wd_321 ⟨rfl, rfl, by decide, by decide⟩ hW (oP hj) ic4 rfl hl.1 (Nat.le_of_ble_eq_true rfl) rfl dX4_schedule_73 (fun H locs hW => ?_)
    refine q_istore_n (lv' := [(1, .int r9), (0, .ref (vA V j 1)), (2, .int l2), (3, .int l3)]) Cx dX4_schedule_76 rfl hl (by decide) rfl (fun ls hl => ?_)
    obtain ⟨x12, e13, hF⟩ := lt1_some hF
    refine q_iinc (k := 3) (v := x12) (lv' := [(3, .int x12), (1, .int r9), (0, .ref (vA V j 1)), (2, .int l2)]) Cx dX4_schedule_77 hl rfl e13.symm (by decide) rfl (fun ls hl => ?_)
    refine q_goto (tgt := 65) Cx dX4_schedule_80 (by decide) ?_
    exact hk65 hW (lv_sub hl [2, 1, 3, 0] rfl) hF
def FX4_schedule_65 (k47 : Int32 → Int32 → Blk → Option (Int32 × Blk)) : Nat → Int32 → Int32 → Int32 → Blk → Option (Int32 × Blk)
  | 0 => fun _ _ _ _ => none
  | n + 1 => FX4_schedule_65s k47 (FX4_schedule_65 k47 n)
set_option maxRecDepth 100000 in
theorem wX4_schedule_65 {E : WE} {V : VT} {A : Nat → Prop} {H0 : Heap} {M : Mem} {j : Nat} (hj : j < 11) (Cx : CX E RX4 cX4_schedule 4 2 65) {r : Int32} {B' : Blk} (hret : RetI E V A H0 cX4_schedule .boolean r (jb M j B')) {k47 : Int32 → Int32 → Blk → Option (Int32 × Blk)} (hk47 : ∀ {H : Heap} {locs : List Loc} {ls : Array Slot} {B : Blk} {l1 : Int32} {l2 : Int32}, Wd V A H0 (jb M j B) (eS E) H locs → lv_has ls 4 [(0, .ref (vA V j 1)), (1, .int l1), (2, .int l2)] → k47 l1 l2 B = some (r, B') → Wq E H locs 47 ls []) : ∀ (n : Nat) {H : Heap} {locs : List Loc} {ls : Array Slot} {l1 : Int32} {l2 : Int32} {l3 : Int32} {B : Blk}, Wd V A H0 (jb M j B) (eS E) H locs → lv_has ls 4 [(0, .ref (vA V j 1)), (1, .int l1), (2, .int l2), (3, .int l3)] → FX4_schedule_65 k47 n l1 l2 l3 B = some (r, B') → Wq E H locs 65 ls [] := by
  intro n
  induction n with
  | zero => intro _ _ _ _ _ _ _ hW hl hF; cases hF
  | succ n ih => intro _ _ _ _ _ _ _ hW hl hF; exact wX4_schedule_65s hj Cx hret hk47 ih hW hl hF
def FX4_schedule_47s (k47 : Int32 → Int32 → Blk → Option (Int32 × Blk)) (l1 : Int32) (l2 : Int32) (B : Blk) : Option (Int32 × Blk) :=
  if ((B 1) 0) ≤ l2 then
    FX4_schedule_89 l1 B
  else
    if ((B 1) 0) ≤ l1 then
      FX4_schedule_89 l1 B
    else
      FX4_schedule_65 k47 fu l1 l2 (0 : Int32) B
set_option maxRecDepth 100000 in
set_option maxHeartbeats 4000000 in
theorem wX4_schedule_47s {E : WE} {V : VT} {A : Nat → Prop} {H0 : Heap} {M : Mem} {j : Nat} (hj : j < 11) (Cx : CX E RX4 cX4_schedule 4 2 65) {r : Int32} {B' : Blk} (hret : RetI E V A H0 cX4_schedule .boolean r (jb M j B')) {k47 : Int32 → Int32 → Blk → Option (Int32 × Blk)} (hk47 : ∀ {H : Heap} {locs : List Loc} {ls : Array Slot} {B : Blk} {l1 : Int32} {l2 : Int32}, Wd V A H0 (jb M j B) (eS E) H locs → lv_has ls 4 [(0, .ref (vA V j 1)), (1, .int l1), (2, .int l2)] → k47 l1 l2 B = some (r, B') → Wq E H locs 47 ls []) {H : Heap} {locs : List Loc} {ls : Array Slot} {l1 : Int32} {l2 : Int32} {B : Blk} (hW : Wd V A H0 (jb M j B) (eS E) H locs) (hl : lv_has ls 4 [(0, .ref (vA V j 1)), (1, .int l1), (2, .int l2)]) (hF : FX4_schedule_47s k47 l1 l2 B = some (r, B')) : Wq E H locs 47 ls [] := by
  unfold FX4_schedule_47s at hF
  refine q_iload_n Cx dX4_schedule_47 rfl (lv_at hl 2 rfl) ?_
  refine q_aload_n Cx dX4_schedule_48 rfl (lv_at hl 0 rfl) ?_
  refine qb_get (v := .int ((B 1) 0)) Cx hW (oP hj) ic4 0 (by decide) rfl wd_96 dX4_schedule_49 ?_
  refine q_icmp_ge (tgt := 89) Cx dX4_schedule_52 (by decide) (fun c3 => ?_) (fun c3 => ?_)
  · have hF := (if_pos c3).symm.trans hF
    exact wX4_schedule_89 hj Cx hret hW (lv_sub hl [0, 1] rfl) hF
  · have hF := (if_neg c3).symm.trans hF
    refine q_iload_n Cx dX4_schedule_55 rfl (lv_at hl 1 rfl) ?_
    refine q_aload_n Cx dX4_schedule_56 rfl (lv_at hl 0 rfl) ?_
    refine qb_get (v := .int ((B 1) 0)) Cx hW (oP hj) ic4 0 (by decide) rfl wd_96 dX4_schedule_57 ?_
    refine q_icmp_ge (tgt := 89) Cx dX4_schedule_60 (by decide) (fun c5 => ?_) (fun c5 => ?_)
    · have hF := (if_pos c5).symm.trans hF
      exact wX4_schedule_89 hj Cx hret hW (lv_sub hl [0, 1] rfl) hF
    · have hF := (if_neg c5).symm.trans hF
      refine q_iconst (v := (0 : Int32)) Cx dX4_schedule_63 (by decide) ?_
      refine q_istore_n (lv' := [(3, .int (0 : Int32)), (0, .ref (vA V j 1)), (1, .int l1), (2, .int l2)]) Cx dX4_schedule_64 rfl hl (by decide) rfl (fun ls hl => ?_)
      exact wX4_schedule_65 hj Cx hret hk47 fu hW (lv_sub hl [1, 2, 3, 0] rfl) hF
def FX4_schedule_47 : Nat → Int32 → Int32 → Blk → Option (Int32 × Blk)
  | 0 => fun _ _ _ => none
  | n + 1 => FX4_schedule_47s (FX4_schedule_47 n)
set_option maxRecDepth 100000 in
theorem wX4_schedule_47 {E : WE} {V : VT} {A : Nat → Prop} {H0 : Heap} {M : Mem} {j : Nat} (hj : j < 11) (Cx : CX E RX4 cX4_schedule 4 2 65) {r : Int32} {B' : Blk} (hret : RetI E V A H0 cX4_schedule .boolean r (jb M j B')) : ∀ (n : Nat) {H : Heap} {locs : List Loc} {ls : Array Slot} {l1 : Int32} {l2 : Int32} {B : Blk}, Wd V A H0 (jb M j B) (eS E) H locs → lv_has ls 4 [(0, .ref (vA V j 1)), (1, .int l1), (2, .int l2)] → FX4_schedule_47 n l1 l2 B = some (r, B') → Wq E H locs 47 ls [] := by
  intro n
  induction n with
  | zero => intro _ _ _ _ _ _ hW hl hF; cases hF
  | succ n ih => intro _ _ _ _ _ _ hW hl hF; exact wX4_schedule_47s hj Cx hret ih hW hl hF
def FX4_schedule_22s (k22 : Int32 → Blk → Option (Int32 × Blk)) (l1 : Int32) (B : Blk) : Option (Int32 × Blk) :=
  if ((B 1) 0) ≤ l1 then
    FX4_schedule_47 fu (0 : Int32) (0 : Int32) B
  else
    stb B 6 24 l1 (0 : Int32) fun B14 =>
    lt1 (l1 + (1 : Int32)) fun x17 =>
    k22 x17 B14
set_option maxRecDepth 100000 in
set_option maxHeartbeats 4000000 in
theorem wX4_schedule_22s {E : WE} {V : VT} {A : Nat → Prop} {H0 : Heap} {M : Mem} {j : Nat} (hj : j < 11) (Cx : CX E RX4 cX4_schedule 4 2 65) {r : Int32} {B' : Blk} (hret : RetI E V A H0 cX4_schedule .boolean r (jb M j B')) {k22 : Int32 → Blk → Option (Int32 × Blk)} (hk22 : ∀ {H : Heap} {locs : List Loc} {ls : Array Slot} {B : Blk} {l1 : Int32}, Wd V A H0 (jb M j B) (eS E) H locs → lv_has ls 4 [(0, .ref (vA V j 1)), (1, .int l1)] → k22 l1 B = some (r, B') → Wq E H locs 22 ls []) {H : Heap} {locs : List Loc} {ls : Array Slot} {l1 : Int32} {B : Blk} (hW : Wd V A H0 (jb M j B) (eS E) H locs) (hl : lv_has ls 4 [(0, .ref (vA V j 1)), (1, .int l1)]) (hF : FX4_schedule_22s k22 l1 B = some (r, B')) : Wq E H locs 22 ls [] := by
  unfold FX4_schedule_22s at hF
  refine q_iload_n Cx dX4_schedule_22 rfl (lv_at hl 1 rfl) ?_
  refine q_aload_n Cx dX4_schedule_23 rfl (lv_at hl 0 rfl) ?_
  refine qb_get (v := .int ((B 1) 0)) Cx hW (oP hj) ic4 0 (by decide) rfl wd_96 dX4_schedule_24 ?_
  refine q_icmp_ge (tgt := 43) Cx dX4_schedule_27 (by decide) (fun c2 => ?_) (fun c2 => ?_)
  · have hF := (if_pos c2).symm.trans hF
    refine q_iconst (v := (0 : Int32)) Cx dX4_schedule_43 (by decide) ?_
    refine q_istore_n (lv' := [(1, .int (0 : Int32)), (0, .ref (vA V j 1))]) Cx dX4_schedule_44 rfl hl (by decide) rfl (fun ls hl => ?_)
    refine q_iconst (v := (0 : Int32)) Cx dX4_schedule_45 (by decide) ?_
    refine q_istore_n (lv' := [(2, .int (0 : Int32)), (1, .int (0 : Int32)), (0, .ref (vA V j 1))]) Cx dX4_schedule_46 rfl hl (by decide) rfl (fun ls hl => ?_)
    exact wX4_schedule_47 hj Cx hret fu hW (lv_sub hl [2, 1, 0] rfl) hF
  · have hF := (if_neg c2).symm.trans hF
    refine q_aload_n Cx dX4_schedule_30 rfl (lv_at hl 0 rfl) ?_
    refine q_get (v := .ref (vA V j 6)) Cx hW (oP hj) ic4 4 (by decide) rfl wd_105 dX4_schedule_31 ?_
    refine q_iload_n Cx dX4_schedule_34 rfl (lv_at hl 1 rfl) ?_
    refine q_iconst (v := (0 : Int32)) Cx dX4_schedule_35 (by decide) ?_
    obtain ⟨h15, B14, e16, hF⟩ := stb_some hF
    refine qb_iast Cx hW (ai_6 hj) h15 e16 dX4_schedule_36 (fun H locs hW => ?_)
    obtain ⟨x17, e18, hF⟩ := lt1_some hF
    refine q_iinc (k := 1) (v := x17) (lv' := [(1, .int x17), (0, .ref (vA V j 1))]) Cx dX4_schedule_37 hl rfl e18.symm (by decide) rfl (fun ls hl => ?_)
    refine q_goto (tgt := 22) Cx dX4_schedule_40 (by decide) ?_
    exact hk22 hW (lv_sub hl [1, 0] rfl) hF
def FX4_schedule_22 : Nat → Int32 → Blk → Option (Int32 × Blk)
  | 0 => fun _ _ => none
  | n + 1 => FX4_schedule_22s (FX4_schedule_22 n)
set_option maxRecDepth 100000 in
theorem wX4_schedule_22 {E : WE} {V : VT} {A : Nat → Prop} {H0 : Heap} {M : Mem} {j : Nat} (hj : j < 11) (Cx : CX E RX4 cX4_schedule 4 2 65) {r : Int32} {B' : Blk} (hret : RetI E V A H0 cX4_schedule .boolean r (jb M j B')) : ∀ (n : Nat) {H : Heap} {locs : List Loc} {ls : Array Slot} {l1 : Int32} {B : Blk}, Wd V A H0 (jb M j B) (eS E) H locs → lv_has ls 4 [(0, .ref (vA V j 1)), (1, .int l1)] → FX4_schedule_22 n l1 B = some (r, B') → Wq E H locs 22 ls [] := by
  intro n
  induction n with
  | zero => intro _ _ _ _ _ hW hl hF; cases hF
  | succ n ih => intro _ _ _ _ _ hW hl hF; exact wX4_schedule_22s hj Cx hret ih hW hl hF
def FX4_schedule_2s (k2 : Int32 → Blk → Option (Int32 × Blk)) (l1 : Int32) (B : Blk) : Option (Int32 × Blk) :=
  if (4 : Int32) ≤ l1 then
    FX4_schedule_22 fu (0 : Int32) B
  else
    stb B 10 4 l1 (0 : Int32) fun B19 =>
    lt1 (l1 + (1 : Int32)) fun x22 =>
    k2 x22 B19
set_option maxRecDepth 100000 in
set_option maxHeartbeats 4000000 in
theorem wX4_schedule_2s {E : WE} {V : VT} {A : Nat → Prop} {H0 : Heap} {M : Mem} {j : Nat} (hj : j < 11) (Cx : CX E RX4 cX4_schedule 4 2 65) {r : Int32} {B' : Blk} (hret : RetI E V A H0 cX4_schedule .boolean r (jb M j B')) {k2 : Int32 → Blk → Option (Int32 × Blk)} (hk2 : ∀ {H : Heap} {locs : List Loc} {ls : Array Slot} {B : Blk} {l1 : Int32}, Wd V A H0 (jb M j B) (eS E) H locs → lv_has ls 4 [(0, .ref (vA V j 1)), (1, .int l1)] → k2 l1 B = some (r, B') → Wq E H locs 2 ls []) {H : Heap} {locs : List Loc} {ls : Array Slot} {l1 : Int32} {B : Blk} (hW : Wd V A H0 (jb M j B) (eS E) H locs) (hl : lv_has ls 4 [(0, .ref (vA V j 1)), (1, .int l1)]) (hF : FX4_schedule_2s k2 l1 B = some (r, B')) : Wq E H locs 2 ls [] := by
  unfold FX4_schedule_2s at hF
  refine q_iload_n Cx dX4_schedule_2 rfl (lv_at hl 1 rfl) ?_
  refine q_iconst (v := (4 : Int32)) Cx dX4_schedule_3 (by decide) ?_
  refine q_icmp_ge (tgt := 20) Cx dX4_schedule_4 (by decide) (fun c1 => ?_) (fun c1 => ?_)
  · have hF := (if_pos c1).symm.trans hF
    refine q_iconst (v := (0 : Int32)) Cx dX4_schedule_20 (by decide) ?_
    refine q_istore_n (lv' := [(1, .int (0 : Int32)), (0, .ref (vA V j 1))]) Cx dX4_schedule_21 rfl hl (by decide) rfl (fun ls hl => ?_)
    exact wX4_schedule_22 hj Cx hret fu hW (lv_sub hl [1, 0] rfl) hF
  · have hF := (if_neg c1).symm.trans hF
    refine q_aload_n Cx dX4_schedule_7 rfl (lv_at hl 0 rfl) ?_
    refine q_get (v := .ref (vA V j 10)) Cx hW (oP hj) ic4 8 (by decide) rfl wd_112 dX4_schedule_8 ?_
    refine q_iload_n Cx dX4_schedule_11 rfl (lv_at hl 1 rfl) ?_
    refine q_iconst (v := (0 : Int32)) Cx dX4_schedule_12 (by decide) ?_
    obtain ⟨h20, B19, e21, hF⟩ := stb_some hF
    refine qb_iast Cx hW (ai_10 hj) h20 e21 dX4_schedule_13 (fun H locs hW => ?_)
    obtain ⟨x22, e23, hF⟩ := lt1_some hF
    refine q_iinc (k := 1) (v := x22) (lv' := [(1, .int x22), (0, .ref (vA V j 1))]) Cx dX4_schedule_14 hl rfl e23.symm (by decide) rfl (fun ls hl => ?_)
    refine q_goto (tgt := 2) Cx dX4_schedule_17 (by decide) ?_
    exact hk2 hW (lv_sub hl [1, 0] rfl) hF
def FX4_schedule_2 : Nat → Int32 → Blk → Option (Int32 × Blk)
  | 0 => fun _ _ => none
  | n + 1 => FX4_schedule_2s (FX4_schedule_2 n)
set_option maxRecDepth 100000 in
theorem wX4_schedule_2 {E : WE} {V : VT} {A : Nat → Prop} {H0 : Heap} {M : Mem} {j : Nat} (hj : j < 11) (Cx : CX E RX4 cX4_schedule 4 2 65) {r : Int32} {B' : Blk} (hret : RetI E V A H0 cX4_schedule .boolean r (jb M j B')) : ∀ (n : Nat) {H : Heap} {locs : List Loc} {ls : Array Slot} {l1 : Int32} {B : Blk}, Wd V A H0 (jb M j B) (eS E) H locs → lv_has ls 4 [(0, .ref (vA V j 1)), (1, .int l1)] → FX4_schedule_2 n l1 B = some (r, B') → Wq E H locs 2 ls [] := by
  intro n
  induction n with
  | zero => intro _ _ _ _ _ hW hl hF; cases hF
  | succ n ih => intro _ _ _ _ _ hW hl hF; exact wX4_schedule_2s hj Cx hret ih hW hl hF
def FX4_schedule (B : Blk) : Option (Int32 × Blk) :=
  FX4_schedule_2 fu (0 : Int32) B
set_option maxRecDepth 100000 in
set_option maxHeartbeats 4000000 in
theorem wX4_schedule {E : WE} {V : VT} {A : Nat → Prop} {H0 : Heap} {M : Mem} {j : Nat} (hj : j < 11) (Cx : CX E RX4 cX4_schedule 4 2 65) {r : Int32} {B' : Blk} (hret : RetI E V A H0 cX4_schedule .boolean r (jb M j B')) {H : Heap} {locs : List Loc} {ls : Array Slot} {B : Blk} (hW : Wd V A H0 (jb M j B) (eS E) H locs) (hl : lv_has ls 4 [(0, .ref (vA V j 1))]) (hF : FX4_schedule B = some (r, B')) : Wq E H locs 0 ls [] := by
  unfold FX4_schedule at hF
  refine q_iconst (v := (0 : Int32)) Cx dX4_schedule_0 (by decide) ?_
  refine q_istore_n (lv' := [(1, .int (0 : Int32)), (0, .ref (vA V j 1))]) Cx dX4_schedule_1 rfl hl (by decide) rfl (fun ls hl => ?_)
  exact wX4_schedule_2 hj Cx hret fu hW (lv_sub hl [1, 0] rfl) hF
set_option maxRecDepth 100000 in
theorem kX4_schedule {l : Launch} {V : VT} {M : Mem} {j : Nat} (hj : j < 11) {B : Blk} {r : Int32} {B' : Blk} (hF : FX4_schedule B = some (r, B')) : MetI l V yX4_schedule cX4_schedule 4 .boolean ({ frames := 2, cells := 0, slots := 0, locals := 65 } : Room) [.ref (vA V j 1)] r (jb M j B) (jb M j B') := metI_of (by decide) (Nat.le_of_ble_eq_true rfl) (fun E H0 _ Cx hret H locs ls hW hl => wX4_schedule hj Cx hret hW hl hF)
theorem dX4_placeOf_0 : decode cX4_placeOf 0 = .ok (.aload_n 0, 1) := by decide +kernel
theorem dX4_placeOf_1 : decode cX4_placeOf 1 = .ok (.getfield 9, 3) := by decide +kernel
theorem dX4_placeOf_4 : decode cX4_placeOf 4 = .ok (.iload_n 1, 1) := by decide +kernel
theorem dX4_placeOf_5 : decode cX4_placeOf 5 = .ok (.iaload, 1) := by decide +kernel
theorem dX4_placeOf_6 : decode cX4_placeOf 6 = .ok (.istore_n 2, 1) := by decide +kernel
theorem dX4_placeOf_7 : decode cX4_placeOf 7 = .ok (.iconst 0, 1) := by decide +kernel
theorem dX4_placeOf_8 : decode cX4_placeOf 8 = .ok (.istore_n 3, 1) := by decide +kernel
theorem dX4_placeOf_9 : decode cX4_placeOf 9 = .ok (.iload_n 3, 1) := by decide +kernel
theorem dX4_placeOf_10 : decode cX4_placeOf 10 = .ok (.aload_n 0, 1) := by decide +kernel
theorem dX4_placeOf_11 : decode cX4_placeOf 11 = .ok (.getfield 30, 3) := by decide +kernel
theorem dX4_placeOf_14 : decode cX4_placeOf 14 = .ok (.iload_n 2, 1) := by decide +kernel
theorem dX4_placeOf_15 : decode cX4_placeOf 15 = .ok (.iaload, 1) := by decide +kernel
theorem dX4_placeOf_16 : decode cX4_placeOf 16 = .ok (.if_icmp .ge 21, 3) := by decide +kernel
theorem dX4_placeOf_19 : decode cX4_placeOf 19 = .ok (.aload_n 0, 1) := by decide +kernel
theorem dX4_placeOf_20 : decode cX4_placeOf 20 = .ok (.iload_n 2, 1) := by decide +kernel
theorem dX4_placeOf_21 : decode cX4_placeOf 21 = .ok (.iload_n 3, 1) := by decide +kernel
theorem dX4_placeOf_22 : decode cX4_placeOf 22 = .ok (.invokevirtual 49, 3) := by decide +kernel
theorem dX4_placeOf_25 : decode cX4_placeOf 25 = .ok (.iload_n 1, 1) := by decide +kernel
theorem dX4_placeOf_26 : decode cX4_placeOf 26 = .ok (.if_icmp .ne 5, 3) := by decide +kernel
theorem dX4_placeOf_29 : decode cX4_placeOf 29 = .ok (.iload_n 3, 1) := by decide +kernel
theorem dX4_placeOf_30 : decode cX4_placeOf 30 = .ok (.ireturn, 1) := by decide +kernel
theorem dX4_placeOf_31 : decode cX4_placeOf 31 = .ok (.iinc 3 1, 3) := by decide +kernel
theorem dX4_placeOf_34 : decode cX4_placeOf 34 = .ok (.goto (-25), 3) := by decide +kernel
theorem dX4_placeOf_37 : decode cX4_placeOf 37 = .ok (.bipush (-6), 2) := by decide +kernel
theorem dX4_placeOf_39 : decode cX4_placeOf 39 = .ok (.ireturn, 1) := by decide +kernel
theorem okX4_placeOf : CalOK yX4_placeOf cX4_placeOf 4 (some .int) 1 := ⟨wd_69, wd_356, by decide +kernel⟩
theorem ovX4_placeOf : VirOK yX4_placeOf := ⟨wd_354, wd_355⟩
def FX4_placeOf_9s (B : Blk) (k9 : Int32 → Int32 → Int32 → Option Int32) (l1 : Int32) (l2 : Int32) (l3 : Int32) : Option Int32 :=
  ld (B 9) 4 l2 fun v4 =>
  if v4 ≤ l3 then
    some (-6 : Int32)
  else
    c1 (FX4_inRow B l2 l3) fun r8 =>
    if r8 = l1 then
      some l3
    else
      lt1 (l3 + (1 : Int32)) fun x11 =>
      k9 l1 l2 x11
set_option maxRecDepth 100000 in
set_option maxHeartbeats 4000000 in
theorem wX4_placeOf_9s {E : WE} {V : VT} {A : Nat → Prop} {H0 : Heap} {M : Mem} {j : Nat} (hj : j < 11) (Cx : CX E RX4 cX4_placeOf 4 1 22) {r : Int32} {B : Blk} (hret : RetI E V A H0 cX4_placeOf .int r (jb M j B)) {k9 : Int32 → Int32 → Int32 → Option Int32} (hk9 : ∀ {H : Heap} {locs : List Loc} {ls : Array Slot} {l1 : Int32} {l2 : Int32} {l3 : Int32}, Wd V A H0 (jb M j B) (eS E) H locs → lv_has ls 4 [(0, .ref (vA V j 1)), (1, .int l1), (2, .int l2), (3, .int l3)] → k9 l1 l2 l3 = some r → Wq E H locs 9 ls []) {H : Heap} {locs : List Loc} {ls : Array Slot} {l1 : Int32} {l2 : Int32} {l3 : Int32} (hW : Wd V A H0 (jb M j B) (eS E) H locs) (hl : lv_has ls 4 [(0, .ref (vA V j 1)), (1, .int l1), (2, .int l2), (3, .int l3)]) (hF : FX4_placeOf_9s B k9 l1 l2 l3 = some r) : Wq E H locs 9 ls [] := by
  unfold FX4_placeOf_9s at hF
  refine q_iload_n Cx dX4_placeOf_9 rfl (lv_at hl 3 rfl) ?_
  refine q_aload_n Cx dX4_placeOf_10 rfl (lv_at hl 0 rfl) ?_
  refine q_get (v := .ref (vA V j 9)) Cx hW (oP hj) ic4 7 (by decide) rfl wd_110 dX4_placeOf_11 ?_
  refine q_iload_n Cx dX4_placeOf_14 rfl (lv_at hl 2 rfl) ?_
  obtain ⟨h5, v4, e6, hF⟩ := ld_some hF
  refine qb_iald Cx hW (ai_9 hj) h5 e6 dX4_placeOf_15 ?_
  refine q_icmp_ge (tgt := 37) Cx dX4_placeOf_16 (by decide) (fun c7 => ?_) (fun c7 => ?_)
  · have hF := (if_pos c7).symm.trans hF
    refine q_bipush (v := (-6 : Int32)) Cx dX4_placeOf_37 (by decide) ?_
    cases hF
    exact hret _ _ _ _ dX4_placeOf_39 (nI32 _) hW
  · have hF := (if_neg c7).symm.trans hF
    refine q_aload_n Cx dX4_placeOf_19 rfl (lv_at hl 0 rfl) ?_
    refine q_iload_n Cx dX4_placeOf_20 rfl (lv_at hl 2 rfl) ?_
    refine q_iload_n Cx dX4_placeOf_21 rfl (lv_at hl 3 rfl) ?_
    obtain ⟨r8, e9, hF⟩ := c1_some hF
    refine q_callI (as := [.int l2, .int l3]) (rest := []) Cx (kX4_inRow hj e9) okX4_inRow ovX4_inRow wd_325 ⟨rfl, rfl, by decide, by decide⟩ hW (oP hj) ic4 rfl hl.1 (Nat.le_of_ble_eq_true rfl) rfl dX4_placeOf_22 (fun H locs hW => ?_)
    refine q_iload_n Cx dX4_placeOf_25 rfl (lv_at hl 1 rfl) ?_
    refine q_icmp_ne (tgt := 31) Cx dX4_placeOf_26 (by decide) (fun c10 => ?_) (fun c10 => ?_)
    · have hF := (if_neg c10).symm.trans hF
      obtain ⟨x11, e12, hF⟩ := lt1_some hF
      refine q_iinc (k := 3) (v := x11) (lv' := [(3, .int x11), (0, .ref (vA V j 1)), (1, .int l1), (2, .int l2)]) Cx dX4_placeOf_31 hl rfl e12.symm (by decide) rfl (fun ls hl => ?_)
      refine q_goto (tgt := 9) Cx dX4_placeOf_34 (by decide) ?_
      exact hk9 hW (lv_sub hl [1, 2, 3, 0] rfl) hF
    · have hF := (if_pos c10).symm.trans hF
      refine q_iload_n Cx dX4_placeOf_29 rfl (lv_at hl 3 rfl) ?_
      cases hF
      exact hret _ _ _ _ dX4_placeOf_30 (nI32 _) hW
def FX4_placeOf_9 (B : Blk) : Nat → Int32 → Int32 → Int32 → Option Int32
  | 0 => fun _ _ _ => none
  | n + 1 => FX4_placeOf_9s B (FX4_placeOf_9 B n)
set_option maxRecDepth 100000 in
theorem wX4_placeOf_9 {E : WE} {V : VT} {A : Nat → Prop} {H0 : Heap} {M : Mem} {j : Nat} (hj : j < 11) (Cx : CX E RX4 cX4_placeOf 4 1 22) {r : Int32} {B : Blk} (hret : RetI E V A H0 cX4_placeOf .int r (jb M j B)) : ∀ (n : Nat) {H : Heap} {locs : List Loc} {ls : Array Slot} {l1 : Int32} {l2 : Int32} {l3 : Int32}, Wd V A H0 (jb M j B) (eS E) H locs → lv_has ls 4 [(0, .ref (vA V j 1)), (1, .int l1), (2, .int l2), (3, .int l3)] → FX4_placeOf_9 B n l1 l2 l3 = some r → Wq E H locs 9 ls [] := by
  intro n
  induction n with
  | zero => intro _ _ _ _ _ _ hW hl hF; cases hF
  | succ n ih => intro _ _ _ _ _ _ hW hl hF; exact wX4_placeOf_9s hj Cx hret ih hW hl hF
def FX4_placeOf (B : Blk) (l1 : Int32) : Option Int32 :=
  ld (B 3) 24 l1 fun v1 =>
  FX4_placeOf_9 B fu l1 v1 (0 : Int32)
set_option maxRecDepth 100000 in
set_option maxHeartbeats 4000000 in
theorem wX4_placeOf {E : WE} {V : VT} {A : Nat → Prop} {H0 : Heap} {M : Mem} {j : Nat} (hj : j < 11) (Cx : CX E RX4 cX4_placeOf 4 1 22) {r : Int32} {B : Blk} (hret : RetI E V A H0 cX4_placeOf .int r (jb M j B)) {H : Heap} {locs : List Loc} {ls : Array Slot} {l1 : Int32} (hW : Wd V A H0 (jb M j B) (eS E) H locs) (hl : lv_has ls 4 [(0, .ref (vA V j 1)), (1, .int l1)]) (hF : FX4_placeOf B l1 = some r) : Wq E H locs 0 ls [] := by
  unfold FX4_placeOf at hF
  refine q_aload_n Cx dX4_placeOf_0 rfl (lv_at hl 0 rfl) ?_
  refine q_get (v := .ref (vA V j 3)) Cx hW (oP hj) ic4 1 (by decide) rfl wd_99 dX4_placeOf_1 ?_
  refine q_iload_n Cx dX4_placeOf_4 rfl (lv_at hl 1 rfl) ?_
  obtain ⟨h2, v1, e3, hF⟩ := ld_some hF
  refine qb_iald Cx hW (ai_3 hj) h2 e3 dX4_placeOf_5 ?_
  refine q_istore_n (lv' := [(2, .int v1), (0, .ref (vA V j 1)), (1, .int l1)]) Cx dX4_placeOf_6 rfl hl (by decide) rfl (fun ls hl => ?_)
  refine q_iconst (v := (0 : Int32)) Cx dX4_placeOf_7 (by decide) ?_
  refine q_istore_n (lv' := [(3, .int (0 : Int32)), (2, .int v1), (0, .ref (vA V j 1)), (1, .int l1)]) Cx dX4_placeOf_8 rfl hl (by decide) rfl (fun ls hl => ?_)
  exact wX4_placeOf_9 hj Cx hret fu hW (lv_sub hl [2, 3, 1, 0] rfl) hF
set_option maxRecDepth 100000 in
theorem kX4_placeOf {l : Launch} {V : VT} {M : Mem} {j : Nat} (hj : j < 11) {B : Blk} {l1 : Int32} {r : Int32} (hF : FX4_placeOf B l1 = some r) : MetI l V yX4_placeOf cX4_placeOf 4 .int ({ frames := 1, cells := 0, slots := 0, locals := 22 } : Room) [.ref (vA V j 1), .int l1] r (jb M j B) (jb M j B) := metI_of (by decide) (Nat.le_of_ble_eq_true rfl) (fun E H0 _ Cx hret H locs ls hW hl => wX4_placeOf hj Cx hret hW hl hF)
theorem dX4_shift_0 : decode cX4_shift 0 = .ok (.aload_n 0, 1) := by decide +kernel
theorem dX4_shift_1 : decode cX4_shift 1 = .ok (.getfield 9, 3) := by decide +kernel
theorem dX4_shift_4 : decode cX4_shift 4 = .ok (.iload_n 1, 1) := by decide +kernel
theorem dX4_shift_5 : decode cX4_shift 5 = .ok (.iaload, 1) := by decide +kernel
theorem dX4_shift_6 : decode cX4_shift 6 = .ok (.bipush 24, 2) := by decide +kernel
theorem dX4_shift_8 : decode cX4_shift 8 = .ok (.imul, 1) := by decide +kernel
theorem dX4_shift_9 : decode cX4_shift 9 = .ok (.istore_n 3, 1) := by decide +kernel
theorem dX4_shift_10 : decode cX4_shift 10 = .ok (.aload_n 0, 1) := by decide +kernel
theorem dX4_shift_11 : decode cX4_shift 11 = .ok (.iload_n 1, 1) := by decide +kernel
theorem dX4_shift_12 : decode cX4_shift 12 = .ok (.invokevirtual 53, 3) := by decide +kernel
theorem dX4_shift_15 : decode cX4_shift 15 = .ok (.istore 4, 2) := by decide +kernel
theorem dX4_shift_17 : decode cX4_shift 17 = .ok (.iload 4, 2) := by decide +kernel
theorem dX4_shift_19 : decode cX4_shift 19 = .ok (.ifCond .lt 22, 3) := by decide +kernel
theorem dX4_shift_22 : decode cX4_shift 22 = .ok (.iload_n 2, 1) := by decide +kernel
theorem dX4_shift_23 : decode cX4_shift 23 = .ok (.ifCond .lt 18, 3) := by decide +kernel
theorem dX4_shift_26 : decode cX4_shift 26 = .ok (.iload_n 2, 1) := by decide +kernel
theorem dX4_shift_27 : decode cX4_shift 27 = .ok (.aload_n 0, 1) := by decide +kernel
theorem dX4_shift_28 : decode cX4_shift 28 = .ok (.getfield 30, 3) := by decide +kernel
theorem dX4_shift_31 : decode cX4_shift 31 = .ok (.aload_n 0, 1) := by decide +kernel
theorem dX4_shift_32 : decode cX4_shift 32 = .ok (.getfield 9, 3) := by decide +kernel
theorem dX4_shift_35 : decode cX4_shift 35 = .ok (.iload_n 1, 1) := by decide +kernel
theorem dX4_shift_36 : decode cX4_shift 36 = .ok (.iaload, 1) := by decide +kernel
theorem dX4_shift_37 : decode cX4_shift 37 = .ok (.iaload, 1) := by decide +kernel
theorem dX4_shift_38 : decode cX4_shift 38 = .ok (.if_icmp .lt 4, 3) := by decide +kernel
theorem dX4_shift_41 : decode cX4_shift 41 = .ok (.return_, 1) := by decide +kernel
theorem dX4_shift_42 : decode cX4_shift 42 = .ok (.iload 4, 2) := by decide +kernel
theorem dX4_shift_44 : decode cX4_shift 44 = .ok (.istore 5, 2) := by decide +kernel
theorem dX4_shift_46 : decode cX4_shift 46 = .ok (.iload 5, 2) := by decide +kernel
theorem dX4_shift_48 : decode cX4_shift 48 = .ok (.iload_n 2, 1) := by decide +kernel
theorem dX4_shift_49 : decode cX4_shift 49 = .ok (.if_icmp .ge 29, 3) := by decide +kernel
theorem dX4_shift_52 : decode cX4_shift 52 = .ok (.aload_n 0, 1) := by decide +kernel
theorem dX4_shift_53 : decode cX4_shift 53 = .ok (.getfield 27, 3) := by decide +kernel
theorem dX4_shift_56 : decode cX4_shift 56 = .ok (.iload_n 3, 1) := by decide +kernel
theorem dX4_shift_57 : decode cX4_shift 57 = .ok (.iload 5, 2) := by decide +kernel
theorem dX4_shift_59 : decode cX4_shift 59 = .ok (.iadd, 1) := by decide +kernel
theorem dX4_shift_60 : decode cX4_shift 60 = .ok (.aload_n 0, 1) := by decide +kernel
theorem dX4_shift_61 : decode cX4_shift 61 = .ok (.getfield 27, 3) := by decide +kernel
theorem dX4_shift_64 : decode cX4_shift 64 = .ok (.iload_n 3, 1) := by decide +kernel
theorem dX4_shift_65 : decode cX4_shift 65 = .ok (.iload 5, 2) := by decide +kernel
theorem dX4_shift_67 : decode cX4_shift 67 = .ok (.iadd, 1) := by decide +kernel
theorem dX4_shift_68 : decode cX4_shift 68 = .ok (.iconst 1, 1) := by decide +kernel
theorem dX4_shift_69 : decode cX4_shift 69 = .ok (.iadd, 1) := by decide +kernel
theorem dX4_shift_70 : decode cX4_shift 70 = .ok (.iaload, 1) := by decide +kernel
theorem dX4_shift_71 : decode cX4_shift 71 = .ok (.iastore, 1) := by decide +kernel
theorem dX4_shift_72 : decode cX4_shift 72 = .ok (.iinc 5 1, 3) := by decide +kernel
theorem dX4_shift_75 : decode cX4_shift 75 = .ok (.goto (-29), 3) := by decide +kernel
theorem dX4_shift_78 : decode cX4_shift 78 = .ok (.iload 4, 2) := by decide +kernel
theorem dX4_shift_80 : decode cX4_shift 80 = .ok (.istore 5, 2) := by decide +kernel
theorem dX4_shift_82 : decode cX4_shift 82 = .ok (.iload 5, 2) := by decide +kernel
theorem dX4_shift_84 : decode cX4_shift 84 = .ok (.iload_n 2, 1) := by decide +kernel
theorem dX4_shift_85 : decode cX4_shift 85 = .ok (.if_icmp .le 29, 3) := by decide +kernel
theorem dX4_shift_88 : decode cX4_shift 88 = .ok (.aload_n 0, 1) := by decide +kernel
theorem dX4_shift_89 : decode cX4_shift 89 = .ok (.getfield 27, 3) := by decide +kernel
theorem dX4_shift_92 : decode cX4_shift 92 = .ok (.iload_n 3, 1) := by decide +kernel
theorem dX4_shift_93 : decode cX4_shift 93 = .ok (.iload 5, 2) := by decide +kernel
theorem dX4_shift_95 : decode cX4_shift 95 = .ok (.iadd, 1) := by decide +kernel
theorem dX4_shift_96 : decode cX4_shift 96 = .ok (.aload_n 0, 1) := by decide +kernel
theorem dX4_shift_97 : decode cX4_shift 97 = .ok (.getfield 27, 3) := by decide +kernel
theorem dX4_shift_100 : decode cX4_shift 100 = .ok (.iload_n 3, 1) := by decide +kernel
theorem dX4_shift_101 : decode cX4_shift 101 = .ok (.iload 5, 2) := by decide +kernel
theorem dX4_shift_103 : decode cX4_shift 103 = .ok (.iadd, 1) := by decide +kernel
theorem dX4_shift_104 : decode cX4_shift 104 = .ok (.iconst 1, 1) := by decide +kernel
theorem dX4_shift_105 : decode cX4_shift 105 = .ok (.isub, 1) := by decide +kernel
theorem dX4_shift_106 : decode cX4_shift 106 = .ok (.iaload, 1) := by decide +kernel
theorem dX4_shift_107 : decode cX4_shift 107 = .ok (.iastore, 1) := by decide +kernel
theorem dX4_shift_108 : decode cX4_shift 108 = .ok (.iinc 5 (-1), 3) := by decide +kernel
theorem dX4_shift_111 : decode cX4_shift 111 = .ok (.goto (-29), 3) := by decide +kernel
theorem dX4_shift_114 : decode cX4_shift 114 = .ok (.aload_n 0, 1) := by decide +kernel
theorem dX4_shift_115 : decode cX4_shift 115 = .ok (.getfield 27, 3) := by decide +kernel
theorem dX4_shift_118 : decode cX4_shift 118 = .ok (.iload_n 3, 1) := by decide +kernel
theorem dX4_shift_119 : decode cX4_shift 119 = .ok (.iload_n 2, 1) := by decide +kernel
theorem dX4_shift_120 : decode cX4_shift 120 = .ok (.iadd, 1) := by decide +kernel
theorem dX4_shift_121 : decode cX4_shift 121 = .ok (.iload_n 1, 1) := by decide +kernel
theorem dX4_shift_122 : decode cX4_shift 122 = .ok (.iastore, 1) := by decide +kernel
theorem dX4_shift_123 : decode cX4_shift 123 = .ok (.return_, 1) := by decide +kernel
theorem okX4_shift : CalOK yX4_shift cX4_shift 6 (none) 2 := ⟨wd_69, wd_360, by decide +kernel⟩
theorem ovX4_shift : VirOK yX4_shift := ⟨wd_358, wd_359⟩
def FX4_shift_82s (k82 : Int32 → Int32 → Int32 → Int32 → Blk → Option Blk) (l1 : Int32) (l2 : Int32) (l3 : Int32) (l5 : Int32) (B : Blk) : Option Blk :=
  if l5 ≤ l2 then
    stb B 8 96 (l3 + l2) l1 fun B19 =>
    some B19
  else
    ld (B 8) 96 ((l3 + l5) - (1 : Int32)) fun v22 =>
    stb B 8 96 (l3 + l5) v22 fun B25 =>
    lt1 (l5 + (-1 : Int32)) fun x28 =>
    k82 l1 l2 l3 x28 B25
set_option maxRecDepth 100000 in
set_option maxHeartbeats 4000000 in
theorem wX4_shift_82s {E : WE} {V : VT} {A : Nat → Prop} {H0 : Heap} {M : Mem} {j : Nat} (hj : j < 11) (Cx : CX E RX4 cX4_shift 6 2 45) {B' : Blk} (hret : RetV E V A H0 cX4_shift (jb M j B')) {k82 : Int32 → Int32 → Int32 → Int32 → Blk → Option Blk} (hk82 : ∀ {H : Heap} {locs : List Loc} {ls : Array Slot} {B : Blk} {l1 : Int32} {l2 : Int32} {l3 : Int32} {l5 : Int32}, Wd V A H0 (jb M j B) (eS E) H locs → lv_has ls 6 [(0, .ref (vA V j 1)), (1, .int l1), (2, .int l2), (3, .int l3), (5, .int l5)] → k82 l1 l2 l3 l5 B = some B' → Wq E H locs 82 ls []) {H : Heap} {locs : List Loc} {ls : Array Slot} {l1 : Int32} {l2 : Int32} {l3 : Int32} {l5 : Int32} {B : Blk} (hW : Wd V A H0 (jb M j B) (eS E) H locs) (hl : lv_has ls 6 [(0, .ref (vA V j 1)), (1, .int l1), (2, .int l2), (3, .int l3), (5, .int l5)]) (hF : FX4_shift_82s k82 l1 l2 l3 l5 B = some B') : Wq E H locs 82 ls [] := by
  unfold FX4_shift_82s at hF
  refine q_iload Cx dX4_shift_82 (lv_at hl 4 rfl) ?_
  refine q_iload_n Cx dX4_shift_84 rfl (lv_at hl 2 rfl) ?_
  refine q_icmp_le (tgt := 114) Cx dX4_shift_85 (by decide) (fun c18 => ?_) (fun c18 => ?_)
  · have hF := (if_pos c18).symm.trans hF
    refine q_aload_n Cx dX4_shift_114 rfl (lv_at hl 0 rfl) ?_
    refine q_get (v := .ref (vA V j 8)) Cx hW (oP hj) ic4 6 (by decide) rfl wd_109 dX4_shift_115 ?_
    refine q_iload_n Cx dX4_shift_118 rfl (lv_at hl 3 rfl) ?_
    refine q_iload_n Cx dX4_shift_119 rfl (lv_at hl 2 rfl) ?_
    refine q_iadd Cx dX4_shift_120 ?_
    refine q_iload_n Cx dX4_shift_121 rfl (lv_at hl 1 rfl) ?_
    obtain ⟨h20, B19, e21, hF⟩ := stb_some hF
    refine qb_iast Cx hW (ai_8 hj) h20 e21 dX4_shift_122 (fun H locs hW => ?_)
    cases hF
    exact hret _ _ _ _ dX4_shift_123 hW
  · have hF := (if_neg c18).symm.trans hF
    refine q_aload_n Cx dX4_shift_88 rfl (lv_at hl 0 rfl) ?_
    refine q_get (v := .ref (vA V j 8)) Cx hW (oP hj) ic4 6 (by decide) rfl wd_109 dX4_shift_89 ?_
    refine q_iload_n Cx dX4_shift_92 rfl (lv_at hl 3 rfl) ?_
    refine q_iload Cx dX4_shift_93 (lv_at hl 4 rfl) ?_
    refine q_iadd Cx dX4_shift_95 ?_
    refine q_aload_n Cx dX4_shift_96 rfl (lv_at hl 0 rfl) ?_
    refine q_get (v := .ref (vA V j 8)) Cx hW (oP hj) ic4 6 (by decide) rfl wd_109 dX4_shift_97 ?_
    refine q_iload_n Cx dX4_shift_100 rfl (lv_at hl 3 rfl) ?_
    refine q_iload Cx dX4_shift_101 (lv_at hl 4 rfl) ?_
    refine q_iadd Cx dX4_shift_103 ?_
    refine q_iconst (v := (1 : Int32)) Cx dX4_shift_104 (by decide) ?_
    refine q_isub Cx dX4_shift_105 ?_
    obtain ⟨h23, v22, e24, hF⟩ := ld_some hF
    refine qb_iald Cx hW (ai_8 hj) h23 e24 dX4_shift_106 ?_
    obtain ⟨h26, B25, e27, hF⟩ := stb_some hF
    refine qb_iast Cx hW (ai_8 hj) h26 e27 dX4_shift_107 (fun H locs hW => ?_)
    obtain ⟨x28, e29, hF⟩ := lt1_some hF
    refine q_iinc (k := 4) (v := x28) (lv' := [(5, .int x28), (0, .ref (vA V j 1)), (1, .int l1), (2, .int l2), (3, .int l3)]) Cx dX4_shift_108 hl rfl e29.symm (by decide) rfl (fun ls hl => ?_)
    refine q_goto (tgt := 82) Cx dX4_shift_111 (by decide) ?_
    exact hk82 hW (lv_sub hl [1, 2, 3, 4, 0] rfl) hF
def FX4_shift_82 : Nat → Int32 → Int32 → Int32 → Int32 → Blk → Option Blk
  | 0 => fun _ _ _ _ _ => none
  | n + 1 => FX4_shift_82s (FX4_shift_82 n)
set_option maxRecDepth 100000 in
theorem wX4_shift_82 {E : WE} {V : VT} {A : Nat → Prop} {H0 : Heap} {M : Mem} {j : Nat} (hj : j < 11) (Cx : CX E RX4 cX4_shift 6 2 45) {B' : Blk} (hret : RetV E V A H0 cX4_shift (jb M j B')) : ∀ (n : Nat) {H : Heap} {locs : List Loc} {ls : Array Slot} {l1 : Int32} {l2 : Int32} {l3 : Int32} {l5 : Int32} {B : Blk}, Wd V A H0 (jb M j B) (eS E) H locs → lv_has ls 6 [(0, .ref (vA V j 1)), (1, .int l1), (2, .int l2), (3, .int l3), (5, .int l5)] → FX4_shift_82 n l1 l2 l3 l5 B = some B' → Wq E H locs 82 ls [] := by
  intro n
  induction n with
  | zero => intro _ _ _ _ _ _ _ _ hW hl hF; cases hF
  | succ n ih => intro _ _ _ _ _ _ _ _ hW hl hF; exact wX4_shift_82s hj Cx hret ih hW hl hF
def FX4_shift_46s (k46 : Int32 → Int32 → Int32 → Int32 → Int32 → Blk → Option Blk) (l1 : Int32) (l2 : Int32) (l3 : Int32) (l4 : Int32) (l5 : Int32) (B : Blk) : Option Blk :=
  if l2 ≤ l5 then
    FX4_shift_82 fu l1 l2 l3 l4 B
  else
    ld (B 8) 96 ((l3 + l5) + (1 : Int32)) fun v30 =>
    stb B 8 96 (l3 + l5) v30 fun B33 =>
    lt1 (l5 + (1 : Int32)) fun x36 =>
    k46 l1 l2 l3 l4 x36 B33
set_option maxRecDepth 100000 in
set_option maxHeartbeats 4000000 in
theorem wX4_shift_46s {E : WE} {V : VT} {A : Nat → Prop} {H0 : Heap} {M : Mem} {j : Nat} (hj : j < 11) (Cx : CX E RX4 cX4_shift 6 2 45) {B' : Blk} (hret : RetV E V A H0 cX4_shift (jb M j B')) {k46 : Int32 → Int32 → Int32 → Int32 → Int32 → Blk → Option Blk} (hk46 : ∀ {H : Heap} {locs : List Loc} {ls : Array Slot} {B : Blk} {l1 : Int32} {l2 : Int32} {l3 : Int32} {l4 : Int32} {l5 : Int32}, Wd V A H0 (jb M j B) (eS E) H locs → lv_has ls 6 [(0, .ref (vA V j 1)), (1, .int l1), (2, .int l2), (3, .int l3), (4, .int l4), (5, .int l5)] → k46 l1 l2 l3 l4 l5 B = some B' → Wq E H locs 46 ls []) {H : Heap} {locs : List Loc} {ls : Array Slot} {l1 : Int32} {l2 : Int32} {l3 : Int32} {l4 : Int32} {l5 : Int32} {B : Blk} (hW : Wd V A H0 (jb M j B) (eS E) H locs) (hl : lv_has ls 6 [(0, .ref (vA V j 1)), (1, .int l1), (2, .int l2), (3, .int l3), (4, .int l4), (5, .int l5)]) (hF : FX4_shift_46s k46 l1 l2 l3 l4 l5 B = some B') : Wq E H locs 46 ls [] := by
  unfold FX4_shift_46s at hF
  refine q_iload Cx dX4_shift_46 (lv_at hl 5 rfl) ?_
  refine q_iload_n Cx dX4_shift_48 rfl (lv_at hl 2 rfl) ?_
  refine q_icmp_ge (tgt := 78) Cx dX4_shift_49 (by decide) (fun c17 => ?_) (fun c17 => ?_)
  · have hF := (if_pos c17).symm.trans hF
    refine q_iload Cx dX4_shift_78 (lv_at hl 4 rfl) ?_
    refine q_istore (lv' := [(5, .int l4), (0, .ref (vA V j 1)), (1, .int l1), (2, .int l2), (3, .int l3), (4, .int l4)]) Cx dX4_shift_80 hl (by decide) rfl (fun ls hl => ?_)
    exact wX4_shift_82 hj Cx hret fu hW (lv_sub hl [1, 2, 3, 4, 0] rfl) hF
  · have hF := (if_neg c17).symm.trans hF
    refine q_aload_n Cx dX4_shift_52 rfl (lv_at hl 0 rfl) ?_
    refine q_get (v := .ref (vA V j 8)) Cx hW (oP hj) ic4 6 (by decide) rfl wd_109 dX4_shift_53 ?_
    refine q_iload_n Cx dX4_shift_56 rfl (lv_at hl 3 rfl) ?_
    refine q_iload Cx dX4_shift_57 (lv_at hl 5 rfl) ?_
    refine q_iadd Cx dX4_shift_59 ?_
    refine q_aload_n Cx dX4_shift_60 rfl (lv_at hl 0 rfl) ?_
    refine q_get (v := .ref (vA V j 8)) Cx hW (oP hj) ic4 6 (by decide) rfl wd_109 dX4_shift_61 ?_
    refine q_iload_n Cx dX4_shift_64 rfl (lv_at hl 3 rfl) ?_
    refine q_iload Cx dX4_shift_65 (lv_at hl 5 rfl) ?_
    refine q_iadd Cx dX4_shift_67 ?_
    refine q_iconst (v := (1 : Int32)) Cx dX4_shift_68 (by decide) ?_
    refine q_iadd Cx dX4_shift_69 ?_
    obtain ⟨h31, v30, e32, hF⟩ := ld_some hF
    refine qb_iald Cx hW (ai_8 hj) h31 e32 dX4_shift_70 ?_
    obtain ⟨h34, B33, e35, hF⟩ := stb_some hF
    refine qb_iast Cx hW (ai_8 hj) h34 e35 dX4_shift_71 (fun H locs hW => ?_)
    obtain ⟨x36, e37, hF⟩ := lt1_some hF
    refine q_iinc (k := 5) (v := x36) (lv' := [(5, .int x36), (0, .ref (vA V j 1)), (1, .int l1), (2, .int l2), (3, .int l3), (4, .int l4)]) Cx dX4_shift_72 hl rfl e37.symm (by decide) rfl (fun ls hl => ?_)
    refine q_goto (tgt := 46) Cx dX4_shift_75 (by decide) ?_
    exact hk46 hW (lv_sub hl [1, 2, 3, 4, 5, 0] rfl) hF
def FX4_shift_46 : Nat → Int32 → Int32 → Int32 → Int32 → Int32 → Blk → Option Blk
  | 0 => fun _ _ _ _ _ _ => none
  | n + 1 => FX4_shift_46s (FX4_shift_46 n)
set_option maxRecDepth 100000 in
theorem wX4_shift_46 {E : WE} {V : VT} {A : Nat → Prop} {H0 : Heap} {M : Mem} {j : Nat} (hj : j < 11) (Cx : CX E RX4 cX4_shift 6 2 45) {B' : Blk} (hret : RetV E V A H0 cX4_shift (jb M j B')) : ∀ (n : Nat) {H : Heap} {locs : List Loc} {ls : Array Slot} {l1 : Int32} {l2 : Int32} {l3 : Int32} {l4 : Int32} {l5 : Int32} {B : Blk}, Wd V A H0 (jb M j B) (eS E) H locs → lv_has ls 6 [(0, .ref (vA V j 1)), (1, .int l1), (2, .int l2), (3, .int l3), (4, .int l4), (5, .int l5)] → FX4_shift_46 n l1 l2 l3 l4 l5 B = some B' → Wq E H locs 46 ls [] := by
  intro n
  induction n with
  | zero => intro _ _ _ _ _ _ _ _ _ hW hl hF; cases hF
  | succ n ih => intro _ _ _ _ _ _ _ _ _ hW hl hF; exact wX4_shift_46s hj Cx hret ih hW hl hF
def FX4_shift (B : Blk) (l1 : Int32) (l2 : Int32) : Option Blk :=
  ld (B 3) 24 l1 fun v1 =>
  lt1 (v1 * (24 : Int32)) fun x4 =>
  c1 (FX4_placeOf B l1) fun r6 =>
  if r6 < 0 then
    some B
  else
    if l2 < 0 then
      some B
    else
      ld (B 3) 24 l1 fun v10 =>
      ld (B 9) 4 v10 fun v13 =>
      if l2 < v13 then
        FX4_shift_46 fu l1 l2 x4 r6 r6 B
      else
        some B
set_option maxRecDepth 100000 in
set_option maxHeartbeats 4000000 in
theorem wX4_shift {E : WE} {V : VT} {A : Nat → Prop} {H0 : Heap} {M : Mem} {j : Nat} (hj : j < 11) (Cx : CX E RX4 cX4_shift 6 2 45) {B' : Blk} (hret : RetV E V A H0 cX4_shift (jb M j B')) {H : Heap} {locs : List Loc} {ls : Array Slot} {l1 : Int32} {l2 : Int32} {B : Blk} (hW : Wd V A H0 (jb M j B) (eS E) H locs) (hl : lv_has ls 6 [(0, .ref (vA V j 1)), (1, .int l1), (2, .int l2)]) (hF : FX4_shift B l1 l2 = some B') : Wq E H locs 0 ls [] := by
  unfold FX4_shift at hF
  refine q_aload_n Cx dX4_shift_0 rfl (lv_at hl 0 rfl) ?_
  refine q_get (v := .ref (vA V j 3)) Cx hW (oP hj) ic4 1 (by decide) rfl wd_99 dX4_shift_1 ?_
  refine q_iload_n Cx dX4_shift_4 rfl (lv_at hl 1 rfl) ?_
  obtain ⟨h2, v1, e3, hF⟩ := ld_some hF
  refine qb_iald Cx hW (ai_3 hj) h2 e3 dX4_shift_5 ?_
  refine q_bipush (v := (24 : Int32)) Cx dX4_shift_6 (by decide) ?_
  refine q_imul Cx dX4_shift_8 ?_
  obtain ⟨x4, e5, hF⟩ := lt1_some hF
  refine q_topi e5 ?_
  refine q_istore_n (lv' := [(3, .int x4), (0, .ref (vA V j 1)), (1, .int l1), (2, .int l2)]) Cx dX4_shift_9 rfl hl (by decide) rfl (fun ls hl => ?_)
  refine q_aload_n Cx dX4_shift_10 rfl (lv_at hl 1 rfl) ?_
  refine q_iload_n Cx dX4_shift_11 rfl (lv_at hl 2 rfl) ?_
  obtain ⟨r6, e7, hF⟩ := c1_some hF
  refine q_callI (as := [.int l1]) (rest := []) Cx (kX4_placeOf hj e7) okX4_placeOf ovX4_placeOf wd_361 ⟨rfl, rfl, by decide, by decide⟩ hW (oP hj) ic4 rfl hl.1 (Nat.le_of_ble_eq_true rfl) rfl dX4_shift_12 (fun H locs hW => ?_)
  refine q_istore (lv' := [(4, .int r6), (3, .int x4), (0, .ref (vA V j 1)), (1, .int l1), (2, .int l2)]) Cx dX4_shift_15 hl (by decide) rfl (fun ls hl => ?_)
  refine q_iload Cx dX4_shift_17 (lv_at hl 0 rfl) ?_
  refine q_if_lt (tgt := 41) Cx dX4_shift_19 (by decide) (fun c8 => ?_) (fun c8 => ?_)
  · have hF := (if_pos c8).symm.trans hF
    cases hF
    exact hret _ _ _ _ dX4_shift_41 hW
  · have hF := (if_neg c8).symm.trans hF
    refine q_iload_n Cx dX4_shift_22 rfl (lv_at hl 4 rfl) ?_
    refine q_if_lt (tgt := 41) Cx dX4_shift_23 (by decide) (fun c9 => ?_) (fun c9 => ?_)
    · have hF := (if_pos c9).symm.trans hF
      cases hF
      exact hret _ _ _ _ dX4_shift_41 hW
    · have hF := (if_neg c9).symm.trans hF
      refine q_iload_n Cx dX4_shift_26 rfl (lv_at hl 4 rfl) ?_
      refine q_aload_n Cx dX4_shift_27 rfl (lv_at hl 2 rfl) ?_
      refine q_get (v := .ref (vA V j 9)) Cx hW (oP hj) ic4 7 (by decide) rfl wd_110 dX4_shift_28 ?_
      refine q_aload_n Cx dX4_shift_31 rfl (lv_at hl 2 rfl) ?_
      refine q_get (v := .ref (vA V j 3)) Cx hW (oP hj) ic4 1 (by decide) rfl wd_99 dX4_shift_32 ?_
      refine q_iload_n Cx dX4_shift_35 rfl (lv_at hl 3 rfl) ?_
      obtain ⟨h11, v10, e12, hF⟩ := ld_some hF
      refine qb_iald Cx hW (ai_3 hj) h11 e12 dX4_shift_36 ?_
      obtain ⟨h14, v13, e15, hF⟩ := ld_some hF
      refine qb_iald Cx hW (ai_9 hj) h14 e15 dX4_shift_37 ?_
      refine q_icmp_lt (tgt := 42) Cx dX4_shift_38 (by decide) (fun c16 => ?_) (fun c16 => ?_)
      · have hF := (if_pos c16).symm.trans hF
        refine q_iload Cx dX4_shift_42 (lv_at hl 0 rfl) ?_
        refine q_istore (lv' := [(5, .int r6), (4, .int r6), (3, .int x4), (0, .ref (vA V j 1)), (1, .int l1), (2, .int l2)]) Cx dX4_shift_44 hl (by decide) rfl (fun ls hl => ?_)
        exact wX4_shift_46 hj Cx hret fu hW (lv_sub hl [3, 4, 5, 2, 1, 0] rfl) hF
      · have hF := (if_neg c16).symm.trans hF
        cases hF
        exact hret _ _ _ _ dX4_shift_41 hW
set_option maxRecDepth 100000 in
theorem kX4_shift {l : Launch} {V : VT} {M : Mem} {j : Nat} (hj : j < 11) {B : Blk} {l1 : Int32} {l2 : Int32} {B' : Blk} (hF : FX4_shift B l1 l2 = some B') : MetV l V yX4_shift cX4_shift 6 ({ frames := 2, cells := 0, slots := 0, locals := 45 } : Room) [.ref (vA V j 1), .int l1, .int l2] (jb M j B) (jb M j B') := metV_of (by decide) (Nat.le_of_ble_eq_true rfl) (fun E H0 _ Cx hret H locs ls hW hl => wX4_shift hj Cx hret hW hl hF)
theorem dX4_linkFrom_0 : decode cX4_linkFrom 0 = .ok (.iconst 0, 1) := by decide +kernel
theorem dX4_linkFrom_1 : decode cX4_linkFrom 1 = .ok (.istore_n 2, 1) := by decide +kernel
theorem dX4_linkFrom_2 : decode cX4_linkFrom 2 = .ok (.iload_n 2, 1) := by decide +kernel
theorem dX4_linkFrom_3 : decode cX4_linkFrom 3 = .ok (.aload_n 0, 1) := by decide +kernel
theorem dX4_linkFrom_4 : decode cX4_linkFrom 4 = .ok (.getfield 39, 3) := by decide +kernel
theorem dX4_linkFrom_7 : decode cX4_linkFrom 7 = .ok (.if_icmp .ge 79, 3) := by decide +kernel
theorem dX4_linkFrom_10 : decode cX4_linkFrom 10 = .ok (.aload_n 0, 1) := by decide +kernel
theorem dX4_linkFrom_11 : decode cX4_linkFrom 11 = .ok (.getfield 9, 3) := by decide +kernel
theorem dX4_linkFrom_14 : decode cX4_linkFrom 14 = .ok (.iload_n 1, 1) := by decide +kernel
theorem dX4_linkFrom_15 : decode cX4_linkFrom 15 = .ok (.iaload, 1) := by decide +kernel
theorem dX4_linkFrom_16 : decode cX4_linkFrom 16 = .ok (.aload_n 0, 1) := by decide +kernel
theorem dX4_linkFrom_17 : decode cX4_linkFrom 17 = .ok (.getfield 9, 3) := by decide +kernel
theorem dX4_linkFrom_20 : decode cX4_linkFrom 20 = .ok (.iload_n 2, 1) := by decide +kernel
theorem dX4_linkFrom_21 : decode cX4_linkFrom 21 = .ok (.iaload, 1) := by decide +kernel
theorem dX4_linkFrom_22 : decode cX4_linkFrom 22 = .ok (.if_icmp .eq 23, 3) := by decide +kernel
theorem dX4_linkFrom_25 : decode cX4_linkFrom 25 = .ok (.aload_n 0, 1) := by decide +kernel
theorem dX4_linkFrom_26 : decode cX4_linkFrom 26 = .ok (.getfield 18, 3) := by decide +kernel
theorem dX4_linkFrom_29 : decode cX4_linkFrom 29 = .ok (.iload_n 1, 1) := by decide +kernel
theorem dX4_linkFrom_30 : decode cX4_linkFrom 30 = .ok (.iaload, 1) := by decide +kernel
theorem dX4_linkFrom_31 : decode cX4_linkFrom 31 = .ok (.iload_n 2, 1) := by decide +kernel
theorem dX4_linkFrom_32 : decode cX4_linkFrom 32 = .ok (.if_icmp .eq 13, 3) := by decide +kernel
theorem dX4_linkFrom_35 : decode cX4_linkFrom 35 = .ok (.aload_n 0, 1) := by decide +kernel
theorem dX4_linkFrom_36 : decode cX4_linkFrom 36 = .ok (.getfield 18, 3) := by decide +kernel
theorem dX4_linkFrom_39 : decode cX4_linkFrom 39 = .ok (.iload_n 2, 1) := by decide +kernel
theorem dX4_linkFrom_40 : decode cX4_linkFrom 40 = .ok (.iaload, 1) := by decide +kernel
theorem dX4_linkFrom_41 : decode cX4_linkFrom 41 = .ok (.iload_n 1, 1) := by decide +kernel
theorem dX4_linkFrom_42 : decode cX4_linkFrom 42 = .ok (.if_icmp .ne 7, 3) := by decide +kernel
theorem dX4_linkFrom_45 : decode cX4_linkFrom 45 = .ok (.iconst 1, 1) := by decide +kernel
theorem dX4_linkFrom_46 : decode cX4_linkFrom 46 = .ok (.goto 4, 3) := by decide +kernel
theorem dX4_linkFrom_49 : decode cX4_linkFrom 49 = .ok (.iconst 0, 1) := by decide +kernel
theorem dX4_linkFrom_50 : decode cX4_linkFrom 50 = .ok (.istore_n 3, 1) := by decide +kernel
theorem dX4_linkFrom_51 : decode cX4_linkFrom 51 = .ok (.iload_n 3, 1) := by decide +kernel
theorem dX4_linkFrom_52 : decode cX4_linkFrom 52 = .ok (.ifCond .eq 28, 3) := by decide +kernel
theorem dX4_linkFrom_55 : decode cX4_linkFrom 55 = .ok (.aload_n 0, 1) := by decide +kernel
theorem dX4_linkFrom_56 : decode cX4_linkFrom 56 = .ok (.getfield 36, 3) := by decide +kernel
theorem dX4_linkFrom_59 : decode cX4_linkFrom 59 = .ok (.iload_n 2, 1) := by decide +kernel
theorem dX4_linkFrom_60 : decode cX4_linkFrom 60 = .ok (.iaload, 1) := by decide +kernel
theorem dX4_linkFrom_61 : decode cX4_linkFrom 61 = .ok (.bipush (-6), 2) := by decide +kernel
theorem dX4_linkFrom_63 : decode cX4_linkFrom 63 = .ok (.if_icmp .ne 17, 3) := by decide +kernel
theorem dX4_linkFrom_66 : decode cX4_linkFrom 66 = .ok (.aload_n 0, 1) := by decide +kernel
theorem dX4_linkFrom_67 : decode cX4_linkFrom 67 = .ok (.getfield 36, 3) := by decide +kernel
theorem dX4_linkFrom_70 : decode cX4_linkFrom 70 = .ok (.iload_n 2, 1) := by decide +kernel
theorem dX4_linkFrom_71 : decode cX4_linkFrom 71 = .ok (.aload_n 0, 1) := by decide +kernel
theorem dX4_linkFrom_72 : decode cX4_linkFrom 72 = .ok (.getfield 36, 3) := by decide +kernel
theorem dX4_linkFrom_75 : decode cX4_linkFrom 75 = .ok (.iload_n 1, 1) := by decide +kernel
theorem dX4_linkFrom_76 : decode cX4_linkFrom 76 = .ok (.iaload, 1) := by decide +kernel
theorem dX4_linkFrom_77 : decode cX4_linkFrom 77 = .ok (.iconst 1, 1) := by decide +kernel
theorem dX4_linkFrom_78 : decode cX4_linkFrom 78 = .ok (.iadd, 1) := by decide +kernel
theorem dX4_linkFrom_79 : decode cX4_linkFrom 79 = .ok (.iastore, 1) := by decide +kernel
theorem dX4_linkFrom_80 : decode cX4_linkFrom 80 = .ok (.iinc 2 1, 3) := by decide +kernel
theorem dX4_linkFrom_83 : decode cX4_linkFrom 83 = .ok (.goto (-81), 3) := by decide +kernel
theorem dX4_linkFrom_86 : decode cX4_linkFrom 86 = .ok (.return_, 1) := by decide +kernel
theorem okX4_linkFrom : CalOK yX4_linkFrom cX4_linkFrom 4 (none) 1 := ⟨wd_69, wd_402, by decide +kernel⟩
theorem ovX4_linkFrom : VirOK yX4_linkFrom := ⟨wd_401, wd_3⟩
def FX4_linkFrom_50 (k2 : Int32 → Int32 → Blk → Option Blk) (l1 : Int32) (l2 : Int32) (s0 : Int32) (B : Blk) : Option Blk :=
  if s0 = 0 then
    lt1 (l2 + (1 : Int32)) fun x10 =>
    k2 l1 x10 B
  else
    ld (B 11) 24 l2 fun v12 =>
    if v12 = (-6 : Int32) then
      ld (B 11) 24 l1 fun v18 =>
      stb B 11 24 l2 (v18 + (1 : Int32)) fun B21 =>
      lt1 (l2 + (1 : Int32)) fun x24 =>
      k2 l1 x24 B21
    else
      lt1 (l2 + (1 : Int32)) fun x16 =>
      k2 l1 x16 B
set_option maxRecDepth 100000 in
set_option maxHeartbeats 4000000 in
theorem wX4_linkFrom_50 {E : WE} {V : VT} {A : Nat → Prop} {H0 : Heap} {M : Mem} {j : Nat} (hj : j < 11) (Cx : CX E RX4 cX4_linkFrom 4 0 0) {B' : Blk} (hret : RetV E V A H0 cX4_linkFrom (jb M j B')) {k2 : Int32 → Int32 → Blk → Option Blk} (hk2 : ∀ {H : Heap} {locs : List Loc} {ls : Array Slot} {B : Blk} {l1 : Int32} {l2 : Int32}, Wd V A H0 (jb M j B) (eS E) H locs → lv_has ls 4 [(0, .ref (vA V j 1)), (1, .int l1), (2, .int l2)] → k2 l1 l2 B = some B' → Wq E H locs 2 ls []) {H : Heap} {locs : List Loc} {ls : Array Slot} {l1 : Int32} {l2 : Int32} {s0 : Int32} {B : Blk} (hW : Wd V A H0 (jb M j B) (eS E) H locs) (hl : lv_has ls 4 [(0, .ref (vA V j 1)), (1, .int l1), (2, .int l2)]) (hF : FX4_linkFrom_50 k2 l1 l2 s0 B = some B') : Wq E H locs 50 ls [.int s0] := by
  unfold FX4_linkFrom_50 at hF
  refine q_istore_n (lv' := [(3, .int s0), (0, .ref (vA V j 1)), (1, .int l1), (2, .int l2)]) Cx dX4_linkFrom_50 rfl hl (by decide) rfl (fun ls hl => ?_)
  refine q_iload_n Cx dX4_linkFrom_51 rfl (lv_at hl 0 rfl) ?_
  refine q_if_eq (tgt := 80) Cx dX4_linkFrom_52 (by decide) (fun c9 => ?_) (fun c9 => ?_)
  · have hF := (if_pos c9).symm.trans hF
    obtain ⟨x10, e11, hF⟩ := lt1_some hF
    refine q_iinc (k := 3) (v := x10) (lv' := [(2, .int x10), (3, .int s0), (0, .ref (vA V j 1)), (1, .int l1)]) Cx dX4_linkFrom_80 hl rfl e11.symm (by decide) rfl (fun ls hl => ?_)
    refine q_goto (tgt := 2) Cx dX4_linkFrom_83 (by decide) ?_
    exact hk2 hW (lv_sub hl [2, 3, 0] rfl) hF
  · have hF := (if_neg c9).symm.trans hF
    refine q_aload_n Cx dX4_linkFrom_55 rfl (lv_at hl 1 rfl) ?_
    refine q_get (v := .ref (vA V j 11)) Cx hW (oP hj) ic4 9 (by decide) rfl wd_113 dX4_linkFrom_56 ?_
    refine q_iload_n Cx dX4_linkFrom_59 rfl (lv_at hl 3 rfl) ?_
    obtain ⟨h13, v12, e14, hF⟩ := ld_some hF
    refine qb_iald Cx hW (ai_11 hj) h13 e14 dX4_linkFrom_60 ?_
    refine q_bipush (v := (-6 : Int32)) Cx dX4_linkFrom_61 (by decide) ?_
    refine q_icmp_ne (tgt := 80) Cx dX4_linkFrom_63 (by decide) (fun c15 => ?_) (fun c15 => ?_)
    · have hF := (if_neg c15).symm.trans hF
      obtain ⟨x16, e17, hF⟩ := lt1_some hF
      refine q_iinc (k := 3) (v := x16) (lv' := [(2, .int x16), (3, .int s0), (0, .ref (vA V j 1)), (1, .int l1)]) Cx dX4_linkFrom_80 hl rfl e17.symm (by decide) rfl (fun ls hl => ?_)
      refine q_goto (tgt := 2) Cx dX4_linkFrom_83 (by decide) ?_
      exact hk2 hW (lv_sub hl [2, 3, 0] rfl) hF
    · have hF := (if_pos c15).symm.trans hF
      refine q_aload_n Cx dX4_linkFrom_66 rfl (lv_at hl 1 rfl) ?_
      refine q_get (v := .ref (vA V j 11)) Cx hW (oP hj) ic4 9 (by decide) rfl wd_113 dX4_linkFrom_67 ?_
      refine q_iload_n Cx dX4_linkFrom_70 rfl (lv_at hl 3 rfl) ?_
      refine q_aload_n Cx dX4_linkFrom_71 rfl (lv_at hl 1 rfl) ?_
      refine q_get (v := .ref (vA V j 11)) Cx hW (oP hj) ic4 9 (by decide) rfl wd_113 dX4_linkFrom_72 ?_
      refine q_iload_n Cx dX4_linkFrom_75 rfl (lv_at hl 2 rfl) ?_
      obtain ⟨h19, v18, e20, hF⟩ := ld_some hF
      refine qb_iald Cx hW (ai_11 hj) h19 e20 dX4_linkFrom_76 ?_
      refine q_iconst (v := (1 : Int32)) Cx dX4_linkFrom_77 (by decide) ?_
      refine q_iadd Cx dX4_linkFrom_78 ?_
      obtain ⟨h22, B21, e23, hF⟩ := stb_some hF
      refine qb_iast Cx hW (ai_11 hj) h22 e23 dX4_linkFrom_79 (fun H locs hW => ?_)
      obtain ⟨x24, e25, hF⟩ := lt1_some hF
      refine q_iinc (k := 3) (v := x24) (lv' := [(2, .int x24), (3, .int s0), (0, .ref (vA V j 1)), (1, .int l1)]) Cx dX4_linkFrom_80 hl rfl e25.symm (by decide) rfl (fun ls hl => ?_)
      refine q_goto (tgt := 2) Cx dX4_linkFrom_83 (by decide) ?_
      exact hk2 hW (lv_sub hl [2, 3, 0] rfl) hF
def FX4_linkFrom_45 (k2 : Int32 → Int32 → Blk → Option Blk) (l1 : Int32) (l2 : Int32) (B : Blk) : Option Blk :=
  FX4_linkFrom_50 k2 l1 l2 (1 : Int32) B
set_option maxRecDepth 100000 in
set_option maxHeartbeats 4000000 in
theorem wX4_linkFrom_45 {E : WE} {V : VT} {A : Nat → Prop} {H0 : Heap} {M : Mem} {j : Nat} (hj : j < 11) (Cx : CX E RX4 cX4_linkFrom 4 0 0) {B' : Blk} (hret : RetV E V A H0 cX4_linkFrom (jb M j B')) {k2 : Int32 → Int32 → Blk → Option Blk} (hk2 : ∀ {H : Heap} {locs : List Loc} {ls : Array Slot} {B : Blk} {l1 : Int32} {l2 : Int32}, Wd V A H0 (jb M j B) (eS E) H locs → lv_has ls 4 [(0, .ref (vA V j 1)), (1, .int l1), (2, .int l2)] → k2 l1 l2 B = some B' → Wq E H locs 2 ls []) {H : Heap} {locs : List Loc} {ls : Array Slot} {l1 : Int32} {l2 : Int32} {B : Blk} (hW : Wd V A H0 (jb M j B) (eS E) H locs) (hl : lv_has ls 4 [(0, .ref (vA V j 1)), (1, .int l1), (2, .int l2)]) (hF : FX4_linkFrom_45 k2 l1 l2 B = some B') : Wq E H locs 45 ls [] := by
  unfold FX4_linkFrom_45 at hF
  refine q_iconst (v := (1 : Int32)) Cx dX4_linkFrom_45 (by decide) ?_
  refine q_goto (tgt := 50) Cx dX4_linkFrom_46 (by decide) ?_
  exact wX4_linkFrom_50 hj Cx hret hk2 hW (lv_sub hl [0, 1, 2] rfl) hF
def FX4_linkFrom_2s (k2 : Int32 → Int32 → Blk → Option Blk) (l1 : Int32) (l2 : Int32) (B : Blk) : Option Blk :=
  if ((B 1) 0) ≤ l2 then
    some B
  else
    ld (B 3) 24 l1 fun v2 =>
    ld (B 3) 24 l2 fun v5 =>
    if v2 = v5 then
      FX4_linkFrom_45 k2 l1 l2 B
    else
      ld (B 5) 24 l1 fun v26 =>
      if v26 = l2 then
        FX4_linkFrom_45 k2 l1 l2 B
      else
        ld (B 5) 24 l2 fun v30 =>
        if v30 = l1 then
          FX4_linkFrom_45 k2 l1 l2 B
        else
          FX4_linkFrom_50 k2 l1 l2 (0 : Int32) B
set_option maxRecDepth 100000 in
set_option maxHeartbeats 4000000 in
theorem wX4_linkFrom_2s {E : WE} {V : VT} {A : Nat → Prop} {H0 : Heap} {M : Mem} {j : Nat} (hj : j < 11) (Cx : CX E RX4 cX4_linkFrom 4 0 0) {B' : Blk} (hret : RetV E V A H0 cX4_linkFrom (jb M j B')) {k2 : Int32 → Int32 → Blk → Option Blk} (hk2 : ∀ {H : Heap} {locs : List Loc} {ls : Array Slot} {B : Blk} {l1 : Int32} {l2 : Int32}, Wd V A H0 (jb M j B) (eS E) H locs → lv_has ls 4 [(0, .ref (vA V j 1)), (1, .int l1), (2, .int l2)] → k2 l1 l2 B = some B' → Wq E H locs 2 ls []) {H : Heap} {locs : List Loc} {ls : Array Slot} {l1 : Int32} {l2 : Int32} {B : Blk} (hW : Wd V A H0 (jb M j B) (eS E) H locs) (hl : lv_has ls 4 [(0, .ref (vA V j 1)), (1, .int l1), (2, .int l2)]) (hF : FX4_linkFrom_2s k2 l1 l2 B = some B') : Wq E H locs 2 ls [] := by
  unfold FX4_linkFrom_2s at hF
  refine q_iload_n Cx dX4_linkFrom_2 rfl (lv_at hl 2 rfl) ?_
  refine q_aload_n Cx dX4_linkFrom_3 rfl (lv_at hl 0 rfl) ?_
  refine qb_get (v := .int ((B 1) 0)) Cx hW (oP hj) ic4 0 (by decide) rfl wd_96 dX4_linkFrom_4 ?_
  refine q_icmp_ge (tgt := 86) Cx dX4_linkFrom_7 (by decide) (fun c1 => ?_) (fun c1 => ?_)
  · have hF := (if_pos c1).symm.trans hF
    cases hF
    exact hret _ _ _ _ dX4_linkFrom_86 hW
  · have hF := (if_neg c1).symm.trans hF
    refine q_aload_n Cx dX4_linkFrom_10 rfl (lv_at hl 0 rfl) ?_
    refine q_get (v := .ref (vA V j 3)) Cx hW (oP hj) ic4 1 (by decide) rfl wd_99 dX4_linkFrom_11 ?_
    refine q_iload_n Cx dX4_linkFrom_14 rfl (lv_at hl 1 rfl) ?_
    obtain ⟨h3, v2, e4, hF⟩ := ld_some hF
    refine qb_iald Cx hW (ai_3 hj) h3 e4 dX4_linkFrom_15 ?_
    refine q_aload_n Cx dX4_linkFrom_16 rfl (lv_at hl 0 rfl) ?_
    refine q_get (v := .ref (vA V j 3)) Cx hW (oP hj) ic4 1 (by decide) rfl wd_99 dX4_linkFrom_17 ?_
    refine q_iload_n Cx dX4_linkFrom_20 rfl (lv_at hl 2 rfl) ?_
    obtain ⟨h6, v5, e7, hF⟩ := ld_some hF
    refine qb_iald Cx hW (ai_3 hj) h6 e7 dX4_linkFrom_21 ?_
    refine q_icmp_eq (tgt := 45) Cx dX4_linkFrom_22 (by decide) (fun c8 => ?_) (fun c8 => ?_)
    · have hF := (if_pos c8).symm.trans hF
      exact wX4_linkFrom_45 hj Cx hret hk2 hW (lv_sub hl [0, 1, 2] rfl) hF
    · have hF := (if_neg c8).symm.trans hF
      refine q_aload_n Cx dX4_linkFrom_25 rfl (lv_at hl 0 rfl) ?_
      refine q_get (v := .ref (vA V j 5)) Cx hW (oP hj) ic4 3 (by decide) rfl wd_103 dX4_linkFrom_26 ?_
      refine q_iload_n Cx dX4_linkFrom_29 rfl (lv_at hl 1 rfl) ?_
      obtain ⟨h27, v26, e28, hF⟩ := ld_some hF
      refine qb_iald Cx hW (ai_5 hj) h27 e28 dX4_linkFrom_30 ?_
      refine q_iload_n Cx dX4_linkFrom_31 rfl (lv_at hl 2 rfl) ?_
      refine q_icmp_eq (tgt := 45) Cx dX4_linkFrom_32 (by decide) (fun c29 => ?_) (fun c29 => ?_)
      · have hF := (if_pos c29).symm.trans hF
        exact wX4_linkFrom_45 hj Cx hret hk2 hW (lv_sub hl [0, 1, 2] rfl) hF
      · have hF := (if_neg c29).symm.trans hF
        refine q_aload_n Cx dX4_linkFrom_35 rfl (lv_at hl 0 rfl) ?_
        refine q_get (v := .ref (vA V j 5)) Cx hW (oP hj) ic4 3 (by decide) rfl wd_103 dX4_linkFrom_36 ?_
        refine q_iload_n Cx dX4_linkFrom_39 rfl (lv_at hl 2 rfl) ?_
        obtain ⟨h31, v30, e32, hF⟩ := ld_some hF
        refine qb_iald Cx hW (ai_5 hj) h31 e32 dX4_linkFrom_40 ?_
        refine q_iload_n Cx dX4_linkFrom_41 rfl (lv_at hl 1 rfl) ?_
        refine q_icmp_ne (tgt := 49) Cx dX4_linkFrom_42 (by decide) (fun c33 => ?_) (fun c33 => ?_)
        · have hF := (if_neg c33).symm.trans hF
          refine q_iconst (v := (0 : Int32)) Cx dX4_linkFrom_49 (by decide) ?_
          exact wX4_linkFrom_50 hj Cx hret hk2 hW (lv_sub hl [0, 1, 2] rfl) hF
        · have hF := (if_pos c33).symm.trans hF
          exact wX4_linkFrom_45 hj Cx hret hk2 hW (lv_sub hl [0, 1, 2] rfl) hF
def FX4_linkFrom_2 : Nat → Int32 → Int32 → Blk → Option Blk
  | 0 => fun _ _ _ => none
  | n + 1 => FX4_linkFrom_2s (FX4_linkFrom_2 n)
set_option maxRecDepth 100000 in
theorem wX4_linkFrom_2 {E : WE} {V : VT} {A : Nat → Prop} {H0 : Heap} {M : Mem} {j : Nat} (hj : j < 11) (Cx : CX E RX4 cX4_linkFrom 4 0 0) {B' : Blk} (hret : RetV E V A H0 cX4_linkFrom (jb M j B')) : ∀ (n : Nat) {H : Heap} {locs : List Loc} {ls : Array Slot} {l1 : Int32} {l2 : Int32} {B : Blk}, Wd V A H0 (jb M j B) (eS E) H locs → lv_has ls 4 [(0, .ref (vA V j 1)), (1, .int l1), (2, .int l2)] → FX4_linkFrom_2 n l1 l2 B = some B' → Wq E H locs 2 ls [] := by
  intro n
  induction n with
  | zero => intro _ _ _ _ _ _ hW hl hF; cases hF
  | succ n ih => intro _ _ _ _ _ _ hW hl hF; exact wX4_linkFrom_2s hj Cx hret ih hW hl hF
def FX4_linkFrom (B : Blk) (l1 : Int32) : Option Blk :=
  FX4_linkFrom_2 fu l1 (0 : Int32) B
set_option maxRecDepth 100000 in
set_option maxHeartbeats 4000000 in
theorem wX4_linkFrom {E : WE} {V : VT} {A : Nat → Prop} {H0 : Heap} {M : Mem} {j : Nat} (hj : j < 11) (Cx : CX E RX4 cX4_linkFrom 4 0 0) {B' : Blk} (hret : RetV E V A H0 cX4_linkFrom (jb M j B')) {H : Heap} {locs : List Loc} {ls : Array Slot} {l1 : Int32} {B : Blk} (hW : Wd V A H0 (jb M j B) (eS E) H locs) (hl : lv_has ls 4 [(0, .ref (vA V j 1)), (1, .int l1)]) (hF : FX4_linkFrom B l1 = some B') : Wq E H locs 0 ls [] := by
  unfold FX4_linkFrom at hF
  refine q_iconst (v := (0 : Int32)) Cx dX4_linkFrom_0 (by decide) ?_
  refine q_istore_n (lv' := [(2, .int (0 : Int32)), (0, .ref (vA V j 1)), (1, .int l1)]) Cx dX4_linkFrom_1 rfl hl (by decide) rfl (fun ls hl => ?_)
  exact wX4_linkFrom_2 hj Cx hret fu hW (lv_sub hl [1, 2, 0] rfl) hF
set_option maxRecDepth 100000 in
theorem kX4_linkFrom {l : Launch} {V : VT} {M : Mem} {j : Nat} (hj : j < 11) {B : Blk} {l1 : Int32} {B' : Blk} (hF : FX4_linkFrom B l1 = some B') : MetV l V yX4_linkFrom cX4_linkFrom 4 ({ frames := 0, cells := 0, slots := 0, locals := 0 } : Room) [.ref (vA V j 1), .int l1] (jb M j B) (jb M j B') := metV_of (by decide) (Nat.le_of_ble_eq_true rfl) (fun E H0 _ Cx hret H locs ls hW hl => wX4_linkFrom hj Cx hret hW hl hF)
theorem dX4_measureFrom_0 : decode cX4_measureFrom 0 = .ok (.iconst 0, 1) := by decide +kernel
theorem dX4_measureFrom_1 : decode cX4_measureFrom 1 = .ok (.istore_n 2, 1) := by decide +kernel
theorem dX4_measureFrom_2 : decode cX4_measureFrom 2 = .ok (.iload_n 2, 1) := by decide +kernel
theorem dX4_measureFrom_3 : decode cX4_measureFrom 3 = .ok (.aload_n 0, 1) := by decide +kernel
theorem dX4_measureFrom_4 : decode cX4_measureFrom 4 = .ok (.getfield 39, 3) := by decide +kernel
theorem dX4_measureFrom_7 : decode cX4_measureFrom 7 = .ok (.if_icmp .ge 26, 3) := by decide +kernel
theorem dX4_measureFrom_10 : decode cX4_measureFrom 10 = .ok (.aload_n 0, 1) := by decide +kernel
theorem dX4_measureFrom_11 : decode cX4_measureFrom 11 = .ok (.getfield 36, 3) := by decide +kernel
theorem dX4_measureFrom_14 : decode cX4_measureFrom 14 = .ok (.iload_n 2, 1) := by decide +kernel
theorem dX4_measureFrom_15 : decode cX4_measureFrom 15 = .ok (.iload_n 2, 1) := by decide +kernel
theorem dX4_measureFrom_16 : decode cX4_measureFrom 16 = .ok (.iload_n 1, 1) := by decide +kernel
theorem dX4_measureFrom_17 : decode cX4_measureFrom 17 = .ok (.if_icmp .ne 7, 3) := by decide +kernel
theorem dX4_measureFrom_20 : decode cX4_measureFrom 20 = .ok (.iconst 0, 1) := by decide +kernel
theorem dX4_measureFrom_21 : decode cX4_measureFrom 21 = .ok (.goto 5, 3) := by decide +kernel
theorem dX4_measureFrom_24 : decode cX4_measureFrom 24 = .ok (.bipush (-6), 2) := by decide +kernel
theorem dX4_measureFrom_26 : decode cX4_measureFrom 26 = .ok (.iastore, 1) := by decide +kernel
theorem dX4_measureFrom_27 : decode cX4_measureFrom 27 = .ok (.iinc 2 1, 3) := by decide +kernel
theorem dX4_measureFrom_30 : decode cX4_measureFrom 30 = .ok (.goto (-28), 3) := by decide +kernel
theorem dX4_measureFrom_33 : decode cX4_measureFrom 33 = .ok (.iconst 0, 1) := by decide +kernel
theorem dX4_measureFrom_34 : decode cX4_measureFrom 34 = .ok (.istore_n 2, 1) := by decide +kernel
theorem dX4_measureFrom_35 : decode cX4_measureFrom 35 = .ok (.iload_n 2, 1) := by decide +kernel
theorem dX4_measureFrom_36 : decode cX4_measureFrom 36 = .ok (.aload_n 0, 1) := by decide +kernel
theorem dX4_measureFrom_37 : decode cX4_measureFrom 37 = .ok (.getfield 39, 3) := by decide +kernel
theorem dX4_measureFrom_40 : decode cX4_measureFrom 40 = .ok (.if_icmp .ge 40, 3) := by decide +kernel
theorem dX4_measureFrom_43 : decode cX4_measureFrom 43 = .ok (.iconst 0, 1) := by decide +kernel
theorem dX4_measureFrom_44 : decode cX4_measureFrom 44 = .ok (.istore_n 3, 1) := by decide +kernel
theorem dX4_measureFrom_45 : decode cX4_measureFrom 45 = .ok (.iload_n 3, 1) := by decide +kernel
theorem dX4_measureFrom_46 : decode cX4_measureFrom 46 = .ok (.aload_n 0, 1) := by decide +kernel
theorem dX4_measureFrom_47 : decode cX4_measureFrom 47 = .ok (.getfield 39, 3) := by decide +kernel
theorem dX4_measureFrom_50 : decode cX4_measureFrom 50 = .ok (.if_icmp .ge 24, 3) := by decide +kernel
theorem dX4_measureFrom_53 : decode cX4_measureFrom 53 = .ok (.aload_n 0, 1) := by decide +kernel
theorem dX4_measureFrom_54 : decode cX4_measureFrom 54 = .ok (.getfield 36, 3) := by decide +kernel
theorem dX4_measureFrom_57 : decode cX4_measureFrom 57 = .ok (.iload_n 3, 1) := by decide +kernel
theorem dX4_measureFrom_58 : decode cX4_measureFrom 58 = .ok (.iaload, 1) := by decide +kernel
theorem dX4_measureFrom_59 : decode cX4_measureFrom 59 = .ok (.iload_n 2, 1) := by decide +kernel
theorem dX4_measureFrom_60 : decode cX4_measureFrom 60 = .ok (.if_icmp .ne 8, 3) := by decide +kernel
theorem dX4_measureFrom_63 : decode cX4_measureFrom 63 = .ok (.aload_n 0, 1) := by decide +kernel
theorem dX4_measureFrom_64 : decode cX4_measureFrom 64 = .ok (.iload_n 3, 1) := by decide +kernel
theorem dX4_measureFrom_65 : decode cX4_measureFrom 65 = .ok (.invokevirtual 85, 3) := by decide +kernel
theorem dX4_measureFrom_68 : decode cX4_measureFrom 68 = .ok (.iinc 3 1, 3) := by decide +kernel
theorem dX4_measureFrom_71 : decode cX4_measureFrom 71 = .ok (.goto (-26), 3) := by decide +kernel
theorem dX4_measureFrom_74 : decode cX4_measureFrom 74 = .ok (.iinc 2 1, 3) := by decide +kernel
theorem dX4_measureFrom_77 : decode cX4_measureFrom 77 = .ok (.goto (-42), 3) := by decide +kernel
theorem dX4_measureFrom_80 : decode cX4_measureFrom 80 = .ok (.return_, 1) := by decide +kernel
theorem okX4_measureFrom : CalOK yX4_measureFrom cX4_measureFrom 4 (none) 1 := ⟨wd_69, wd_398, by decide +kernel⟩
theorem ovX4_measureFrom : VirOK yX4_measureFrom := ⟨wd_396, wd_397⟩
def FX4_measureFrom_45s (k35 : Int32 → Blk → Option Blk) (k45 : Int32 → Int32 → Blk → Option Blk) (l2 : Int32) (l3 : Int32) (B : Blk) : Option Blk :=
  if ((B 1) 0) ≤ l3 then
    lt1 (l2 + (1 : Int32)) fun x4 =>
    k35 x4 B
  else
    ld (B 11) 24 l3 fun v6 =>
    if v6 = l2 then
      c1 (FX4_linkFrom B l3) fun B14 =>
      lt1 (l3 + (1 : Int32)) fun x15 =>
      k45 l2 x15 B14
    else
      lt1 (l3 + (1 : Int32)) fun x10 =>
      k45 l2 x10 B
set_option maxRecDepth 100000 in
set_option maxHeartbeats 4000000 in
theorem wX4_measureFrom_45s {E : WE} {V : VT} {A : Nat → Prop} {H0 : Heap} {M : Mem} {j : Nat} (hj : j < 11) (Cx : CX E RX4 cX4_measureFrom 4 1 23) {B' : Blk} (hret : RetV E V A H0 cX4_measureFrom (jb M j B')) {k35 : Int32 → Blk → Option Blk} (hk35 : ∀ {H : Heap} {locs : List Loc} {ls : Array Slot} {B : Blk} {l2 : Int32}, Wd V A H0 (jb M j B) (eS E) H locs → lv_has ls 4 [(0, .ref (vA V j 1)), (2, .int l2)] → k35 l2 B = some B' → Wq E H locs 35 ls []) {k45 : Int32 → Int32 → Blk → Option Blk} (hk45 : ∀ {H : Heap} {locs : List Loc} {ls : Array Slot} {B : Blk} {l2 : Int32} {l3 : Int32}, Wd V A H0 (jb M j B) (eS E) H locs → lv_has ls 4 [(0, .ref (vA V j 1)), (2, .int l2), (3, .int l3)] → k45 l2 l3 B = some B' → Wq E H locs 45 ls []) {H : Heap} {locs : List Loc} {ls : Array Slot} {l2 : Int32} {l3 : Int32} {B : Blk} (hW : Wd V A H0 (jb M j B) (eS E) H locs) (hl : lv_has ls 4 [(0, .ref (vA V j 1)), (2, .int l2), (3, .int l3)]) (hF : FX4_measureFrom_45s k35 k45 l2 l3 B = some B') : Wq E H locs 45 ls [] := by
  unfold FX4_measureFrom_45s at hF
  refine q_iload_n Cx dX4_measureFrom_45 rfl (lv_at hl 2 rfl) ?_
  refine q_aload_n Cx dX4_measureFrom_46 rfl (lv_at hl 0 rfl) ?_
  refine qb_get (v := .int ((B 1) 0)) Cx hW (oP hj) ic4 0 (by decide) rfl wd_96 dX4_measureFrom_47 ?_
  refine q_icmp_ge (tgt := 74) Cx dX4_measureFrom_50 (by decide) (fun c3 => ?_) (fun c3 => ?_)
  · have hF := (if_pos c3).symm.trans hF
    obtain ⟨x4, e5, hF⟩ := lt1_some hF
    refine q_iinc (k := 1) (v := x4) (lv' := [(2, .int x4), (0, .ref (vA V j 1)), (3, .int l3)]) Cx dX4_measureFrom_74 hl rfl e5.symm (by decide) rfl (fun ls hl => ?_)
    refine q_goto (tgt := 35) Cx dX4_measureFrom_77 (by decide) ?_
    exact hk35 hW (lv_sub hl [1, 0] rfl) hF
  · have hF := (if_neg c3).symm.trans hF
    refine q_aload_n Cx dX4_measureFrom_53 rfl (lv_at hl 0 rfl) ?_
    refine q_get (v := .ref (vA V j 11)) Cx hW (oP hj) ic4 9 (by decide) rfl wd_113 dX4_measureFrom_54 ?_
    refine q_iload_n Cx dX4_measureFrom_57 rfl (lv_at hl 2 rfl) ?_
    obtain ⟨h7, v6, e8, hF⟩ := ld_some hF
    refine qb_iald Cx hW (ai_11 hj) h7 e8 dX4_measureFrom_58 ?_
    refine q_iload_n Cx dX4_measureFrom_59 rfl (lv_at hl 1 rfl) ?_
    refine q_icmp_ne (tgt := 68) Cx dX4_measureFrom_60 (by decide) (fun c9 => ?_) (fun c9 => ?_)
    · have hF := (if_neg c9).symm.trans hF
      obtain ⟨x10, e11, hF⟩ := lt1_some hF
      refine q_iinc (k := 2) (v := x10) (lv' := [(3, .int x10), (0, .ref (vA V j 1)), (2, .int l2)]) Cx dX4_measureFrom_68 hl rfl e11.symm (by decide) rfl (fun ls hl => ?_)
      refine q_goto (tgt := 45) Cx dX4_measureFrom_71 (by decide) ?_
      exact hk45 hW (lv_sub hl [1, 2, 0] rfl) hF
    · have hF := (if_pos c9).symm.trans hF
      refine q_aload_n Cx dX4_measureFrom_63 rfl (lv_at hl 0 rfl) ?_
      refine q_iload_n Cx dX4_measureFrom_64 rfl (lv_at hl 2 rfl) ?_
      obtain ⟨B14, e13, hF⟩ := c1_some hF
      refine q_callV (as := [.int l3]) (rest := []) Cx (kX4_linkFrom hj e13) okX4_linkFrom ovX4_linkFrom wd_399 ⟨rfl, rfl, by decide, by decide⟩ hW (oP hj) ic4 rfl hl.1 (Nat.le_of_ble_eq_true rfl) rfl dX4_measureFrom_65 (fun H locs hW => ?_)
      obtain ⟨x15, e16, hF⟩ := lt1_some hF
      refine q_iinc (k := 2) (v := x15) (lv' := [(3, .int x15), (0, .ref (vA V j 1)), (2, .int l2)]) Cx dX4_measureFrom_68 hl rfl e16.symm (by decide) rfl (fun ls hl => ?_)
      refine q_goto (tgt := 45) Cx dX4_measureFrom_71 (by decide) ?_
      exact hk45 hW (lv_sub hl [1, 2, 0] rfl) hF
def FX4_measureFrom_45 (k35 : Int32 → Blk → Option Blk) : Nat → Int32 → Int32 → Blk → Option Blk
  | 0 => fun _ _ _ => none
  | n + 1 => FX4_measureFrom_45s k35 (FX4_measureFrom_45 k35 n)
set_option maxRecDepth 100000 in
theorem wX4_measureFrom_45 {E : WE} {V : VT} {A : Nat → Prop} {H0 : Heap} {M : Mem} {j : Nat} (hj : j < 11) (Cx : CX E RX4 cX4_measureFrom 4 1 23) {B' : Blk} (hret : RetV E V A H0 cX4_measureFrom (jb M j B')) {k35 : Int32 → Blk → Option Blk} (hk35 : ∀ {H : Heap} {locs : List Loc} {ls : Array Slot} {B : Blk} {l2 : Int32}, Wd V A H0 (jb M j B) (eS E) H locs → lv_has ls 4 [(0, .ref (vA V j 1)), (2, .int l2)] → k35 l2 B = some B' → Wq E H locs 35 ls []) : ∀ (n : Nat) {H : Heap} {locs : List Loc} {ls : Array Slot} {l2 : Int32} {l3 : Int32} {B : Blk}, Wd V A H0 (jb M j B) (eS E) H locs → lv_has ls 4 [(0, .ref (vA V j 1)), (2, .int l2), (3, .int l3)] → FX4_measureFrom_45 k35 n l2 l3 B = some B' → Wq E H locs 45 ls [] := by
  intro n
  induction n with
  | zero => intro _ _ _ _ _ _ hW hl hF; cases hF
  | succ n ih => intro _ _ _ _ _ _ hW hl hF; exact wX4_measureFrom_45s hj Cx hret hk35 ih hW hl hF
def FX4_measureFrom_35s (k35 : Int32 → Blk → Option Blk) (l2 : Int32) (B : Blk) : Option Blk :=
  if ((B 1) 0) ≤ l2 then
    some B
  else
    FX4_measureFrom_45 k35 fu l2 (0 : Int32) B
set_option maxRecDepth 100000 in
set_option maxHeartbeats 4000000 in
theorem wX4_measureFrom_35s {E : WE} {V : VT} {A : Nat → Prop} {H0 : Heap} {M : Mem} {j : Nat} (hj : j < 11) (Cx : CX E RX4 cX4_measureFrom 4 1 23) {B' : Blk} (hret : RetV E V A H0 cX4_measureFrom (jb M j B')) {k35 : Int32 → Blk → Option Blk} (hk35 : ∀ {H : Heap} {locs : List Loc} {ls : Array Slot} {B : Blk} {l2 : Int32}, Wd V A H0 (jb M j B) (eS E) H locs → lv_has ls 4 [(0, .ref (vA V j 1)), (2, .int l2)] → k35 l2 B = some B' → Wq E H locs 35 ls []) {H : Heap} {locs : List Loc} {ls : Array Slot} {l2 : Int32} {B : Blk} (hW : Wd V A H0 (jb M j B) (eS E) H locs) (hl : lv_has ls 4 [(0, .ref (vA V j 1)), (2, .int l2)]) (hF : FX4_measureFrom_35s k35 l2 B = some B') : Wq E H locs 35 ls [] := by
  unfold FX4_measureFrom_35s at hF
  refine q_iload_n Cx dX4_measureFrom_35 rfl (lv_at hl 1 rfl) ?_
  refine q_aload_n Cx dX4_measureFrom_36 rfl (lv_at hl 0 rfl) ?_
  refine qb_get (v := .int ((B 1) 0)) Cx hW (oP hj) ic4 0 (by decide) rfl wd_96 dX4_measureFrom_37 ?_
  refine q_icmp_ge (tgt := 80) Cx dX4_measureFrom_40 (by decide) (fun c2 => ?_) (fun c2 => ?_)
  · have hF := (if_pos c2).symm.trans hF
    cases hF
    exact hret _ _ _ _ dX4_measureFrom_80 hW
  · have hF := (if_neg c2).symm.trans hF
    refine q_iconst (v := (0 : Int32)) Cx dX4_measureFrom_43 (by decide) ?_
    refine q_istore_n (lv' := [(3, .int (0 : Int32)), (0, .ref (vA V j 1)), (2, .int l2)]) Cx dX4_measureFrom_44 rfl hl (by decide) rfl (fun ls hl => ?_)
    exact wX4_measureFrom_45 hj Cx hret hk35 fu hW (lv_sub hl [1, 2, 0] rfl) hF
def FX4_measureFrom_35 : Nat → Int32 → Blk → Option Blk
  | 0 => fun _ _ => none
  | n + 1 => FX4_measureFrom_35s (FX4_measureFrom_35 n)
set_option maxRecDepth 100000 in
theorem wX4_measureFrom_35 {E : WE} {V : VT} {A : Nat → Prop} {H0 : Heap} {M : Mem} {j : Nat} (hj : j < 11) (Cx : CX E RX4 cX4_measureFrom 4 1 23) {B' : Blk} (hret : RetV E V A H0 cX4_measureFrom (jb M j B')) : ∀ (n : Nat) {H : Heap} {locs : List Loc} {ls : Array Slot} {l2 : Int32} {B : Blk}, Wd V A H0 (jb M j B) (eS E) H locs → lv_has ls 4 [(0, .ref (vA V j 1)), (2, .int l2)] → FX4_measureFrom_35 n l2 B = some B' → Wq E H locs 35 ls [] := by
  intro n
  induction n with
  | zero => intro _ _ _ _ _ hW hl hF; cases hF
  | succ n ih => intro _ _ _ _ _ hW hl hF; exact wX4_measureFrom_35s hj Cx hret ih hW hl hF
def FX4_measureFrom_26 (k2 : Int32 → Int32 → Blk → Option Blk) (l1 : Int32) (l2 : Int32) (s0 : Int32) (s1 : Int32) (B : Blk) : Option Blk :=
  stb B 11 24 s1 s0 fun B18 =>
  lt1 (l2 + (1 : Int32)) fun x21 =>
  k2 l1 x21 B18
set_option maxRecDepth 100000 in
set_option maxHeartbeats 4000000 in
theorem wX4_measureFrom_26 {E : WE} {V : VT} {A : Nat → Prop} {H0 : Heap} {M : Mem} {j : Nat} (hj : j < 11) (Cx : CX E RX4 cX4_measureFrom 4 1 23) {B' : Blk} (hret : RetV E V A H0 cX4_measureFrom (jb M j B')) {k2 : Int32 → Int32 → Blk → Option Blk} (hk2 : ∀ {H : Heap} {locs : List Loc} {ls : Array Slot} {B : Blk} {l1 : Int32} {l2 : Int32}, Wd V A H0 (jb M j B) (eS E) H locs → lv_has ls 4 [(0, .ref (vA V j 1)), (1, .int l1), (2, .int l2)] → k2 l1 l2 B = some B' → Wq E H locs 2 ls []) {H : Heap} {locs : List Loc} {ls : Array Slot} {l1 : Int32} {l2 : Int32} {s0 : Int32} {s1 : Int32} {B : Blk} (hW : Wd V A H0 (jb M j B) (eS E) H locs) (hl : lv_has ls 4 [(0, .ref (vA V j 1)), (1, .int l1), (2, .int l2)]) (hF : FX4_measureFrom_26 k2 l1 l2 s0 s1 B = some B') : Wq E H locs 26 ls [.int s0, .int s1, .ref (vA V j 11)] := by
  unfold FX4_measureFrom_26 at hF
  obtain ⟨h19, B18, e20, hF⟩ := stb_some hF
  refine qb_iast Cx hW (ai_11 hj) h19 e20 dX4_measureFrom_26 (fun H locs hW => ?_)
  obtain ⟨x21, e22, hF⟩ := lt1_some hF
  refine q_iinc (k := 2) (v := x21) (lv' := [(2, .int x21), (0, .ref (vA V j 1)), (1, .int l1)]) Cx dX4_measureFrom_27 hl rfl e22.symm (by decide) rfl (fun ls hl => ?_)
  refine q_goto (tgt := 2) Cx dX4_measureFrom_30 (by decide) ?_
  exact hk2 hW (lv_sub hl [1, 2, 0] rfl) hF
def FX4_measureFrom_2s (k2 : Int32 → Int32 → Blk → Option Blk) (l1 : Int32) (l2 : Int32) (B : Blk) : Option Blk :=
  if ((B 1) 0) ≤ l2 then
    FX4_measureFrom_35 fu (0 : Int32) B
  else
    if l2 = l1 then
      FX4_measureFrom_26 k2 l1 l2 (0 : Int32) l2 B
    else
      FX4_measureFrom_26 k2 l1 l2 (-6 : Int32) l2 B
set_option maxRecDepth 100000 in
set_option maxHeartbeats 4000000 in
theorem wX4_measureFrom_2s {E : WE} {V : VT} {A : Nat → Prop} {H0 : Heap} {M : Mem} {j : Nat} (hj : j < 11) (Cx : CX E RX4 cX4_measureFrom 4 1 23) {B' : Blk} (hret : RetV E V A H0 cX4_measureFrom (jb M j B')) {k2 : Int32 → Int32 → Blk → Option Blk} (hk2 : ∀ {H : Heap} {locs : List Loc} {ls : Array Slot} {B : Blk} {l1 : Int32} {l2 : Int32}, Wd V A H0 (jb M j B) (eS E) H locs → lv_has ls 4 [(0, .ref (vA V j 1)), (1, .int l1), (2, .int l2)] → k2 l1 l2 B = some B' → Wq E H locs 2 ls []) {H : Heap} {locs : List Loc} {ls : Array Slot} {l1 : Int32} {l2 : Int32} {B : Blk} (hW : Wd V A H0 (jb M j B) (eS E) H locs) (hl : lv_has ls 4 [(0, .ref (vA V j 1)), (1, .int l1), (2, .int l2)]) (hF : FX4_measureFrom_2s k2 l1 l2 B = some B') : Wq E H locs 2 ls [] := by
  unfold FX4_measureFrom_2s at hF
  refine q_iload_n Cx dX4_measureFrom_2 rfl (lv_at hl 2 rfl) ?_
  refine q_aload_n Cx dX4_measureFrom_3 rfl (lv_at hl 0 rfl) ?_
  refine qb_get (v := .int ((B 1) 0)) Cx hW (oP hj) ic4 0 (by decide) rfl wd_96 dX4_measureFrom_4 ?_
  refine q_icmp_ge (tgt := 33) Cx dX4_measureFrom_7 (by decide) (fun c1 => ?_) (fun c1 => ?_)
  · have hF := (if_pos c1).symm.trans hF
    refine q_iconst (v := (0 : Int32)) Cx dX4_measureFrom_33 (by decide) ?_
    refine q_istore_n (lv' := [(2, .int (0 : Int32)), (0, .ref (vA V j 1)), (1, .int l1)]) Cx dX4_measureFrom_34 rfl hl (by decide) rfl (fun ls hl => ?_)
    exact wX4_measureFrom_35 hj Cx hret fu hW (lv_sub hl [1, 0] rfl) hF
  · have hF := (if_neg c1).symm.trans hF
    refine q_aload_n Cx dX4_measureFrom_10 rfl (lv_at hl 0 rfl) ?_
    refine q_get (v := .ref (vA V j 11)) Cx hW (oP hj) ic4 9 (by decide) rfl wd_113 dX4_measureFrom_11 ?_
    refine q_iload_n Cx dX4_measureFrom_14 rfl (lv_at hl 2 rfl) ?_
    refine q_iload_n Cx dX4_measureFrom_15 rfl (lv_at hl 2 rfl) ?_
    refine q_iload_n Cx dX4_measureFrom_16 rfl (lv_at hl 1 rfl) ?_
    refine q_icmp_ne (tgt := 24) Cx dX4_measureFrom_17 (by decide) (fun c17 => ?_) (fun c17 => ?_)
    · have hF := (if_neg c17).symm.trans hF
      refine q_bipush (v := (-6 : Int32)) Cx dX4_measureFrom_24 (by decide) ?_
      exact wX4_measureFrom_26 hj Cx hret hk2 hW (lv_sub hl [0, 1, 2] rfl) hF
    · have hF := (if_pos c17).symm.trans hF
      refine q_iconst (v := (0 : Int32)) Cx dX4_measureFrom_20 (by decide) ?_
      refine q_goto (tgt := 26) Cx dX4_measureFrom_21 (by decide) ?_
      exact wX4_measureFrom_26 hj Cx hret hk2 hW (lv_sub hl [0, 1, 2] rfl) hF
def FX4_measureFrom_2 : Nat → Int32 → Int32 → Blk → Option Blk
  | 0 => fun _ _ _ => none
  | n + 1 => FX4_measureFrom_2s (FX4_measureFrom_2 n)
set_option maxRecDepth 100000 in
theorem wX4_measureFrom_2 {E : WE} {V : VT} {A : Nat → Prop} {H0 : Heap} {M : Mem} {j : Nat} (hj : j < 11) (Cx : CX E RX4 cX4_measureFrom 4 1 23) {B' : Blk} (hret : RetV E V A H0 cX4_measureFrom (jb M j B')) : ∀ (n : Nat) {H : Heap} {locs : List Loc} {ls : Array Slot} {l1 : Int32} {l2 : Int32} {B : Blk}, Wd V A H0 (jb M j B) (eS E) H locs → lv_has ls 4 [(0, .ref (vA V j 1)), (1, .int l1), (2, .int l2)] → FX4_measureFrom_2 n l1 l2 B = some B' → Wq E H locs 2 ls [] := by
  intro n
  induction n with
  | zero => intro _ _ _ _ _ _ hW hl hF; cases hF
  | succ n ih => intro _ _ _ _ _ _ hW hl hF; exact wX4_measureFrom_2s hj Cx hret ih hW hl hF
def FX4_measureFrom (B : Blk) (l1 : Int32) : Option Blk :=
  FX4_measureFrom_2 fu l1 (0 : Int32) B
set_option maxRecDepth 100000 in
set_option maxHeartbeats 4000000 in
theorem wX4_measureFrom {E : WE} {V : VT} {A : Nat → Prop} {H0 : Heap} {M : Mem} {j : Nat} (hj : j < 11) (Cx : CX E RX4 cX4_measureFrom 4 1 23) {B' : Blk} (hret : RetV E V A H0 cX4_measureFrom (jb M j B')) {H : Heap} {locs : List Loc} {ls : Array Slot} {l1 : Int32} {B : Blk} (hW : Wd V A H0 (jb M j B) (eS E) H locs) (hl : lv_has ls 4 [(0, .ref (vA V j 1)), (1, .int l1)]) (hF : FX4_measureFrom B l1 = some B') : Wq E H locs 0 ls [] := by
  unfold FX4_measureFrom at hF
  refine q_iconst (v := (0 : Int32)) Cx dX4_measureFrom_0 (by decide) ?_
  refine q_istore_n (lv' := [(2, .int (0 : Int32)), (0, .ref (vA V j 1)), (1, .int l1)]) Cx dX4_measureFrom_1 rfl hl (by decide) rfl (fun ls hl => ?_)
  exact wX4_measureFrom_2 hj Cx hret fu hW (lv_sub hl [1, 2, 0] rfl) hF
set_option maxRecDepth 100000 in
theorem kX4_measureFrom {l : Launch} {V : VT} {M : Mem} {j : Nat} (hj : j < 11) {B : Blk} {l1 : Int32} {B' : Blk} (hF : FX4_measureFrom B l1 = some B') : MetV l V yX4_measureFrom cX4_measureFrom 4 ({ frames := 1, cells := 0, slots := 0, locals := 23 } : Room) [.ref (vA V j 1), .int l1] (jb M j B) (jb M j B') := metV_of (by decide) (Nat.le_of_ble_eq_true rfl) (fun E H0 _ Cx hret H locs ls hW hl => wX4_measureFrom hj Cx hret hW hl hF)
theorem dX4_startOf_0 : decode cX4_startOf 0 = .ok (.aload_n 0, 1) := by decide +kernel
theorem dX4_startOf_1 : decode cX4_startOf 1 = .ok (.getfield 21, 3) := by decide +kernel
theorem dX4_startOf_4 : decode cX4_startOf 4 = .ok (.iload_n 1, 1) := by decide +kernel
theorem dX4_startOf_5 : decode cX4_startOf 5 = .ok (.iaload, 1) := by decide +kernel
theorem dX4_startOf_6 : decode cX4_startOf 6 = .ok (.aload_n 0, 1) := by decide +kernel
theorem dX4_startOf_7 : decode cX4_startOf 7 = .ok (.getfield 15, 3) := by decide +kernel
theorem dX4_startOf_10 : decode cX4_startOf 10 = .ok (.iload_n 1, 1) := by decide +kernel
theorem dX4_startOf_11 : decode cX4_startOf 11 = .ok (.iaload, 1) := by decide +kernel
theorem dX4_startOf_12 : decode cX4_startOf 12 = .ok (.isub, 1) := by decide +kernel
theorem dX4_startOf_13 : decode cX4_startOf 13 = .ok (.ireturn, 1) := by decide +kernel
theorem okX4_startOf : CalOK yX4_startOf cX4_startOf 2 (some .int) 1 := ⟨wd_69, wd_474, by decide +kernel⟩
theorem ovX4_startOf : VirOK yX4_startOf := ⟨wd_472, wd_473⟩
def FX4_startOf (B : Blk) (l1 : Int32) : Option Int32 :=
  ld (B 6) 24 l1 fun v1 =>
  ld (B 4) 24 l1 fun v4 =>
  some (v1 - v4)
set_option maxRecDepth 100000 in
set_option maxHeartbeats 4000000 in
theorem wX4_startOf {E : WE} {V : VT} {A : Nat → Prop} {H0 : Heap} {M : Mem} {j : Nat} (hj : j < 11) (Cx : CX E RX4 cX4_startOf 2 0 0) {r : Int32} {B : Blk} (hret : RetI E V A H0 cX4_startOf .int r (jb M j B)) {H : Heap} {locs : List Loc} {ls : Array Slot} {l1 : Int32} (hW : Wd V A H0 (jb M j B) (eS E) H locs) (hl : lv_has ls 2 [(0, .ref (vA V j 1)), (1, .int l1)]) (hF : FX4_startOf B l1 = some r) : Wq E H locs 0 ls [] := by
  unfold FX4_startOf at hF
  refine q_aload_n Cx dX4_startOf_0 rfl (lv_at hl 0 rfl) ?_
  refine q_get (v := .ref (vA V j 6)) Cx hW (oP hj) ic4 4 (by decide) rfl wd_105 dX4_startOf_1 ?_
  refine q_iload_n Cx dX4_startOf_4 rfl (lv_at hl 1 rfl) ?_
  obtain ⟨h2, v1, e3, hF⟩ := ld_some hF
  refine qb_iald Cx hW (ai_6 hj) h2 e3 dX4_startOf_5 ?_
  refine q_aload_n Cx dX4_startOf_6 rfl (lv_at hl 0 rfl) ?_
  refine q_get (v := .ref (vA V j 4)) Cx hW (oP hj) ic4 2 (by decide) rfl wd_101 dX4_startOf_7 ?_
  refine q_iload_n Cx dX4_startOf_10 rfl (lv_at hl 1 rfl) ?_
  obtain ⟨h5, v4, e6, hF⟩ := ld_some hF
  refine qb_iald Cx hW (ai_4 hj) h5 e6 dX4_startOf_11 ?_
  refine q_isub Cx dX4_startOf_12 ?_
  cases hF
  exact hret _ _ _ _ dX4_startOf_13 (nI32 _) hW
set_option maxRecDepth 100000 in
theorem kX4_startOf {l : Launch} {V : VT} {M : Mem} {j : Nat} (hj : j < 11) {B : Blk} {l1 : Int32} {r : Int32} (hF : FX4_startOf B l1 = some r) : MetI l V yX4_startOf cX4_startOf 2 .int ({ frames := 0, cells := 0, slots := 0, locals := 0 } : Room) [.ref (vA V j 1), .int l1] r (jb M j B) (jb M j B) := metI_of (by decide) (Nat.le_of_ble_eq_true rfl) (fun E H0 _ Cx hret H locs ls hW hl => wX4_startOf hj Cx hret hW hl hF)
theorem dX4_inFrontOf_0 : decode cX4_inFrontOf 0 = .ok (.aload_n 0, 1) := by decide +kernel
theorem dX4_inFrontOf_1 : decode cX4_inFrontOf 1 = .ok (.aload_n 0, 1) := by decide +kernel
theorem dX4_inFrontOf_2 : decode cX4_inFrontOf 2 = .ok (.getfield 9, 3) := by decide +kernel
theorem dX4_inFrontOf_5 : decode cX4_inFrontOf 5 = .ok (.iload_n 1, 1) := by decide +kernel
theorem dX4_inFrontOf_6 : decode cX4_inFrontOf 6 = .ok (.iaload, 1) := by decide +kernel
theorem dX4_inFrontOf_7 : decode cX4_inFrontOf 7 = .ok (.aload_n 0, 1) := by decide +kernel
theorem dX4_inFrontOf_8 : decode cX4_inFrontOf 8 = .ok (.iload_n 1, 1) := by decide +kernel
theorem dX4_inFrontOf_9 : decode cX4_inFrontOf 9 = .ok (.invokevirtual 53, 3) := by decide +kernel
theorem dX4_inFrontOf_12 : decode cX4_inFrontOf 12 = .ok (.iconst 1, 1) := by decide +kernel
theorem dX4_inFrontOf_13 : decode cX4_inFrontOf 13 = .ok (.isub, 1) := by decide +kernel
theorem dX4_inFrontOf_14 : decode cX4_inFrontOf 14 = .ok (.invokevirtual 49, 3) := by decide +kernel
theorem dX4_inFrontOf_17 : decode cX4_inFrontOf 17 = .ok (.ireturn, 1) := by decide +kernel
theorem okX4_inFrontOf : CalOK yX4_inFrontOf cX4_inFrontOf 2 (some .int) 1 := ⟨wd_69, wd_487, by decide +kernel⟩
theorem ovX4_inFrontOf : VirOK yX4_inFrontOf := ⟨wd_485, wd_486⟩
def FX4_inFrontOf (B : Blk) (l1 : Int32) : Option Int32 :=
  ld (B 3) 24 l1 fun v1 =>
  c1 (FX4_placeOf B l1) fun r4 =>
  c1 (FX4_inRow B v1 (r4 - (1 : Int32))) fun r6 =>
  some r6
set_option maxRecDepth 100000 in
set_option maxHeartbeats 4000000 in
theorem wX4_inFrontOf {E : WE} {V : VT} {A : Nat → Prop} {H0 : Heap} {M : Mem} {j : Nat} (hj : j < 11) (Cx : CX E RX4 cX4_inFrontOf 2 2 45) {r : Int32} {B : Blk} (hret : RetI E V A H0 cX4_inFrontOf .int r (jb M j B)) {H : Heap} {locs : List Loc} {ls : Array Slot} {l1 : Int32} (hW : Wd V A H0 (jb M j B) (eS E) H locs) (hl : lv_has ls 2 [(0, .ref (vA V j 1)), (1, .int l1)]) (hF : FX4_inFrontOf B l1 = some r) : Wq E H locs 0 ls [] := by
  unfold FX4_inFrontOf at hF
  refine q_aload_n Cx dX4_inFrontOf_0 rfl (lv_at hl 0 rfl) ?_
  refine q_aload_n Cx dX4_inFrontOf_1 rfl (lv_at hl 0 rfl) ?_
  refine q_get (v := .ref (vA V j 3)) Cx hW (oP hj) ic4 1 (by decide) rfl wd_99 dX4_inFrontOf_2 ?_
  refine q_iload_n Cx dX4_inFrontOf_5 rfl (lv_at hl 1 rfl) ?_
  obtain ⟨h2, v1, e3, hF⟩ := ld_some hF
  refine qb_iald Cx hW (ai_3 hj) h2 e3 dX4_inFrontOf_6 ?_
  refine q_aload_n Cx dX4_inFrontOf_7 rfl (lv_at hl 0 rfl) ?_
  refine q_iload_n Cx dX4_inFrontOf_8 rfl (lv_at hl 1 rfl) ?_
  obtain ⟨r4, e5, hF⟩ := c1_some hF
  refine q_callI (as := [.int l1]) (rest := [.int v1, .ref (vA V j 1)]) Cx (kX4_placeOf hj e5) okX4_placeOf ovX4_placeOf wd_361 ⟨rfl, rfl, by decide, by decide⟩ hW (oP hj) ic4 rfl hl.1 (Nat.le_of_ble_eq_true rfl) rfl dX4_inFrontOf_9 (fun H locs hW => ?_)
  refine q_iconst (v := (1 : Int32)) Cx dX4_inFrontOf_12 (by decide) ?_
  refine q_isub Cx dX4_inFrontOf_13 ?_
  obtain ⟨r6, e7, hF⟩ := c1_some hF
  refine q_callI (as := [.int v1, .int (r4 - (1 : Int32))]) (rest := []) Cx (kX4_inRow hj e7) okX4_inRow ovX4_inRow wd_325 ⟨rfl, rfl, by decide, by decide⟩ hW (oP hj) ic4 rfl hl.1 (Nat.le_of_ble_eq_true rfl) rfl dX4_inFrontOf_14 (fun H locs hW => ?_)
  cases hF
  exact hret _ _ _ _ dX4_inFrontOf_17 (nI32 _) hW
set_option maxRecDepth 100000 in
theorem kX4_inFrontOf {l : Launch} {V : VT} {M : Mem} {j : Nat} (hj : j < 11) {B : Blk} {l1 : Int32} {r : Int32} (hF : FX4_inFrontOf B l1 = some r) : MetI l V yX4_inFrontOf cX4_inFrontOf 2 .int ({ frames := 2, cells := 0, slots := 0, locals := 45 } : Room) [.ref (vA V j 1), .int l1] r (jb M j B) (jb M j B) := metI_of (by decide) (Nat.le_of_ble_eq_true rfl) (fun E H0 _ Cx hret H locs ls hW hl => wX4_inFrontOf hj Cx hret hW hl hF)
theorem dX4_followersOf_0 : decode cX4_followersOf 0 = .ok (.aload_n 0, 1) := by decide +kernel
theorem dX4_followersOf_1 : decode cX4_followersOf 1 = .ok (.aload_n 0, 1) := by decide +kernel
theorem dX4_followersOf_2 : decode cX4_followersOf 2 = .ok (.getfield 9, 3) := by decide +kernel
theorem dX4_followersOf_5 : decode cX4_followersOf 5 = .ok (.iload_n 1, 1) := by decide +kernel
theorem dX4_followersOf_6 : decode cX4_followersOf 6 = .ok (.iaload, 1) := by decide +kernel
theorem dX4_followersOf_7 : decode cX4_followersOf 7 = .ok (.aload_n 0, 1) := by decide +kernel
theorem dX4_followersOf_8 : decode cX4_followersOf 8 = .ok (.iload_n 1, 1) := by decide +kernel
theorem dX4_followersOf_9 : decode cX4_followersOf 9 = .ok (.invokevirtual 53, 3) := by decide +kernel
theorem dX4_followersOf_12 : decode cX4_followersOf 12 = .ok (.iconst 1, 1) := by decide +kernel
theorem dX4_followersOf_13 : decode cX4_followersOf 13 = .ok (.iadd, 1) := by decide +kernel
theorem dX4_followersOf_14 : decode cX4_followersOf 14 = .ok (.invokevirtual 49, 3) := by decide +kernel
theorem dX4_followersOf_17 : decode cX4_followersOf 17 = .ok (.istore_n 2, 1) := by decide +kernel
theorem dX4_followersOf_18 : decode cX4_followersOf 18 = .ok (.aload_n 0, 1) := by decide +kernel
theorem dX4_followersOf_19 : decode cX4_followersOf 19 = .ok (.iload_n 2, 1) := by decide +kernel
theorem dX4_followersOf_20 : decode cX4_followersOf 20 = .ok (.invokevirtual 68, 3) := by decide +kernel
theorem dX4_followersOf_23 : decode cX4_followersOf 23 = .ok (.ifCond .eq 9, 3) := by decide +kernel
theorem dX4_followersOf_26 : decode cX4_followersOf 26 = .ok (.iconst 1, 1) := by decide +kernel
theorem dX4_followersOf_27 : decode cX4_followersOf 27 = .ok (.iload_n 2, 1) := by decide +kernel
theorem dX4_followersOf_28 : decode cX4_followersOf 28 = .ok (.ishl, 1) := by decide +kernel
theorem dX4_followersOf_29 : decode cX4_followersOf 29 = .ok (.goto 4, 3) := by decide +kernel
theorem dX4_followersOf_32 : decode cX4_followersOf 32 = .ok (.iconst 0, 1) := by decide +kernel
theorem dX4_followersOf_33 : decode cX4_followersOf 33 = .ok (.istore_n 3, 1) := by decide +kernel
theorem dX4_followersOf_34 : decode cX4_followersOf 34 = .ok (.iconst 0, 1) := by decide +kernel
theorem dX4_followersOf_35 : decode cX4_followersOf 35 = .ok (.istore 4, 2) := by decide +kernel
theorem dX4_followersOf_37 : decode cX4_followersOf 37 = .ok (.iload 4, 2) := by decide +kernel
theorem dX4_followersOf_39 : decode cX4_followersOf 39 = .ok (.aload_n 0, 1) := by decide +kernel
theorem dX4_followersOf_40 : decode cX4_followersOf 40 = .ok (.getfield 39, 3) := by decide +kernel
theorem dX4_followersOf_43 : decode cX4_followersOf 43 = .ok (.if_icmp .ge 27, 3) := by decide +kernel
theorem dX4_followersOf_46 : decode cX4_followersOf 46 = .ok (.aload_n 0, 1) := by decide +kernel
theorem dX4_followersOf_47 : decode cX4_followersOf 47 = .ok (.getfield 18, 3) := by decide +kernel
theorem dX4_followersOf_50 : decode cX4_followersOf 50 = .ok (.iload 4, 2) := by decide +kernel
theorem dX4_followersOf_52 : decode cX4_followersOf 52 = .ok (.iaload, 1) := by decide +kernel
theorem dX4_followersOf_53 : decode cX4_followersOf 53 = .ok (.iload_n 1, 1) := by decide +kernel
theorem dX4_followersOf_54 : decode cX4_followersOf 54 = .ok (.if_icmp .ne 10, 3) := by decide +kernel
theorem dX4_followersOf_57 : decode cX4_followersOf 57 = .ok (.iload_n 3, 1) := by decide +kernel
theorem dX4_followersOf_58 : decode cX4_followersOf 58 = .ok (.iconst 1, 1) := by decide +kernel
theorem dX4_followersOf_59 : decode cX4_followersOf 59 = .ok (.iload 4, 2) := by decide +kernel
theorem dX4_followersOf_61 : decode cX4_followersOf 61 = .ok (.ishl, 1) := by decide +kernel
theorem dX4_followersOf_62 : decode cX4_followersOf 62 = .ok (.ior, 1) := by decide +kernel
theorem dX4_followersOf_63 : decode cX4_followersOf 63 = .ok (.istore_n 3, 1) := by decide +kernel
theorem dX4_followersOf_64 : decode cX4_followersOf 64 = .ok (.iinc 4 1, 3) := by decide +kernel
theorem dX4_followersOf_67 : decode cX4_followersOf 67 = .ok (.goto (-30), 3) := by decide +kernel
theorem dX4_followersOf_70 : decode cX4_followersOf 70 = .ok (.iload_n 3, 1) := by decide +kernel
theorem dX4_followersOf_71 : decode cX4_followersOf 71 = .ok (.ireturn, 1) := by decide +kernel
theorem okX4_followersOf : CalOK yX4_followersOf cX4_followersOf 5 (some .int) 1 := ⟨wd_69, wd_503, by decide +kernel⟩
theorem ovX4_followersOf : VirOK yX4_followersOf := ⟨wd_501, wd_502⟩
def FX4_followersOf_37s (B : Blk) (k37 : Int32 → Int32 → Int32 → Option Int32) (l1 : Int32) (l3 : Int32) (l4 : Int32) : Option Int32 :=
  if ((B 1) 0) ≤ l4 then
    some l3
  else
    ld (B 5) 24 l4 fun v12 =>
    if v12 = l1 then
      lt1 (l3 ||| ((1 : Int32) <<< (l4 &&& 31))) fun x18 =>
      lt1 (l4 + (1 : Int32)) fun x20 =>
      k37 l1 x18 x20
    else
      lt1 (l4 + (1 : Int32)) fun x16 =>
      k37 l1 l3 x16
set_option maxRecDepth 100000 in
set_option maxHeartbeats 4000000 in
theorem wX4_followersOf_37s {E : WE} {V : VT} {A : Nat → Prop} {H0 : Heap} {M : Mem} {j : Nat} (hj : j < 11) (Cx : CX E RX4 cX4_followersOf 5 2 45) {r : Int32} {B : Blk} (hret : RetI E V A H0 cX4_followersOf .int r (jb M j B)) {k37 : Int32 → Int32 → Int32 → Option Int32} (hk37 : ∀ {H : Heap} {locs : List Loc} {ls : Array Slot} {l1 : Int32} {l3 : Int32} {l4 : Int32}, Wd V A H0 (jb M j B) (eS E) H locs → lv_has ls 5 [(0, .ref (vA V j 1)), (1, .int l1), (3, .int l3), (4, .int l4)] → k37 l1 l3 l4 = some r → Wq E H locs 37 ls []) {H : Heap} {locs : List Loc} {ls : Array Slot} {l1 : Int32} {l3 : Int32} {l4 : Int32} (hW : Wd V A H0 (jb M j B) (eS E) H locs) (hl : lv_has ls 5 [(0, .ref (vA V j 1)), (1, .int l1), (3, .int l3), (4, .int l4)]) (hF : FX4_followersOf_37s B k37 l1 l3 l4 = some r) : Wq E H locs 37 ls [] := by
  unfold FX4_followersOf_37s at hF
  refine q_iload Cx dX4_followersOf_37 (lv_at hl 3 rfl) ?_
  refine q_aload_n Cx dX4_followersOf_39 rfl (lv_at hl 0 rfl) ?_
  refine qb_get (v := .int ((B 1) 0)) Cx hW (oP hj) ic4 0 (by decide) rfl wd_96 dX4_followersOf_40 ?_
  refine q_icmp_ge (tgt := 70) Cx dX4_followersOf_43 (by decide) (fun c11 => ?_) (fun c11 => ?_)
  · have hF := (if_pos c11).symm.trans hF
    refine q_iload_n Cx dX4_followersOf_70 rfl (lv_at hl 2 rfl) ?_
    cases hF
    exact hret _ _ _ _ dX4_followersOf_71 (nI32 _) hW
  · have hF := (if_neg c11).symm.trans hF
    refine q_aload_n Cx dX4_followersOf_46 rfl (lv_at hl 0 rfl) ?_
    refine q_get (v := .ref (vA V j 5)) Cx hW (oP hj) ic4 3 (by decide) rfl wd_103 dX4_followersOf_47 ?_
    refine q_iload Cx dX4_followersOf_50 (lv_at hl 3 rfl) ?_
    obtain ⟨h13, v12, e14, hF⟩ := ld_some hF
    refine qb_iald Cx hW (ai_5 hj) h13 e14 dX4_followersOf_52 ?_
    refine q_iload_n Cx dX4_followersOf_53 rfl (lv_at hl 1 rfl) ?_
    refine q_icmp_ne (tgt := 64) Cx dX4_followersOf_54 (by decide) (fun c15 => ?_) (fun c15 => ?_)
    · have hF := (if_neg c15).symm.trans hF
      obtain ⟨x16, e17, hF⟩ := lt1_some hF
      refine q_iinc (k := 3) (v := x16) (lv' := [(4, .int x16), (0, .ref (vA V j 1)), (1, .int l1), (3, .int l3)]) Cx dX4_followersOf_64 hl rfl e17.symm (by decide) rfl (fun ls hl => ?_)
      refine q_goto (tgt := 37) Cx dX4_followersOf_67 (by decide) ?_
      exact hk37 hW (lv_sub hl [1, 2, 3, 0] rfl) hF
    · have hF := (if_pos c15).symm.trans hF
      refine q_iload_n Cx dX4_followersOf_57 rfl (lv_at hl 2 rfl) ?_
      refine q_iconst (v := (1 : Int32)) Cx dX4_followersOf_58 (by decide) ?_
      refine q_iload Cx dX4_followersOf_59 (lv_at hl 3 rfl) ?_
      refine q_ishl Cx dX4_followersOf_61 ?_
      refine q_ior Cx dX4_followersOf_62 ?_
      obtain ⟨x18, e19, hF⟩ := lt1_some hF
      refine q_topi e19 ?_
      refine q_istore_n (lv' := [(3, .int x18), (0, .ref (vA V j 1)), (1, .int l1), (4, .int l4)]) Cx dX4_followersOf_63 rfl hl (by decide) rfl (fun ls hl => ?_)
      obtain ⟨x20, e21, hF⟩ := lt1_some hF
      refine q_iinc (k := 3) (v := x20) (lv' := [(4, .int x20), (3, .int x18), (0, .ref (vA V j 1)), (1, .int l1)]) Cx dX4_followersOf_64 hl rfl e21.symm (by decide) rfl (fun ls hl => ?_)
      refine q_goto (tgt := 37) Cx dX4_followersOf_67 (by decide) ?_
      exact hk37 hW (lv_sub hl [2, 3, 1, 0] rfl) hF
def FX4_followersOf_37 (B : Blk) : Nat → Int32 → Int32 → Int32 → Option Int32
  | 0 => fun _ _ _ => none
  | n + 1 => FX4_followersOf_37s B (FX4_followersOf_37 B n)
set_option maxRecDepth 100000 in
theorem wX4_followersOf_37 {E : WE} {V : VT} {A : Nat → Prop} {H0 : Heap} {M : Mem} {j : Nat} (hj : j < 11) (Cx : CX E RX4 cX4_followersOf 5 2 45) {r : Int32} {B : Blk} (hret : RetI E V A H0 cX4_followersOf .int r (jb M j B)) : ∀ (n : Nat) {H : Heap} {locs : List Loc} {ls : Array Slot} {l1 : Int32} {l3 : Int32} {l4 : Int32}, Wd V A H0 (jb M j B) (eS E) H locs → lv_has ls 5 [(0, .ref (vA V j 1)), (1, .int l1), (3, .int l3), (4, .int l4)] → FX4_followersOf_37 B n l1 l3 l4 = some r → Wq E H locs 37 ls [] := by
  intro n
  induction n with
  | zero => intro _ _ _ _ _ _ hW hl hF; cases hF
  | succ n ih => intro _ _ _ _ _ _ hW hl hF; exact wX4_followersOf_37s hj Cx hret ih hW hl hF
def FX4_followersOf (B : Blk) (l1 : Int32) : Option Int32 :=
  ld (B 3) 24 l1 fun v1 =>
  c1 (FX4_placeOf B l1) fun r4 =>
  c1 (FX4_inRow B v1 (r4 + (1 : Int32))) fun r6 =>
  c1 (FX4_has B r6) fun r8 =>
  if r8 = 0 then
    FX4_followersOf_37 B fu l1 (0 : Int32) (0 : Int32)
  else
    lt1 ((1 : Int32) <<< (r6 &&& 31)) fun x22 =>
    FX4_followersOf_37 B fu l1 x22 (0 : Int32)
set_option maxRecDepth 100000 in
set_option maxHeartbeats 4000000 in
theorem wX4_followersOf {E : WE} {V : VT} {A : Nat → Prop} {H0 : Heap} {M : Mem} {j : Nat} (hj : j < 11) (Cx : CX E RX4 cX4_followersOf 5 2 45) {r : Int32} {B : Blk} (hret : RetI E V A H0 cX4_followersOf .int r (jb M j B)) {H : Heap} {locs : List Loc} {ls : Array Slot} {l1 : Int32} (hW : Wd V A H0 (jb M j B) (eS E) H locs) (hl : lv_has ls 5 [(0, .ref (vA V j 1)), (1, .int l1)]) (hF : FX4_followersOf B l1 = some r) : Wq E H locs 0 ls [] := by
  unfold FX4_followersOf at hF
  refine q_aload_n Cx dX4_followersOf_0 rfl (lv_at hl 0 rfl) ?_
  refine q_aload_n Cx dX4_followersOf_1 rfl (lv_at hl 0 rfl) ?_
  refine q_get (v := .ref (vA V j 3)) Cx hW (oP hj) ic4 1 (by decide) rfl wd_99 dX4_followersOf_2 ?_
  refine q_iload_n Cx dX4_followersOf_5 rfl (lv_at hl 1 rfl) ?_
  obtain ⟨h2, v1, e3, hF⟩ := ld_some hF
  refine qb_iald Cx hW (ai_3 hj) h2 e3 dX4_followersOf_6 ?_
  refine q_aload_n Cx dX4_followersOf_7 rfl (lv_at hl 0 rfl) ?_
  refine q_iload_n Cx dX4_followersOf_8 rfl (lv_at hl 1 rfl) ?_
  obtain ⟨r4, e5, hF⟩ := c1_some hF
  refine q_callI (as := [.int l1]) (rest := [.int v1, .ref (vA V j 1)]) Cx (kX4_placeOf hj e5) okX4_placeOf ovX4_placeOf wd_361 ⟨rfl, rfl, by decide, by decide⟩ hW (oP hj) ic4 rfl hl.1 (Nat.le_of_ble_eq_true rfl) rfl dX4_followersOf_9 (fun H locs hW => ?_)
  refine q_iconst (v := (1 : Int32)) Cx dX4_followersOf_12 (by decide) ?_
  refine q_iadd Cx dX4_followersOf_13 ?_
  obtain ⟨r6, e7, hF⟩ := c1_some hF
  refine q_callI (as := [.int v1, .int (r4 + (1 : Int32))]) (rest := []) Cx (kX4_inRow hj e7) okX4_inRow ovX4_inRow wd_325 ⟨rfl, rfl, by decide, by decide⟩ hW (oP hj) ic4 rfl hl.1 (Nat.le_of_ble_eq_true rfl) rfl dX4_followersOf_14 (fun H locs hW => ?_)
  refine q_istore_n (lv' := [(2, .int r6), (0, .ref (vA V j 1)), (1, .int l1)]) Cx dX4_followersOf_17 rfl hl (by decide) rfl (fun ls hl => ?_)
  refine q_aload_n Cx dX4_followersOf_18 rfl (lv_at hl 1 rfl) ?_
  refine q_iload_n Cx dX4_followersOf_19 rfl (lv_at hl 0 rfl) ?_
  obtain ⟨r8, e9, hF⟩ := c1_some hF
  refine q_callI (as := [.int r6]) (rest := []) Cx (kX4_has hj e9) okX4_has ovX4_has wd_333 ⟨rfl, rfl, by decide, by decide⟩ hW (oP hj) ic4 rfl hl.1 (Nat.le_of_ble_eq_true rfl) rfl dX4_followersOf_20 (fun H locs hW => ?_)
  refine q_if_eq (tgt := 32) Cx dX4_followersOf_23 (by decide) (fun c10 => ?_) (fun c10 => ?_)
  · have hF := (if_pos c10).symm.trans hF
    refine q_iconst (v := (0 : Int32)) Cx dX4_followersOf_32 (by decide) ?_
    refine q_istore_n (lv' := [(3, .int (0 : Int32)), (2, .int r6), (0, .ref (vA V j 1)), (1, .int l1)]) Cx dX4_followersOf_33 rfl hl (by decide) rfl (fun ls hl => ?_)
    refine q_iconst (v := (0 : Int32)) Cx dX4_followersOf_34 (by decide) ?_
    refine q_istore (lv' := [(4, .int (0 : Int32)), (3, .int (0 : Int32)), (2, .int r6), (0, .ref (vA V j 1)), (1, .int l1)]) Cx dX4_followersOf_35 hl (by decide) rfl (fun ls hl => ?_)
    exact wX4_followersOf_37 hj Cx hret fu hW (lv_sub hl [3, 4, 1, 0] rfl) hF
  · have hF := (if_neg c10).symm.trans hF
    refine q_iconst (v := (1 : Int32)) Cx dX4_followersOf_26 (by decide) ?_
    refine q_iload_n Cx dX4_followersOf_27 rfl (lv_at hl 0 rfl) ?_
    refine q_ishl Cx dX4_followersOf_28 ?_
    refine q_goto (tgt := 33) Cx dX4_followersOf_29 (by decide) ?_
    obtain ⟨x22, e23, hF⟩ := lt1_some hF
    refine q_topi e23 ?_
    refine q_istore_n (lv' := [(3, .int x22), (2, .int r6), (0, .ref (vA V j 1)), (1, .int l1)]) Cx dX4_followersOf_33 rfl hl (by decide) rfl (fun ls hl => ?_)
    refine q_iconst (v := (0 : Int32)) Cx dX4_followersOf_34 (by decide) ?_
    refine q_istore (lv' := [(4, .int (0 : Int32)), (3, .int x22), (2, .int r6), (0, .ref (vA V j 1)), (1, .int l1)]) Cx dX4_followersOf_35 hl (by decide) rfl (fun ls hl => ?_)
    exact wX4_followersOf_37 hj Cx hret fu hW (lv_sub hl [3, 4, 1, 0] rfl) hF
set_option maxRecDepth 100000 in
theorem kX4_followersOf {l : Launch} {V : VT} {M : Mem} {j : Nat} (hj : j < 11) {B : Blk} {l1 : Int32} {r : Int32} (hF : FX4_followersOf B l1 = some r) : MetI l V yX4_followersOf cX4_followersOf 5 .int ({ frames := 2, cells := 0, slots := 0, locals := 45 } : Room) [.ref (vA V j 1), .int l1] r (jb M j B) (jb M j B) := metI_of (by decide) (Nat.le_of_ble_eq_true rfl) (fun E H0 _ Cx hret H locs ls hW hl => wX4_followersOf hj Cx hret hW hl hF)
theorem dX4_endOfAll_0 : decode cX4_endOfAll 0 = .ok (.iconst 0, 1) := by decide +kernel
theorem dX4_endOfAll_1 : decode cX4_endOfAll 1 = .ok (.istore_n 1, 1) := by decide +kernel
theorem dX4_endOfAll_2 : decode cX4_endOfAll 2 = .ok (.iconst 0, 1) := by decide +kernel
theorem dX4_endOfAll_3 : decode cX4_endOfAll 3 = .ok (.istore_n 2, 1) := by decide +kernel
theorem dX4_endOfAll_4 : decode cX4_endOfAll 4 = .ok (.iload_n 2, 1) := by decide +kernel
theorem dX4_endOfAll_5 : decode cX4_endOfAll 5 = .ok (.aload_n 0, 1) := by decide +kernel
theorem dX4_endOfAll_6 : decode cX4_endOfAll 6 = .ok (.getfield 39, 3) := by decide +kernel
theorem dX4_endOfAll_9 : decode cX4_endOfAll 9 = .ok (.if_icmp .ge 20, 3) := by decide +kernel
theorem dX4_endOfAll_12 : decode cX4_endOfAll 12 = .ok (.iload_n 1, 1) := by decide +kernel
theorem dX4_endOfAll_13 : decode cX4_endOfAll 13 = .ok (.aload_n 0, 1) := by decide +kernel
theorem dX4_endOfAll_14 : decode cX4_endOfAll 14 = .ok (.getfield 21, 3) := by decide +kernel
theorem dX4_endOfAll_17 : decode cX4_endOfAll 17 = .ok (.iload_n 2, 1) := by decide +kernel
theorem dX4_endOfAll_18 : decode cX4_endOfAll 18 = .ok (.iaload, 1) := by decide +kernel
theorem dX4_endOfAll_19 : decode cX4_endOfAll 19 = .ok (.invokestatic 57, 3) := by decide +kernel
theorem dX4_endOfAll_22 : decode cX4_endOfAll 22 = .ok (.istore_n 1, 1) := by decide +kernel
theorem dX4_endOfAll_23 : decode cX4_endOfAll 23 = .ok (.iinc 2 1, 3) := by decide +kernel
theorem dX4_endOfAll_26 : decode cX4_endOfAll 26 = .ok (.goto (-22), 3) := by decide +kernel
theorem dX4_endOfAll_29 : decode cX4_endOfAll 29 = .ok (.iload_n 1, 1) := by decide +kernel
theorem dX4_endOfAll_30 : decode cX4_endOfAll 30 = .ok (.ireturn, 1) := by decide +kernel
theorem okX4_endOfAll : CalOK yX4_endOfAll cX4_endOfAll 3 (some .int) 0 := ⟨wd_69, wd_547, by decide +kernel⟩
theorem ovX4_endOfAll : VirOK yX4_endOfAll := ⟨wd_545, wd_546⟩
def FX4_endOfAll_4s (B : Blk) (k4 : Int32 → Int32 → Option Int32) (l1 : Int32) (l2 : Int32) : Option Int32 :=
  if ((B 1) 0) ≤ l2 then
    some l1
  else
    ld (B 6) 24 l2 fun v2 =>
    lt1 (if l1 < v2 then v2 else l1) fun x5 =>
    lt1 (l2 + (1 : Int32)) fun x7 =>
    k4 x5 x7
set_option maxRecDepth 100000 in
set_option maxHeartbeats 4000000 in
theorem wX4_endOfAll_4s {E : WE} {V : VT} {A : Nat → Prop} {H0 : Heap} {M : Mem} {j : Nat} (hj : j < 11) (Cx : CX E RX4 cX4_endOfAll 3 1 40) {r : Int32} {B : Blk} (hret : RetI E V A H0 cX4_endOfAll .int r (jb M j B)) {k4 : Int32 → Int32 → Option Int32} (hk4 : ∀ {H : Heap} {locs : List Loc} {ls : Array Slot} {l1 : Int32} {l2 : Int32}, Wd V A H0 (jb M j B) (eS E) H locs → lv_has ls 3 [(0, .ref (vA V j 1)), (1, .int l1), (2, .int l2)] → k4 l1 l2 = some r → Wq E H locs 4 ls []) {H : Heap} {locs : List Loc} {ls : Array Slot} {l1 : Int32} {l2 : Int32} (hW : Wd V A H0 (jb M j B) (eS E) H locs) (hl : lv_has ls 3 [(0, .ref (vA V j 1)), (1, .int l1), (2, .int l2)]) (hF : FX4_endOfAll_4s B k4 l1 l2 = some r) : Wq E H locs 4 ls [] := by
  unfold FX4_endOfAll_4s at hF
  refine q_iload_n Cx dX4_endOfAll_4 rfl (lv_at hl 2 rfl) ?_
  refine q_aload_n Cx dX4_endOfAll_5 rfl (lv_at hl 0 rfl) ?_
  refine qb_get (v := .int ((B 1) 0)) Cx hW (oP hj) ic4 0 (by decide) rfl wd_96 dX4_endOfAll_6 ?_
  refine q_icmp_ge (tgt := 29) Cx dX4_endOfAll_9 (by decide) (fun c1 => ?_) (fun c1 => ?_)
  · have hF := (if_pos c1).symm.trans hF
    refine q_iload_n Cx dX4_endOfAll_29 rfl (lv_at hl 1 rfl) ?_
    cases hF
    exact hret _ _ _ _ dX4_endOfAll_30 (nI32 _) hW
  · have hF := (if_neg c1).symm.trans hF
    refine q_iload_n Cx dX4_endOfAll_12 rfl (lv_at hl 1 rfl) ?_
    refine q_aload_n Cx dX4_endOfAll_13 rfl (lv_at hl 0 rfl) ?_
    refine q_get (v := .ref (vA V j 6)) Cx hW (oP hj) ic4 4 (by decide) rfl wd_105 dX4_endOfAll_14 ?_
    refine q_iload_n Cx dX4_endOfAll_17 rfl (lv_at hl 2 rfl) ?_
    obtain ⟨h3, v2, e4, hF⟩ := ld_some hF
    refine qb_iald Cx hW (ai_6 hj) h3 e4 dX4_endOfAll_18 ?_
    obtain ⟨x5, e6, hF⟩ := lt1_some hF
    refine q_max Cx wd_334 wd_335 wd_75 wd_336 hl.1 (by decide) (Nat.le_of_ble_eq_true rfl) e6.symm dX4_endOfAll_19 ?_
    refine q_istore_n (lv' := [(1, .int x5), (0, .ref (vA V j 1)), (2, .int l2)]) Cx dX4_endOfAll_22 rfl hl (by decide) rfl (fun ls hl => ?_)
    obtain ⟨x7, e8, hF⟩ := lt1_some hF
    refine q_iinc (k := 2) (v := x7) (lv' := [(2, .int x7), (1, .int x5), (0, .ref (vA V j 1))]) Cx dX4_endOfAll_23 hl rfl e8.symm (by decide) rfl (fun ls hl => ?_)
    refine q_goto (tgt := 4) Cx dX4_endOfAll_26 (by decide) ?_
    exact hk4 hW (lv_sub hl [2, 1, 0] rfl) hF
def FX4_endOfAll_4 (B : Blk) : Nat → Int32 → Int32 → Option Int32
  | 0 => fun _ _ => none
  | n + 1 => FX4_endOfAll_4s B (FX4_endOfAll_4 B n)
set_option maxRecDepth 100000 in
theorem wX4_endOfAll_4 {E : WE} {V : VT} {A : Nat → Prop} {H0 : Heap} {M : Mem} {j : Nat} (hj : j < 11) (Cx : CX E RX4 cX4_endOfAll 3 1 40) {r : Int32} {B : Blk} (hret : RetI E V A H0 cX4_endOfAll .int r (jb M j B)) : ∀ (n : Nat) {H : Heap} {locs : List Loc} {ls : Array Slot} {l1 : Int32} {l2 : Int32}, Wd V A H0 (jb M j B) (eS E) H locs → lv_has ls 3 [(0, .ref (vA V j 1)), (1, .int l1), (2, .int l2)] → FX4_endOfAll_4 B n l1 l2 = some r → Wq E H locs 4 ls [] := by
  intro n
  induction n with
  | zero => intro _ _ _ _ _ hW hl hF; cases hF
  | succ n ih => intro _ _ _ _ _ hW hl hF; exact wX4_endOfAll_4s hj Cx hret ih hW hl hF
def FX4_endOfAll (B : Blk) : Option Int32 :=
  FX4_endOfAll_4 B fu (0 : Int32) (0 : Int32)
set_option maxRecDepth 100000 in
set_option maxHeartbeats 4000000 in
theorem wX4_endOfAll {E : WE} {V : VT} {A : Nat → Prop} {H0 : Heap} {M : Mem} {j : Nat} (hj : j < 11) (Cx : CX E RX4 cX4_endOfAll 3 1 40) {r : Int32} {B : Blk} (hret : RetI E V A H0 cX4_endOfAll .int r (jb M j B)) {H : Heap} {locs : List Loc} {ls : Array Slot} (hW : Wd V A H0 (jb M j B) (eS E) H locs) (hl : lv_has ls 3 [(0, .ref (vA V j 1))]) (hF : FX4_endOfAll B = some r) : Wq E H locs 0 ls [] := by
  unfold FX4_endOfAll at hF
  refine q_iconst (v := (0 : Int32)) Cx dX4_endOfAll_0 (by decide) ?_
  refine q_istore_n (lv' := [(1, .int (0 : Int32)), (0, .ref (vA V j 1))]) Cx dX4_endOfAll_1 rfl hl (by decide) rfl (fun ls hl => ?_)
  refine q_iconst (v := (0 : Int32)) Cx dX4_endOfAll_2 (by decide) ?_
  refine q_istore_n (lv' := [(2, .int (0 : Int32)), (1, .int (0 : Int32)), (0, .ref (vA V j 1))]) Cx dX4_endOfAll_3 rfl hl (by decide) rfl (fun ls hl => ?_)
  exact wX4_endOfAll_4 hj Cx hret fu hW (lv_sub hl [2, 1, 0] rfl) hF
set_option maxRecDepth 100000 in
theorem kX4_endOfAll {l : Launch} {V : VT} {M : Mem} {j : Nat} (hj : j < 11) {B : Blk} {r : Int32} (hF : FX4_endOfAll B = some r) : MetI l V yX4_endOfAll cX4_endOfAll 3 .int ({ frames := 1, cells := 0, slots := 0, locals := 40 } : Room) [.ref (vA V j 1)] r (jb M j B) (jb M j B) := metI_of (by decide) (Nat.le_of_ble_eq_true rfl) (fun E H0 _ Cx hret H locs ls hW hl => wX4_endOfAll hj Cx hret hW hl hF)
theorem dX4_waitedFor_0 : decode cX4_waitedFor 0 = .ok (.aload_n 0, 1) := by decide +kernel
theorem dX4_waitedFor_1 : decode cX4_waitedFor 1 = .ok (.iload_n 1, 1) := by decide +kernel
theorem dX4_waitedFor_2 : decode cX4_waitedFor 2 = .ok (.invokevirtual 79, 3) := by decide +kernel
theorem dX4_waitedFor_5 : decode cX4_waitedFor 5 = .ok (.istore_n 2, 1) := by decide +kernel
theorem dX4_waitedFor_6 : decode cX4_waitedFor 6 = .ok (.aload_n 0, 1) := by decide +kernel
theorem dX4_waitedFor_7 : decode cX4_waitedFor 7 = .ok (.iload_n 1, 1) := by decide +kernel
theorem dX4_waitedFor_8 : decode cX4_waitedFor 8 = .ok (.invokevirtual 82, 3) := by decide +kernel
theorem dX4_waitedFor_11 : decode cX4_waitedFor 11 = .ok (.istore_n 3, 1) := by decide +kernel
theorem dX4_waitedFor_12 : decode cX4_waitedFor 12 = .ok (.aload_n 0, 1) := by decide +kernel
theorem dX4_waitedFor_13 : decode cX4_waitedFor 13 = .ok (.getfield 18, 3) := by decide +kernel
theorem dX4_waitedFor_16 : decode cX4_waitedFor 16 = .ok (.iload_n 1, 1) := by decide +kernel
theorem dX4_waitedFor_17 : decode cX4_waitedFor 17 = .ok (.iaload, 1) := by decide +kernel
theorem dX4_waitedFor_18 : decode cX4_waitedFor 18 = .ok (.istore 4, 2) := by decide +kernel
theorem dX4_waitedFor_20 : decode cX4_waitedFor 20 = .ok (.aload_n 0, 1) := by decide +kernel
theorem dX4_waitedFor_21 : decode cX4_waitedFor 21 = .ok (.iload_n 3, 1) := by decide +kernel
theorem dX4_waitedFor_22 : decode cX4_waitedFor 22 = .ok (.invokevirtual 68, 3) := by decide +kernel
theorem dX4_waitedFor_25 : decode cX4_waitedFor 25 = .ok (.ifCond .eq 19, 3) := by decide +kernel
theorem dX4_waitedFor_28 : decode cX4_waitedFor 28 = .ok (.aload_n 0, 1) := by decide +kernel
theorem dX4_waitedFor_29 : decode cX4_waitedFor 29 = .ok (.getfield 21, 3) := by decide +kernel
theorem dX4_waitedFor_32 : decode cX4_waitedFor 32 = .ok (.iload_n 3, 1) := by decide +kernel
theorem dX4_waitedFor_33 : decode cX4_waitedFor 33 = .ok (.iaload, 1) := by decide +kernel
theorem dX4_waitedFor_34 : decode cX4_waitedFor 34 = .ok (.iload_n 2, 1) := by decide +kernel
theorem dX4_waitedFor_35 : decode cX4_waitedFor 35 = .ok (.if_icmp .ne 9, 3) := by decide +kernel
theorem dX4_waitedFor_38 : decode cX4_waitedFor 38 = .ok (.iconst 1, 1) := by decide +kernel
theorem dX4_waitedFor_39 : decode cX4_waitedFor 39 = .ok (.iload_n 3, 1) := by decide +kernel
theorem dX4_waitedFor_40 : decode cX4_waitedFor 40 = .ok (.ishl, 1) := by decide +kernel
theorem dX4_waitedFor_41 : decode cX4_waitedFor 41 = .ok (.goto 4, 3) := by decide +kernel
theorem dX4_waitedFor_44 : decode cX4_waitedFor 44 = .ok (.iconst 0, 1) := by decide +kernel
theorem dX4_waitedFor_45 : decode cX4_waitedFor 45 = .ok (.istore 5, 2) := by decide +kernel
theorem dX4_waitedFor_47 : decode cX4_waitedFor 47 = .ok (.aload_n 0, 1) := by decide +kernel
theorem dX4_waitedFor_48 : decode cX4_waitedFor 48 = .ok (.iload 4, 2) := by decide +kernel
theorem dX4_waitedFor_50 : decode cX4_waitedFor 50 = .ok (.invokevirtual 68, 3) := by decide +kernel
theorem dX4_waitedFor_53 : decode cX4_waitedFor 53 = .ok (.ifCond .eq 24, 3) := by decide +kernel
theorem dX4_waitedFor_56 : decode cX4_waitedFor 56 = .ok (.aload_n 0, 1) := by decide +kernel
theorem dX4_waitedFor_57 : decode cX4_waitedFor 57 = .ok (.getfield 21, 3) := by decide +kernel
theorem dX4_waitedFor_60 : decode cX4_waitedFor 60 = .ok (.iload 4, 2) := by decide +kernel
theorem dX4_waitedFor_62 : decode cX4_waitedFor 62 = .ok (.iaload, 1) := by decide +kernel
theorem dX4_waitedFor_63 : decode cX4_waitedFor 63 = .ok (.iload_n 2, 1) := by decide +kernel
theorem dX4_waitedFor_64 : decode cX4_waitedFor 64 = .ok (.if_icmp .ne 13, 3) := by decide +kernel
theorem dX4_waitedFor_67 : decode cX4_waitedFor 67 = .ok (.iload 5, 2) := by decide +kernel
theorem dX4_waitedFor_69 : decode cX4_waitedFor 69 = .ok (.iconst 1, 1) := by decide +kernel
theorem dX4_waitedFor_70 : decode cX4_waitedFor 70 = .ok (.iload 4, 2) := by decide +kernel
theorem dX4_waitedFor_72 : decode cX4_waitedFor 72 = .ok (.ishl, 1) := by decide +kernel
theorem dX4_waitedFor_73 : decode cX4_waitedFor 73 = .ok (.ior, 1) := by decide +kernel
theorem dX4_waitedFor_74 : decode cX4_waitedFor 74 = .ok (.goto 5, 3) := by decide +kernel
theorem dX4_waitedFor_77 : decode cX4_waitedFor 77 = .ok (.iload 5, 2) := by decide +kernel
theorem dX4_waitedFor_79 : decode cX4_waitedFor 79 = .ok (.ireturn, 1) := by decide +kernel
theorem okX4_waitedFor : CalOK yX4_waitedFor cX4_waitedFor 6 (some .int) 1 := ⟨wd_69, wd_603, by decide +kernel⟩
theorem ovX4_waitedFor : VirOK yX4_waitedFor := ⟨wd_602, wd_14⟩
def FX4_waitedFor_45 (B : Blk) (l2 : Int32) (l4 : Int32) (s0 : Int32) : Option Int32 :=
  c1 (FX4_has B l4) fun r11 =>
  if r11 = 0 then
    some s0
  else
    ld (B 6) 24 l4 fun v14 =>
    if v14 = l2 then
      some (s0 ||| ((1 : Int32) <<< (l4 &&& 31)))
    else
      some s0
set_option maxRecDepth 100000 in
set_option maxHeartbeats 4000000 in
theorem wX4_waitedFor_45 {E : WE} {V : VT} {A : Nat → Prop} {H0 : Heap} {M : Mem} {j : Nat} (hj : j < 11) (Cx : CX E RX4 cX4_waitedFor 6 3 66) {r : Int32} {B : Blk} (hret : RetI E V A H0 cX4_waitedFor .int r (jb M j B)) {H : Heap} {locs : List Loc} {ls : Array Slot} {l2 : Int32} {l4 : Int32} {s0 : Int32} (hW : Wd V A H0 (jb M j B) (eS E) H locs) (hl : lv_has ls 6 [(0, .ref (vA V j 1)), (2, .int l2), (4, .int l4)]) (hF : FX4_waitedFor_45 B l2 l4 s0 = some r) : Wq E H locs 45 ls [.int s0] := by
  unfold FX4_waitedFor_45 at hF
  refine q_istore (lv' := [(5, .int s0), (0, .ref (vA V j 1)), (2, .int l2), (4, .int l4)]) Cx dX4_waitedFor_45 hl (by decide) rfl (fun ls hl => ?_)
  refine q_aload_n Cx dX4_waitedFor_47 rfl (lv_at hl 1 rfl) ?_
  refine q_iload Cx dX4_waitedFor_48 (lv_at hl 3 rfl) ?_
  obtain ⟨r11, e12, hF⟩ := c1_some hF
  refine q_callI (as := [.int l4]) (rest := []) Cx (kX4_has hj e12) okX4_has ovX4_has wd_333 ⟨rfl, rfl, by decide, by decide⟩ hW (oP hj) ic4 rfl hl.1 (Nat.le_of_ble_eq_true rfl) rfl dX4_waitedFor_50 (fun H locs hW => ?_)
  refine q_if_eq (tgt := 77) Cx dX4_waitedFor_53 (by decide) (fun c13 => ?_) (fun c13 => ?_)
  · have hF := (if_pos c13).symm.trans hF
    refine q_iload Cx dX4_waitedFor_77 (lv_at hl 0 rfl) ?_
    cases hF
    exact hret _ _ _ _ dX4_waitedFor_79 (nI32 _) hW
  · have hF := (if_neg c13).symm.trans hF
    refine q_aload_n Cx dX4_waitedFor_56 rfl (lv_at hl 1 rfl) ?_
    refine q_get (v := .ref (vA V j 6)) Cx hW (oP hj) ic4 4 (by decide) rfl wd_105 dX4_waitedFor_57 ?_
    refine q_iload Cx dX4_waitedFor_60 (lv_at hl 3 rfl) ?_
    obtain ⟨h15, v14, e16, hF⟩ := ld_some hF
    refine qb_iald Cx hW (ai_6 hj) h15 e16 dX4_waitedFor_62 ?_
    refine q_iload_n Cx dX4_waitedFor_63 rfl (lv_at hl 2 rfl) ?_
    refine q_icmp_ne (tgt := 77) Cx dX4_waitedFor_64 (by decide) (fun c17 => ?_) (fun c17 => ?_)
    · have hF := (if_neg c17).symm.trans hF
      refine q_iload Cx dX4_waitedFor_77 (lv_at hl 0 rfl) ?_
      cases hF
      exact hret _ _ _ _ dX4_waitedFor_79 (nI32 _) hW
    · have hF := (if_pos c17).symm.trans hF
      refine q_iload Cx dX4_waitedFor_67 (lv_at hl 0 rfl) ?_
      refine q_iconst (v := (1 : Int32)) Cx dX4_waitedFor_69 (by decide) ?_
      refine q_iload Cx dX4_waitedFor_70 (lv_at hl 3 rfl) ?_
      refine q_ishl Cx dX4_waitedFor_72 ?_
      refine q_ior Cx dX4_waitedFor_73 ?_
      refine q_goto (tgt := 79) Cx dX4_waitedFor_74 (by decide) ?_
      cases hF
      exact hret _ _ _ _ dX4_waitedFor_79 (nI32 _) hW
def FX4_waitedFor_44 (B : Blk) (l2 : Int32) (l4 : Int32) : Option Int32 :=
  FX4_waitedFor_45 B l2 l4 (0 : Int32)
set_option maxRecDepth 100000 in
set_option maxHeartbeats 4000000 in
theorem wX4_waitedFor_44 {E : WE} {V : VT} {A : Nat → Prop} {H0 : Heap} {M : Mem} {j : Nat} (hj : j < 11) (Cx : CX E RX4 cX4_waitedFor 6 3 66) {r : Int32} {B : Blk} (hret : RetI E V A H0 cX4_waitedFor .int r (jb M j B)) {H : Heap} {locs : List Loc} {ls : Array Slot} {l2 : Int32} {l4 : Int32} (hW : Wd V A H0 (jb M j B) (eS E) H locs) (hl : lv_has ls 6 [(0, .ref (vA V j 1)), (2, .int l2), (4, .int l4)]) (hF : FX4_waitedFor_44 B l2 l4 = some r) : Wq E H locs 44 ls [] := by
  unfold FX4_waitedFor_44 at hF
  refine q_iconst (v := (0 : Int32)) Cx dX4_waitedFor_44 (by decide) ?_
  exact wX4_waitedFor_45 hj Cx hret hW (lv_sub hl [0, 1, 2] rfl) hF
def FX4_waitedFor (B : Blk) (l1 : Int32) : Option Int32 :=
  c1 (FX4_startOf B l1) fun r1 =>
  c1 (FX4_inFrontOf B l1) fun r3 =>
  ld (B 5) 24 l1 fun v5 =>
  c1 (FX4_has B r3) fun r8 =>
  if r8 = 0 then
    FX4_waitedFor_44 B r1 v5
  else
    ld (B 6) 24 r3 fun v18 =>
    if v18 = r1 then
      FX4_waitedFor_45 B r1 v5 ((1 : Int32) <<< (r3 &&& 31))
    else
      FX4_waitedFor_44 B r1 v5
set_option maxRecDepth 100000 in
set_option maxHeartbeats 4000000 in
theorem wX4_waitedFor {E : WE} {V : VT} {A : Nat → Prop} {H0 : Heap} {M : Mem} {j : Nat} (hj : j < 11) (Cx : CX E RX4 cX4_waitedFor 6 3 66) {r : Int32} {B : Blk} (hret : RetI E V A H0 cX4_waitedFor .int r (jb M j B)) {H : Heap} {locs : List Loc} {ls : Array Slot} {l1 : Int32} (hW : Wd V A H0 (jb M j B) (eS E) H locs) (hl : lv_has ls 6 [(0, .ref (vA V j 1)), (1, .int l1)]) (hF : FX4_waitedFor B l1 = some r) : Wq E H locs 0 ls [] := by
  unfold FX4_waitedFor at hF
  refine q_aload_n Cx dX4_waitedFor_0 rfl (lv_at hl 0 rfl) ?_
  refine q_iload_n Cx dX4_waitedFor_1 rfl (lv_at hl 1 rfl) ?_
  obtain ⟨r1, e2, hF⟩ := c1_some hF
  refine q_callI (as := [.int l1]) (rest := []) Cx (kX4_startOf hj e2) okX4_startOf ovX4_startOf wd_604 ⟨rfl, rfl, by decide, by decide⟩ hW (oP hj) ic4 rfl hl.1 (Nat.le_of_ble_eq_true rfl) rfl dX4_waitedFor_2 (fun H locs hW => ?_)
  refine q_istore_n (lv' := [(2, .int r1), (0, .ref (vA V j 1)), (1, .int l1)]) Cx dX4_waitedFor_5 rfl hl (by decide) rfl (fun ls hl => ?_)
  refine q_aload_n Cx dX4_waitedFor_6 rfl (lv_at hl 1 rfl) ?_
  refine q_iload_n Cx dX4_waitedFor_7 rfl (lv_at hl 2 rfl) ?_
  obtain ⟨r3, e4, hF⟩ := c1_some hF
  refine q_callI (as := [.int l1]) (rest := []) Cx (kX4_inFrontOf hj e4) okX4_inFrontOf ovX4_inFrontOf wd_605 ⟨rfl, rfl, by decide, by decide⟩ hW (oP hj) ic4 rfl hl.1 (Nat.le_of_ble_eq_true rfl) rfl dX4_waitedFor_8 (fun H locs hW => ?_)
  refine q_istore_n (lv' := [(3, .int r3), (2, .int r1), (0, .ref (vA V j 1)), (1, .int l1)]) Cx dX4_waitedFor_11 rfl hl (by decide) rfl (fun ls hl => ?_)
  refine q_aload_n Cx dX4_waitedFor_12 rfl (lv_at hl 2 rfl) ?_
  refine q_get (v := .ref (vA V j 5)) Cx hW (oP hj) ic4 3 (by decide) rfl wd_103 dX4_waitedFor_13 ?_
  refine q_iload_n Cx dX4_waitedFor_16 rfl (lv_at hl 3 rfl) ?_
  obtain ⟨h6, v5, e7, hF⟩ := ld_some hF
  refine qb_iald Cx hW (ai_5 hj) h6 e7 dX4_waitedFor_17 ?_
  refine q_istore (lv' := [(4, .int v5), (3, .int r3), (2, .int r1), (0, .ref (vA V j 1)), (1, .int l1)]) Cx dX4_waitedFor_18 hl (by decide) rfl (fun ls hl => ?_)
  refine q_aload_n Cx dX4_waitedFor_20 rfl (lv_at hl 3 rfl) ?_
  refine q_iload_n Cx dX4_waitedFor_21 rfl (lv_at hl 1 rfl) ?_
  obtain ⟨r8, e9, hF⟩ := c1_some hF
  refine q_callI (as := [.int r3]) (rest := []) Cx (kX4_has hj e9) okX4_has ovX4_has wd_333 ⟨rfl, rfl, by decide, by decide⟩ hW (oP hj) ic4 rfl hl.1 (Nat.le_of_ble_eq_true rfl) rfl dX4_waitedFor_22 (fun H locs hW => ?_)
  refine q_if_eq (tgt := 44) Cx dX4_waitedFor_25 (by decide) (fun c10 => ?_) (fun c10 => ?_)
  · have hF := (if_pos c10).symm.trans hF
    exact wX4_waitedFor_44 hj Cx hret hW (lv_sub hl [3, 2, 0] rfl) hF
  · have hF := (if_neg c10).symm.trans hF
    refine q_aload_n Cx dX4_waitedFor_28 rfl (lv_at hl 3 rfl) ?_
    refine q_get (v := .ref (vA V j 6)) Cx hW (oP hj) ic4 4 (by decide) rfl wd_105 dX4_waitedFor_29 ?_
    refine q_iload_n Cx dX4_waitedFor_32 rfl (lv_at hl 1 rfl) ?_
    obtain ⟨h19, v18, e20, hF⟩ := ld_some hF
    refine qb_iald Cx hW (ai_6 hj) h19 e20 dX4_waitedFor_33 ?_
    refine q_iload_n Cx dX4_waitedFor_34 rfl (lv_at hl 2 rfl) ?_
    refine q_icmp_ne (tgt := 44) Cx dX4_waitedFor_35 (by decide) (fun c21 => ?_) (fun c21 => ?_)
    · have hF := (if_neg c21).symm.trans hF
      exact wX4_waitedFor_44 hj Cx hret hW (lv_sub hl [3, 2, 0] rfl) hF
    · have hF := (if_pos c21).symm.trans hF
      refine q_iconst (v := (1 : Int32)) Cx dX4_waitedFor_38 (by decide) ?_
      refine q_iload_n Cx dX4_waitedFor_39 rfl (lv_at hl 1 rfl) ?_
      refine q_ishl Cx dX4_waitedFor_40 ?_
      refine q_goto (tgt := 45) Cx dX4_waitedFor_41 (by decide) ?_
      exact wX4_waitedFor_45 hj Cx hret hW (lv_sub hl [3, 2, 0] rfl) hF
set_option maxRecDepth 100000 in
theorem kX4_waitedFor {l : Launch} {V : VT} {M : Mem} {j : Nat} (hj : j < 11) {B : Blk} {l1 : Int32} {r : Int32} (hF : FX4_waitedFor B l1 = some r) : MetI l V yX4_waitedFor cX4_waitedFor 6 .int ({ frames := 3, cells := 0, slots := 0, locals := 66 } : Room) [.ref (vA V j 1), .int l1] r (jb M j B) (jb M j B) := metI_of (by decide) (Nat.le_of_ble_eq_true rfl) (fun E H0 _ Cx hret H locs ls hW hl => wX4_waitedFor hj Cx hret hW hl hF)
theorem dX4_longestChain_0 : decode cX4_longestChain 0 = .ok (.aload_n 0, 1) := by decide +kernel
theorem dX4_longestChain_1 : decode cX4_longestChain 1 = .ok (.invokevirtual 72, 3) := by decide +kernel
theorem dX4_longestChain_4 : decode cX4_longestChain 4 = .ok (.istore_n 1, 1) := by decide +kernel
theorem dX4_longestChain_5 : decode cX4_longestChain 5 = .ok (.iconst 0, 1) := by decide +kernel
theorem dX4_longestChain_6 : decode cX4_longestChain 6 = .ok (.istore_n 2, 1) := by decide +kernel
theorem dX4_longestChain_7 : decode cX4_longestChain 7 = .ok (.aload_n 0, 1) := by decide +kernel
theorem dX4_longestChain_8 : decode cX4_longestChain 8 = .ok (.getfield 39, 3) := by decide +kernel
theorem dX4_longestChain_11 : decode cX4_longestChain 11 = .ok (.iconst 1, 1) := by decide +kernel
theorem dX4_longestChain_12 : decode cX4_longestChain 12 = .ok (.isub, 1) := by decide +kernel
theorem dX4_longestChain_13 : decode cX4_longestChain 13 = .ok (.istore_n 3, 1) := by decide +kernel
theorem dX4_longestChain_14 : decode cX4_longestChain 14 = .ok (.iload_n 3, 1) := by decide +kernel
theorem dX4_longestChain_15 : decode cX4_longestChain 15 = .ok (.ifCond .lt 51, 3) := by decide +kernel
theorem dX4_longestChain_18 : decode cX4_longestChain 18 = .ok (.aload_n 0, 1) := by decide +kernel
theorem dX4_longestChain_19 : decode cX4_longestChain 19 = .ok (.getfield 24, 3) := by decide +kernel
theorem dX4_longestChain_22 : decode cX4_longestChain 22 = .ok (.iload_n 3, 1) := by decide +kernel
theorem dX4_longestChain_23 : decode cX4_longestChain 23 = .ok (.iaload, 1) := by decide +kernel
theorem dX4_longestChain_24 : decode cX4_longestChain 24 = .ok (.istore 4, 2) := by decide +kernel
theorem dX4_longestChain_26 : decode cX4_longestChain 26 = .ok (.aload_n 0, 1) := by decide +kernel
theorem dX4_longestChain_27 : decode cX4_longestChain 27 = .ok (.getfield 21, 3) := by decide +kernel
theorem dX4_longestChain_30 : decode cX4_longestChain 30 = .ok (.iload 4, 2) := by decide +kernel
theorem dX4_longestChain_32 : decode cX4_longestChain 32 = .ok (.iaload, 1) := by decide +kernel
theorem dX4_longestChain_33 : decode cX4_longestChain 33 = .ok (.iload_n 1, 1) := by decide +kernel
theorem dX4_longestChain_34 : decode cX4_longestChain 34 = .ok (.if_icmp .eq 12, 3) := by decide +kernel
theorem dX4_longestChain_37 : decode cX4_longestChain 37 = .ok (.iload_n 2, 1) := by decide +kernel
theorem dX4_longestChain_38 : decode cX4_longestChain 38 = .ok (.iload 4, 2) := by decide +kernel
theorem dX4_longestChain_40 : decode cX4_longestChain 40 = .ok (.ishr, 1) := by decide +kernel
theorem dX4_longestChain_41 : decode cX4_longestChain 41 = .ok (.iconst 1, 1) := by decide +kernel
theorem dX4_longestChain_42 : decode cX4_longestChain 42 = .ok (.iand, 1) := by decide +kernel
theorem dX4_longestChain_43 : decode cX4_longestChain 43 = .ok (.ifCond .eq 17, 3) := by decide +kernel
theorem dX4_longestChain_46 : decode cX4_longestChain 46 = .ok (.iload_n 2, 1) := by decide +kernel
theorem dX4_longestChain_47 : decode cX4_longestChain 47 = .ok (.iconst 1, 1) := by decide +kernel
theorem dX4_longestChain_48 : decode cX4_longestChain 48 = .ok (.iload 4, 2) := by decide +kernel
theorem dX4_longestChain_50 : decode cX4_longestChain 50 = .ok (.ishl, 1) := by decide +kernel
theorem dX4_longestChain_51 : decode cX4_longestChain 51 = .ok (.aload_n 0, 1) := by decide +kernel
theorem dX4_longestChain_52 : decode cX4_longestChain 52 = .ok (.iload 4, 2) := by decide +kernel
theorem dX4_longestChain_54 : decode cX4_longestChain 54 = .ok (.invokevirtual 76, 3) := by decide +kernel
theorem dX4_longestChain_57 : decode cX4_longestChain 57 = .ok (.ior, 1) := by decide +kernel
theorem dX4_longestChain_58 : decode cX4_longestChain 58 = .ok (.ior, 1) := by decide +kernel
theorem dX4_longestChain_59 : decode cX4_longestChain 59 = .ok (.istore_n 2, 1) := by decide +kernel
theorem dX4_longestChain_60 : decode cX4_longestChain 60 = .ok (.iinc 3 (-1), 3) := by decide +kernel
theorem dX4_longestChain_63 : decode cX4_longestChain 63 = .ok (.goto (-49), 3) := by decide +kernel
theorem dX4_longestChain_66 : decode cX4_longestChain 66 = .ok (.iload_n 2, 1) := by decide +kernel
theorem dX4_longestChain_67 : decode cX4_longestChain 67 = .ok (.ireturn, 1) := by decide +kernel
theorem okX4_longestChain : CalOK yX4_longestChain cX4_longestChain 5 (some .int) 0 := ⟨wd_69, wd_598, by decide +kernel⟩
theorem ovX4_longestChain : VirOK yX4_longestChain := ⟨wd_596, wd_597⟩
def FX4_longestChain_46 (B : Blk) (k14 : Int32 → Int32 → Int32 → Option Int32) (l1 : Int32) (l2 : Int32) (l3 : Int32) (l4 : Int32) : Option Int32 :=
  c1 (FX4_waitedFor B l4) fun r13 =>
  lt1 (l2 ||| (((1 : Int32) <<< (l4 &&& 31)) ||| r13)) fun x15 =>
  lt1 (l3 + (-1 : Int32)) fun x17 =>
  k14 l1 x15 x17
set_option maxRecDepth 100000 in
set_option maxHeartbeats 4000000 in
theorem wX4_longestChain_46 {E : WE} {V : VT} {A : Nat → Prop} {H0 : Heap} {M : Mem} {j : Nat} (hj : j < 11) (Cx : CX E RX4 cX4_longestChain 5 4 91) {r : Int32} {B : Blk} (hret : RetI E V A H0 cX4_longestChain .int r (jb M j B)) {k14 : Int32 → Int32 → Int32 → Option Int32} (hk14 : ∀ {H : Heap} {locs : List Loc} {ls : Array Slot} {l1 : Int32} {l2 : Int32} {l3 : Int32}, Wd V A H0 (jb M j B) (eS E) H locs → lv_has ls 5 [(0, .ref (vA V j 1)), (1, .int l1), (2, .int l2), (3, .int l3)] → k14 l1 l2 l3 = some r → Wq E H locs 14 ls []) {H : Heap} {locs : List Loc} {ls : Array Slot} {l1 : Int32} {l2 : Int32} {l3 : Int32} {l4 : Int32} (hW : Wd V A H0 (jb M j B) (eS E) H locs) (hl : lv_has ls 5 [(0, .ref (vA V j 1)), (1, .int l1), (2, .int l2), (3, .int l3), (4, .int l4)]) (hF : FX4_longestChain_46 B k14 l1 l2 l3 l4 = some r) : Wq E H locs 46 ls [] := by
  unfold FX4_longestChain_46 at hF
  refine q_iload_n Cx dX4_longestChain_46 rfl (lv_at hl 2 rfl) ?_
  refine q_iconst (v := (1 : Int32)) Cx dX4_longestChain_47 (by decide) ?_
  refine q_iload Cx dX4_longestChain_48 (lv_at hl 4 rfl) ?_
  refine q_ishl Cx dX4_longestChain_50 ?_
  refine q_aload_n Cx dX4_longestChain_51 rfl (lv_at hl 0 rfl) ?_
  refine q_iload Cx dX4_longestChain_52 (lv_at hl 4 rfl) ?_
  obtain ⟨r13, e14, hF⟩ := c1_some hF
  refine q_callI (as := [.int l4]) (rest := [.int ((1 : Int32) <<< (l4 &&& 31)), .int l2]) Cx (kX4_waitedFor hj e14) okX4_waitedFor ovX4_waitedFor wd_600 ⟨rfl, rfl, by decide, by decide⟩ hW (oP hj) ic4 rfl hl.1 (Nat.le_of_ble_eq_true rfl) rfl dX4_longestChain_54 (fun H locs hW => ?_)
  refine q_ior Cx dX4_longestChain_57 ?_
  refine q_ior Cx dX4_longestChain_58 ?_
  obtain ⟨x15, e16, hF⟩ := lt1_some hF
  refine q_topi e16 ?_
  refine q_istore_n (lv' := [(2, .int x15), (0, .ref (vA V j 1)), (1, .int l1), (3, .int l3), (4, .int l4)]) Cx dX4_longestChain_59 rfl hl (by decide) rfl (fun ls hl => ?_)
  obtain ⟨x17, e18, hF⟩ := lt1_some hF
  refine q_iinc (k := 3) (v := x17) (lv' := [(3, .int x17), (2, .int x15), (0, .ref (vA V j 1)), (1, .int l1), (4, .int l4)]) Cx dX4_longestChain_60 hl rfl e18.symm (by decide) rfl (fun ls hl => ?_)
  refine q_goto (tgt := 14) Cx dX4_longestChain_63 (by decide) ?_
  exact hk14 hW (lv_sub hl [2, 3, 1, 0] rfl) hF
def FX4_longestChain_14s (B : Blk) (k14 : Int32 → Int32 → Int32 → Option Int32) (l1 : Int32) (l2 : Int32) (l3 : Int32) : Option Int32 :=
  if l3 < 0 then
    some l2
  else
    ld (B 7) 24 l3 fun v6 =>
    ld (B 6) 24 v6 fun v9 =>
    if v9 = l1 then
      FX4_longestChain_46 B k14 l1 l2 l3 v6
    else
      if ((l2 >>> (v6 &&& 31)) &&& (1 : Int32)) = 0 then
        lt1 (l3 + (-1 : Int32)) fun x20 =>
        k14 l1 l2 x20
      else
        FX4_longestChain_46 B k14 l1 l2 l3 v6
set_option maxRecDepth 100000 in
set_option maxHeartbeats 4000000 in
theorem wX4_longestChain_14s {E : WE} {V : VT} {A : Nat → Prop} {H0 : Heap} {M : Mem} {j : Nat} (hj : j < 11) (Cx : CX E RX4 cX4_longestChain 5 4 91) {r : Int32} {B : Blk} (hret : RetI E V A H0 cX4_longestChain .int r (jb M j B)) {k14 : Int32 → Int32 → Int32 → Option Int32} (hk14 : ∀ {H : Heap} {locs : List Loc} {ls : Array Slot} {l1 : Int32} {l2 : Int32} {l3 : Int32}, Wd V A H0 (jb M j B) (eS E) H locs → lv_has ls 5 [(0, .ref (vA V j 1)), (1, .int l1), (2, .int l2), (3, .int l3)] → k14 l1 l2 l3 = some r → Wq E H locs 14 ls []) {H : Heap} {locs : List Loc} {ls : Array Slot} {l1 : Int32} {l2 : Int32} {l3 : Int32} (hW : Wd V A H0 (jb M j B) (eS E) H locs) (hl : lv_has ls 5 [(0, .ref (vA V j 1)), (1, .int l1), (2, .int l2), (3, .int l3)]) (hF : FX4_longestChain_14s B k14 l1 l2 l3 = some r) : Wq E H locs 14 ls [] := by
  unfold FX4_longestChain_14s at hF
  refine q_iload_n Cx dX4_longestChain_14 rfl (lv_at hl 3 rfl) ?_
  refine q_if_lt (tgt := 66) Cx dX4_longestChain_15 (by decide) (fun c5 => ?_) (fun c5 => ?_)
  · have hF := (if_pos c5).symm.trans hF
    refine q_iload_n Cx dX4_longestChain_66 rfl (lv_at hl 2 rfl) ?_
    cases hF
    exact hret _ _ _ _ dX4_longestChain_67 (nI32 _) hW
  · have hF := (if_neg c5).symm.trans hF
    refine q_aload_n Cx dX4_longestChain_18 rfl (lv_at hl 0 rfl) ?_
    refine q_get (v := .ref (vA V j 7)) Cx hW (oP hj) ic4 5 (by decide) rfl wd_107 dX4_longestChain_19 ?_
    refine q_iload_n Cx dX4_longestChain_22 rfl (lv_at hl 3 rfl) ?_
    obtain ⟨h7, v6, e8, hF⟩ := ld_some hF
    refine qb_iald Cx hW (ai_7 hj) h7 e8 dX4_longestChain_23 ?_
    refine q_istore (lv' := [(4, .int v6), (0, .ref (vA V j 1)), (1, .int l1), (2, .int l2), (3, .int l3)]) Cx dX4_longestChain_24 hl (by decide) rfl (fun ls hl => ?_)
    refine q_aload_n Cx dX4_longestChain_26 rfl (lv_at hl 1 rfl) ?_
    refine q_get (v := .ref (vA V j 6)) Cx hW (oP hj) ic4 4 (by decide) rfl wd_105 dX4_longestChain_27 ?_
    refine q_iload Cx dX4_longestChain_30 (lv_at hl 0 rfl) ?_
    obtain ⟨h10, v9, e11, hF⟩ := ld_some hF
    refine qb_iald Cx hW (ai_6 hj) h10 e11 dX4_longestChain_32 ?_
    refine q_iload_n Cx dX4_longestChain_33 rfl (lv_at hl 2 rfl) ?_
    refine q_icmp_eq (tgt := 46) Cx dX4_longestChain_34 (by decide) (fun c12 => ?_) (fun c12 => ?_)
    · have hF := (if_pos c12).symm.trans hF
      exact wX4_longestChain_46 hj Cx hret hk14 hW (lv_sub hl [1, 2, 3, 4, 0] rfl) hF
    · have hF := (if_neg c12).symm.trans hF
      refine q_iload_n Cx dX4_longestChain_37 rfl (lv_at hl 3 rfl) ?_
      refine q_iload Cx dX4_longestChain_38 (lv_at hl 0 rfl) ?_
      refine q_ishr Cx dX4_longestChain_40 ?_
      refine q_iconst (v := (1 : Int32)) Cx dX4_longestChain_41 (by decide) ?_
      refine q_iand Cx dX4_longestChain_42 ?_
      refine q_if_eq (tgt := 60) Cx dX4_longestChain_43 (by decide) (fun c19 => ?_) (fun c19 => ?_)
      · have hF := (if_pos c19).symm.trans hF
        obtain ⟨x20, e21, hF⟩ := lt1_some hF
        refine q_iinc (k := 4) (v := x20) (lv' := [(3, .int x20), (4, .int v6), (0, .ref (vA V j 1)), (1, .int l1), (2, .int l2)]) Cx dX4_longestChain_60 hl rfl e21.symm (by decide) rfl (fun ls hl => ?_)
        refine q_goto (tgt := 14) Cx dX4_longestChain_63 (by decide) ?_
        exact hk14 hW (lv_sub hl [2, 3, 4, 0] rfl) hF
      · have hF := (if_neg c19).symm.trans hF
        exact wX4_longestChain_46 hj Cx hret hk14 hW (lv_sub hl [1, 2, 3, 4, 0] rfl) hF
def FX4_longestChain_14 (B : Blk) : Nat → Int32 → Int32 → Int32 → Option Int32
  | 0 => fun _ _ _ => none
  | n + 1 => FX4_longestChain_14s B (FX4_longestChain_14 B n)
set_option maxRecDepth 100000 in
theorem wX4_longestChain_14 {E : WE} {V : VT} {A : Nat → Prop} {H0 : Heap} {M : Mem} {j : Nat} (hj : j < 11) (Cx : CX E RX4 cX4_longestChain 5 4 91) {r : Int32} {B : Blk} (hret : RetI E V A H0 cX4_longestChain .int r (jb M j B)) : ∀ (n : Nat) {H : Heap} {locs : List Loc} {ls : Array Slot} {l1 : Int32} {l2 : Int32} {l3 : Int32}, Wd V A H0 (jb M j B) (eS E) H locs → lv_has ls 5 [(0, .ref (vA V j 1)), (1, .int l1), (2, .int l2), (3, .int l3)] → FX4_longestChain_14 B n l1 l2 l3 = some r → Wq E H locs 14 ls [] := by
  intro n
  induction n with
  | zero => intro _ _ _ _ _ _ hW hl hF; cases hF
  | succ n ih => intro _ _ _ _ _ _ hW hl hF; exact wX4_longestChain_14s hj Cx hret ih hW hl hF
def FX4_longestChain (B : Blk) : Option Int32 :=
  c1 (FX4_endOfAll B) fun r1 =>
  lt1 (((B 1) 0) - (1 : Int32)) fun x3 =>
  FX4_longestChain_14 B fu r1 (0 : Int32) x3
set_option maxRecDepth 100000 in
set_option maxHeartbeats 4000000 in
theorem wX4_longestChain {E : WE} {V : VT} {A : Nat → Prop} {H0 : Heap} {M : Mem} {j : Nat} (hj : j < 11) (Cx : CX E RX4 cX4_longestChain 5 4 91) {r : Int32} {B : Blk} (hret : RetI E V A H0 cX4_longestChain .int r (jb M j B)) {H : Heap} {locs : List Loc} {ls : Array Slot} (hW : Wd V A H0 (jb M j B) (eS E) H locs) (hl : lv_has ls 5 [(0, .ref (vA V j 1))]) (hF : FX4_longestChain B = some r) : Wq E H locs 0 ls [] := by
  unfold FX4_longestChain at hF
  refine q_aload_n Cx dX4_longestChain_0 rfl (lv_at hl 0 rfl) ?_
  obtain ⟨r1, e2, hF⟩ := c1_some hF
  refine q_callI (as := []) (rest := []) Cx (kX4_endOfAll hj e2) okX4_endOfAll ovX4_endOfAll wd_599 ⟨rfl, rfl, by decide, by decide⟩ hW (oP hj) ic4 rfl hl.1 (Nat.le_of_ble_eq_true rfl) rfl dX4_longestChain_1 (fun H locs hW => ?_)
  refine q_istore_n (lv' := [(1, .int r1), (0, .ref (vA V j 1))]) Cx dX4_longestChain_4 rfl hl (by decide) rfl (fun ls hl => ?_)
  refine q_iconst (v := (0 : Int32)) Cx dX4_longestChain_5 (by decide) ?_
  refine q_istore_n (lv' := [(2, .int (0 : Int32)), (1, .int r1), (0, .ref (vA V j 1))]) Cx dX4_longestChain_6 rfl hl (by decide) rfl (fun ls hl => ?_)
  refine q_aload_n Cx dX4_longestChain_7 rfl (lv_at hl 2 rfl) ?_
  refine qb_get (v := .int ((B 1) 0)) Cx hW (oP hj) ic4 0 (by decide) rfl wd_96 dX4_longestChain_8 ?_
  refine q_iconst (v := (1 : Int32)) Cx dX4_longestChain_11 (by decide) ?_
  refine q_isub Cx dX4_longestChain_12 ?_
  obtain ⟨x3, e4, hF⟩ := lt1_some hF
  refine q_topi e4 ?_
  refine q_istore_n (lv' := [(3, .int x3), (2, .int (0 : Int32)), (1, .int r1), (0, .ref (vA V j 1))]) Cx dX4_longestChain_13 rfl hl (by decide) rfl (fun ls hl => ?_)
  exact wX4_longestChain_14 hj Cx hret fu hW (lv_sub hl [3, 2, 1, 0] rfl) hF
set_option maxRecDepth 100000 in
theorem kX4_longestChain {l : Launch} {V : VT} {M : Mem} {j : Nat} (hj : j < 11) {B : Blk} {r : Int32} (hF : FX4_longestChain B = some r) : MetI l V yX4_longestChain cX4_longestChain 5 .int ({ frames := 4, cells := 0, slots := 0, locals := 91 } : Room) [.ref (vA V j 1)] r (jb M j B) (jb M j B) := metI_of (by decide) (Nat.le_of_ble_eq_true rfl) (fun E H0 _ Cx hret H locs ls hW hl => wX4_longestChain hj Cx hret hW hl hF)
end
