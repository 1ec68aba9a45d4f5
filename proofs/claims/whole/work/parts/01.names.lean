-- ===== PART A: goes FIRST, ahead of the names: the tables' words, and 'selects' of the private methods out of them =====
/-- a private method of a class that the tables say can be made, by its rows of tables_1 -/
def lw_okq (q : MethodName × Nat) : Prop := (q.1.cls ≠ "java/lang/invoke/MethodHandle" ∧ q.1.cls ≠ "java/lang/invoke/VarHandle") ∧ Cond.instantiable q.1.cls q.2 ∈ tables_1 ∧ Cond.privateMethod q.1 ∈ tables_1 ∧ Cond.instanceMethod q.1 ∈ tables_1
theorem lw_p0 : lw_okq (⟨"SlackMarket$Plan", "scheduleRow", "(II)I"⟩, 10) := ⟨⟨by decide +kernel, by decide +kernel⟩, List.mem_of_getElem? (i := 25) (by decide +kernel), List.mem_of_getElem? (i := 256) (by decide +kernel), List.mem_of_getElem? (i := 257) (by decide +kernel)⟩
theorem lw_p1 : lw_okq (⟨"SlackMarket$Market", "setOffer", "(III)V"⟩, 9) := ⟨⟨by decide +kernel, by decide +kernel⟩, List.mem_of_getElem? (i := 19) (by decide +kernel), List.mem_of_getElem? (i := 305) (by decide +kernel), List.mem_of_getElem? (i := 306) (by decide +kernel)⟩
theorem lw_p2 : lw_okq (⟨"SlackMarket$Market", "latestExcept", "(I)I"⟩, 9) := ⟨⟨by decide +kernel, by decide +kernel⟩, List.mem_of_getElem? (i := 19) (by decide +kernel), List.mem_of_getElem? (i := 317) (by decide +kernel), List.mem_of_getElem? (i := 318) (by decide +kernel)⟩
theorem lw_p3 : lw_okq (⟨"SlackMarket$Plan", "linkFrom", "(I)V"⟩, 10) := ⟨⟨by decide +kernel, by decide +kernel⟩, List.mem_of_getElem? (i := 25) (by decide +kernel), List.mem_of_getElem? (i := 334) (by decide +kernel), List.mem_of_getElem? (i := 335) (by decide +kernel)⟩
theorem lw_p4 : lw_okq (⟨"SlackMarket$Market", "bestSellerExcept", "(I)I"⟩, 9) := ⟨⟨by decide +kernel, by decide +kernel⟩, List.mem_of_getElem? (i := 19) (by decide +kernel), List.mem_of_getElem? (i := 338) (by decide +kernel), List.mem_of_getElem? (i := 339) (by decide +kernel)⟩
theorem lw_p5 : lw_okq (⟨"SlackMarket$Market", "isInReach", "(I)Z"⟩, 9) := ⟨⟨by decide +kernel, by decide +kernel⟩, List.mem_of_getElem? (i := 19) (by decide +kernel), List.mem_of_getElem? (i := 342) (by decide +kernel), List.mem_of_getElem? (i := 343) (by decide +kernel)⟩
theorem lw_p6 : lw_okq (⟨"SlackMarket$Market", "isBetterSeller", "(II)Z"⟩, 9) := ⟨⟨by decide +kernel, by decide +kernel⟩, List.mem_of_getElem? (i := 19) (by decide +kernel), List.mem_of_getElem? (i := 346) (by decide +kernel), List.mem_of_getElem? (i := 347) (by decide +kernel)⟩
theorem lw_p7 : lw_okq (⟨"SlackMarket$Market", "buyFrom", "(II)V"⟩, 9) := ⟨⟨by decide +kernel, by decide +kernel⟩, List.mem_of_getElem? (i := 19) (by decide +kernel), List.mem_of_getElem? (i := 350) (by decide +kernel), List.mem_of_getElem? (i := 351) (by decide +kernel)⟩
theorem lw_p8 : lw_okq (⟨"SlackMarket$Contracts", "remove", "(I)V"⟩, 5) := ⟨⟨by decide +kernel, by decide +kernel⟩, List.mem_of_getElem? (i := 73) (by decide +kernel), List.mem_of_getElem? (i := 381) (by decide +kernel), List.mem_of_getElem? (i := 382) (by decide +kernel)⟩
theorem lw_p9 : lw_okq (⟨"SlackMarket$Market", "slackOf", "(I)I"⟩, 9) := ⟨⟨by decide +kernel, by decide +kernel⟩, List.mem_of_getElem? (i := 19) (by decide +kernel), List.mem_of_getElem? (i := 406) (by decide +kernel), List.mem_of_getElem? (i := 407) (by decide +kernel)⟩
theorem lw_p10 : lw_okq (⟨"SlackMarket$Market", "lowerLatestEnd", "(II)V"⟩, 9) := ⟨⟨by decide +kernel, by decide +kernel⟩, List.mem_of_getElem? (i := 19) (by decide +kernel), List.mem_of_getElem? (i := 418) (by decide +kernel), List.mem_of_getElem? (i := 419) (by decide +kernel)⟩
theorem lw_p11 : lw_okq (⟨"SlackMarket$Market", "offers", "()I"⟩, 9) := ⟨⟨by decide +kernel, by decide +kernel⟩, List.mem_of_getElem? (i := 19) (by decide +kernel), List.mem_of_getElem? (i := 466) (by decide +kernel), List.mem_of_getElem? (i := 467) (by decide +kernel)⟩
theorem lw_p12 : lw_okq (⟨"SlackMarket$Market", "lateTasks", "()I"⟩, 9) := ⟨⟨by decide +kernel, by decide +kernel⟩, List.mem_of_getElem? (i := 19) (by decide +kernel), List.mem_of_getElem? (i := 470) (by decide +kernel), List.mem_of_getElem? (i := 471) (by decide +kernel)⟩
theorem lw_p13 : lw_okq (⟨"SlackMarket$Market", "allMoney", "()I"⟩, 9) := ⟨⟨by decide +kernel, by decide +kernel⟩, List.mem_of_getElem? (i := 19) (by decide +kernel), List.mem_of_getElem? (i := 478) (by decide +kernel), List.mem_of_getElem? (i := 479) (by decide +kernel)⟩
theorem lw_p14 : lw_okq (⟨"SlackMarket$Plan", "waitedFor", "(I)I"⟩, 10) := ⟨⟨by decide +kernel, by decide +kernel⟩, List.mem_of_getElem? (i := 25) (by decide +kernel), List.mem_of_getElem? (i := 530) (by decide +kernel), List.mem_of_getElem? (i := 531) (by decide +kernel)⟩
theorem lw_p15 : lw_okq (⟨"SlackMarket$Pad", "here", "()I"⟩, 6) := ⟨⟨by decide +kernel, by decide +kernel⟩, List.mem_of_getElem? (i := 153) (by decide +kernel), List.mem_of_getElem? (i := 576) (by decide +kernel), List.mem_of_getElem? (i := 577) (by decide +kernel)⟩
def lw_privs_1 : List (MethodName × Nat) := [(⟨"SlackMarket$Plan", "scheduleRow", "(II)I"⟩, 10), (⟨"SlackMarket$Market", "setOffer", "(III)V"⟩, 9), (⟨"SlackMarket$Market", "latestExcept", "(I)I"⟩, 9), (⟨"SlackMarket$Plan", "linkFrom", "(I)V"⟩, 10), (⟨"SlackMarket$Market", "bestSellerExcept", "(I)I"⟩, 9), (⟨"SlackMarket$Market", "isInReach", "(I)Z"⟩, 9), (⟨"SlackMarket$Market", "isBetterSeller", "(II)Z"⟩, 9), (⟨"SlackMarket$Market", "buyFrom", "(II)V"⟩, 9), (⟨"SlackMarket$Contracts", "remove", "(I)V"⟩, 5), (⟨"SlackMarket$Market", "slackOf", "(I)I"⟩, 9), (⟨"SlackMarket$Market", "lowerLatestEnd", "(II)V"⟩, 9), (⟨"SlackMarket$Market", "offers", "()I"⟩, 9), (⟨"SlackMarket$Market", "lateTasks", "()I"⟩, 9), (⟨"SlackMarket$Market", "allMoney", "()I"⟩, 9), (⟨"SlackMarket$Plan", "waitedFor", "(I)I"⟩, 10), (⟨"SlackMarket$Pad", "here", "()I"⟩, 6)]
theorem lw_r1 : ∀ q ∈ lw_privs_1, lw_okq q := List.forall_mem_cons.mpr ⟨lw_p0, List.forall_mem_cons.mpr ⟨lw_p1, List.forall_mem_cons.mpr ⟨lw_p2, List.forall_mem_cons.mpr ⟨lw_p3, List.forall_mem_cons.mpr ⟨lw_p4, List.forall_mem_cons.mpr ⟨lw_p5, List.forall_mem_cons.mpr ⟨lw_p6, List.forall_mem_cons.mpr ⟨lw_p7, List.forall_mem_cons.mpr ⟨lw_p8, List.forall_mem_cons.mpr ⟨lw_p9, List.forall_mem_cons.mpr ⟨lw_p10, List.forall_mem_cons.mpr ⟨lw_p11, List.forall_mem_cons.mpr ⟨lw_p12, List.forall_mem_cons.mpr ⟨lw_p13, List.forall_mem_cons.mpr ⟨lw_p14, List.forall_mem_cons.mpr ⟨lw_p15, fun _ h => absurd h List.not_mem_nil⟩⟩⟩⟩⟩⟩⟩⟩⟩⟩⟩⟩⟩⟩⟩⟩
theorem lw_p16 : lw_okq (⟨"SlackMarket$Pad", "readSign", "(C)Z"⟩, 6) := ⟨⟨by decide +kernel, by decide +kernel⟩, List.mem_of_getElem? (i := 153) (by decide +kernel), List.mem_of_getElem? (i := 580) (by decide +kernel), List.mem_of_getElem? (i := 581) (by decide +kernel)⟩
theorem lw_p17 : lw_okq (⟨"SlackMarket$Pad", "readTask", "()Z"⟩, 6) := ⟨⟨by decide +kernel, by decide +kernel⟩, List.mem_of_getElem? (i := 153) (by decide +kernel), List.mem_of_getElem? (i := 584) (by decide +kernel), List.mem_of_getElem? (i := 585) (by decide +kernel)⟩
theorem lw_p18 : lw_okq (⟨"SlackMarket$Pad", "readDigit", "()Z"⟩, 6) := ⟨⟨by decide +kernel, by decide +kernel⟩, List.mem_of_getElem? (i := 153) (by decide +kernel), List.mem_of_getElem? (i := 588) (by decide +kernel), List.mem_of_getElem? (i := 589) (by decide +kernel)⟩
theorem lw_p19 : lw_okq (⟨"SlackMarket$Pad", "isDigit", "()Z"⟩, 6) := ⟨⟨by decide +kernel, by decide +kernel⟩, List.mem_of_getElem? (i := 153) (by decide +kernel), List.mem_of_getElem? (i := 592) (by decide +kernel), List.mem_of_getElem? (i := 593) (by decide +kernel)⟩
theorem lw_p20 : lw_okq (⟨"SlackMarket$Pad", "keep", "(I)Z"⟩, 6) := ⟨⟨by decide +kernel, by decide +kernel⟩, List.mem_of_getElem? (i := 153) (by decide +kernel), List.mem_of_getElem? (i := 596) (by decide +kernel), List.mem_of_getElem? (i := 597) (by decide +kernel)⟩
theorem lw_p21 : lw_okq (⟨"SlackMarket$Pad", "readNumber", "()Z"⟩, 6) := ⟨⟨by decide +kernel, by decide +kernel⟩, List.mem_of_getElem? (i := 153) (by decide +kernel), List.mem_of_getElem? (i := 600) (by decide +kernel), List.mem_of_getElem? (i := 601) (by decide +kernel)⟩
theorem lw_p22 : lw_okq (⟨"SlackMarket$Pad", "readPair", "(C)Z"⟩, 6) := ⟨⟨by decide +kernel, by decide +kernel⟩, List.mem_of_getElem? (i := 153) (by decide +kernel), List.mem_of_getElem? (i := 604) (by decide +kernel), List.mem_of_getElem? (i := 605) (by decide +kernel)⟩
theorem lw_p23 : lw_okq (⟨"SlackMarket", "carryOrders", "()I"⟩, 6) := ⟨⟨by decide +kernel, by decide +kernel⟩, List.mem_of_getElem? (i := 11) (by decide +kernel), List.mem_of_getElem? (i := 616) (by decide +kernel), List.mem_of_getElem? (i := 617) (by decide +kernel)⟩
theorem lw_p24 : lw_okq (⟨"SlackMarket", "carryOrder", "()I"⟩, 6) := ⟨⟨by decide +kernel, by decide +kernel⟩, List.mem_of_getElem? (i := 11) (by decide +kernel), List.mem_of_getElem? (i := 622) (by decide +kernel), List.mem_of_getElem? (i := 623) (by decide +kernel)⟩
theorem lw_p25 : lw_okq (⟨"SlackMarketModel", "record", "()V"⟩, 19) := ⟨⟨by decide +kernel, by decide +kernel⟩, List.mem_of_getElem? (i := 643) (by decide +kernel), List.mem_of_getElem? (i := 722) (by decide +kernel), List.mem_of_getElem? (i := 723) (by decide +kernel)⟩
theorem lw_p26 : lw_okq (⟨"SlackMarketModel", "isTask", "(I)Z"⟩, 19) := ⟨⟨by decide +kernel, by decide +kernel⟩, List.mem_of_getElem? (i := 643) (by decide +kernel), List.mem_of_getElem? (i := 734) (by decide +kernel), List.mem_of_getElem? (i := 735) (by decide +kernel)⟩
theorem lw_p27 : lw_okq (⟨"SlackMarketModel", "manyOn", "(I)I"⟩, 19) := ⟨⟨by decide +kernel, by decide +kernel⟩, List.mem_of_getElem? (i := 643) (by decide +kernel), List.mem_of_getElem? (i := 739) (by decide +kernel), List.mem_of_getElem? (i := 740) (by decide +kernel)⟩
theorem lw_p28 : lw_okq (⟨"SlackMarketModel", "putAt", "(II)V"⟩, 19) := ⟨⟨by decide +kernel, by decide +kernel⟩, List.mem_of_getElem? (i := 643) (by decide +kernel), List.mem_of_getElem? (i := 751) (by decide +kernel), List.mem_of_getElem? (i := 752) (by decide +kernel)⟩
theorem lw_p29 : lw_okq (⟨"SlackMarketModel", "reckon", "()Z"⟩, 19) := ⟨⟨by decide +kernel, by decide +kernel⟩, List.mem_of_getElem? (i := 643) (by decide +kernel), List.mem_of_getElem? (i := 755) (by decide +kernel), List.mem_of_getElem? (i := 756) (by decide +kernel)⟩
theorem lw_p30 : lw_okq (⟨"SlackMarketModel", "endOf", "(I)I"⟩, 19) := ⟨⟨by decide +kernel, by decide +kernel⟩, List.mem_of_getElem? (i := 643) (by decide +kernel), List.mem_of_getElem? (i := 759) (by decide +kernel), List.mem_of_getElem? (i := 760) (by decide +kernel)⟩
theorem lw_p31 : lw_okq (⟨"SlackMarketModel", "taskAt", "(II)I"⟩, 19) := ⟨⟨by decide +kernel, by decide +kernel⟩, List.mem_of_getElem? (i := 643) (by decide +kernel), List.mem_of_getElem? (i := 763) (by decide +kernel), List.mem_of_getElem? (i := 764) (by decide +kernel)⟩
def lw_privs_2 : List (MethodName × Nat) := [(⟨"SlackMarket$Pad", "readSign", "(C)Z"⟩, 6), (⟨"SlackMarket$Pad", "readTask", "()Z"⟩, 6), (⟨"SlackMarket$Pad", "readDigit", "()Z"⟩, 6), (⟨"SlackMarket$Pad", "isDigit", "()Z"⟩, 6), (⟨"SlackMarket$Pad", "keep", "(I)Z"⟩, 6), (⟨"SlackMarket$Pad", "readNumber", "()Z"⟩, 6), (⟨"SlackMarket$Pad", "readPair", "(C)Z"⟩, 6), (⟨"SlackMarket", "carryOrders", "()I"⟩, 6), (⟨"SlackMarket", "carryOrder", "()I"⟩, 6), (⟨"SlackMarketModel", "record", "()V"⟩, 19), (⟨"SlackMarketModel", "isTask", "(I)Z"⟩, 19), (⟨"SlackMarketModel", "manyOn", "(I)I"⟩, 19), (⟨"SlackMarketModel", "putAt", "(II)V"⟩, 19), (⟨"SlackMarketModel", "reckon", "()Z"⟩, 19), (⟨"SlackMarketModel", "endOf", "(I)I"⟩, 19), (⟨"SlackMarketModel", "taskAt", "(II)I"⟩, 19)]
theorem lw_r2 : ∀ q ∈ lw_privs_2, lw_okq q := List.forall_mem_cons.mpr ⟨lw_p16, List.forall_mem_cons.mpr ⟨lw_p17, List.forall_mem_cons.mpr ⟨lw_p18, List.forall_mem_cons.mpr ⟨lw_p19, List.forall_mem_cons.mpr ⟨lw_p20, List.forall_mem_cons.mpr ⟨lw_p21, List.forall_mem_cons.mpr ⟨lw_p22, List.forall_mem_cons.mpr ⟨lw_p23, List.forall_mem_cons.mpr ⟨lw_p24, List.forall_mem_cons.mpr ⟨lw_p25, List.forall_mem_cons.mpr ⟨lw_p26, List.forall_mem_cons.mpr ⟨lw_p27, List.forall_mem_cons.mpr ⟨lw_p28, List.forall_mem_cons.mpr ⟨lw_p29, List.forall_mem_cons.mpr ⟨lw_p30, List.forall_mem_cons.mpr ⟨lw_p31, fun _ h => absurd h List.not_mem_nil⟩⟩⟩⟩⟩⟩⟩⟩⟩⟩⟩⟩⟩⟩⟩⟩
theorem lw_p32 : lw_okq (⟨"SlackMarketModel", "measure", "(I)V"⟩, 19) := ⟨⟨by decide +kernel, by decide +kernel⟩, List.mem_of_getElem? (i := 643) (by decide +kernel), List.mem_of_getElem? (i := 771) (by decide +kernel), List.mem_of_getElem? (i := 772) (by decide +kernel)⟩
theorem lw_p33 : lw_okq (⟨"SlackMarketModel", "areLinked", "(II)Z"⟩, 19) := ⟨⟨by decide +kernel, by decide +kernel⟩, List.mem_of_getElem? (i := 643) (by decide +kernel), List.mem_of_getElem? (i := 775) (by decide +kernel), List.mem_of_getElem? (i := 776) (by decide +kernel)⟩
theorem lw_p34 : lw_okq (⟨"SlackMarketModel", "tradeAll", "()V"⟩, 19) := ⟨⟨by decide +kernel, by decide +kernel⟩, List.mem_of_getElem? (i := 643) (by decide +kernel), List.mem_of_getElem? (i := 787) (by decide +kernel), List.mem_of_getElem? (i := 788) (by decide +kernel)⟩
theorem lw_p35 : lw_okq (⟨"SlackMarketModel", "late", "(I)I"⟩, 19) := ⟨⟨by decide +kernel, by decide +kernel⟩, List.mem_of_getElem? (i := 643) (by decide +kernel), List.mem_of_getElem? (i := 791) (by decide +kernel), List.mem_of_getElem? (i := 792) (by decide +kernel)⟩
theorem lw_p36 : lw_okq (⟨"SlackMarketModel", "buys", "(I)V"⟩, 19) := ⟨⟨by decide +kernel, by decide +kernel⟩, List.mem_of_getElem? (i := 643) (by decide +kernel), List.mem_of_getElem? (i := 795) (by decide +kernel), List.mem_of_getElem? (i := 796) (by decide +kernel)⟩
theorem lw_p37 : lw_okq (⟨"SlackMarketModel", "nextOffer", "(II)I"⟩, 19) := ⟨⟨by decide +kernel, by decide +kernel⟩, List.mem_of_getElem? (i := 643) (by decide +kernel), List.mem_of_getElem? (i := 799) (by decide +kernel), List.mem_of_getElem? (i := 800) (by decide +kernel)⟩
theorem lw_p38 : lw_okq (⟨"SlackMarketModel", "isSooner", "(II)Z"⟩, 19) := ⟨⟨by decide +kernel, by decide +kernel⟩, List.mem_of_getElem? (i := 643) (by decide +kernel), List.mem_of_getElem? (i := 803) (by decide +kernel), List.mem_of_getElem? (i := 804) (by decide +kernel)⟩
theorem lw_p39 : lw_okq (⟨"SlackMarketModel", "hoursOf", "(II)I"⟩, 19) := ⟨⟨by decide +kernel, by decide +kernel⟩, List.mem_of_getElem? (i := 643) (by decide +kernel), List.mem_of_getElem? (i := 807) (by decide +kernel), List.mem_of_getElem? (i := 808) (by decide +kernel)⟩
theorem lw_p40 : lw_okq (⟨"SlackMarketModel", "spared", "(I)I"⟩, 19) := ⟨⟨by decide +kernel, by decide +kernel⟩, List.mem_of_getElem? (i := 643) (by decide +kernel), List.mem_of_getElem? (i := 814) (by decide +kernel), List.mem_of_getElem? (i := 815) (by decide +kernel)⟩
theorem lw_p41 : lw_okq (⟨"SlackMarketModel", "agree", "(III)V"⟩, 19) := ⟨⟨by decide +kernel, by decide +kernel⟩, List.mem_of_getElem? (i := 643) (by decide +kernel), List.mem_of_getElem? (i := 818) (by decide +kernel), List.mem_of_getElem? (i := 819) (by decide +kernel)⟩
theorem lw_p42 : lw_okq (⟨"SlackMarketModel", "isContract", "(I)Z"⟩, 19) := ⟨⟨by decide +kernel, by decide +kernel⟩, List.mem_of_getElem? (i := 643) (by decide +kernel), List.mem_of_getElem? (i := 826) (by decide +kernel), List.mem_of_getElem? (i := 827) (by decide +kernel)⟩
theorem lw_p43 : lw_okq (⟨"SlackMarketModel", "dropContract", "(I)V"⟩, 19) := ⟨⟨by decide +kernel, by decide +kernel⟩, List.mem_of_getElem? (i := 643) (by decide +kernel), List.mem_of_getElem? (i := 830) (by decide +kernel), List.mem_of_getElem? (i := 831) (by decide +kernel)⟩
theorem lw_p44 : lw_okq (⟨"SlackMarketModel", "slack", "(I)I"⟩, 19) := ⟨⟨by decide +kernel, by decide +kernel⟩, List.mem_of_getElem? (i := 643) (by decide +kernel), List.mem_of_getElem? (i := 842) (by decide +kernel), List.mem_of_getElem? (i := 843) (by decide +kernel)⟩
theorem lw_p45 : lw_okq (⟨"SlackMarketModel", "canBeHeld", "(II)Z"⟩, 19) := ⟨⟨by decide +kernel, by decide +kernel⟩, List.mem_of_getElem? (i := 643) (by decide +kernel), List.mem_of_getElem? (i := 846) (by decide +kernel), List.mem_of_getElem? (i := 847) (by decide +kernel)⟩
theorem lw_p46 : lw_okq (⟨"SlackMarketModel", "lateTogether", "()I"⟩, 19) := ⟨⟨by decide +kernel, by decide +kernel⟩, List.mem_of_getElem? (i := 643) (by decide +kernel), List.mem_of_getElem? (i := 850) (by decide +kernel), List.mem_of_getElem? (i := 851) (by decide +kernel)⟩
theorem lw_p47 : lw_okq (⟨"SlackMarketModel", "hoursBy", "(II)I"⟩, 19) := ⟨⟨by decide +kernel, by decide +kernel⟩, List.mem_of_getElem? (i := 643) (by decide +kernel), List.mem_of_getElem? (i := 854) (by decide +kernel), List.mem_of_getElem? (i := 855) (by decide +kernel)⟩
def lw_privs_3 : List (MethodName × Nat) := [(⟨"SlackMarketModel", "measure", "(I)V"⟩, 19), (⟨"SlackMarketModel", "areLinked", "(II)Z"⟩, 19), (⟨"SlackMarketModel", "tradeAll", "()V"⟩, 19), (⟨"SlackMarketModel", "late", "(I)I"⟩, 19), (⟨"SlackMarketModel", "buys", "(I)V"⟩, 19), (⟨"SlackMarketModel", "nextOffer", "(II)I"⟩, 19), (⟨"SlackMarketModel", "isSooner", "(II)Z"⟩, 19), (⟨"SlackMarketModel", "hoursOf", "(II)I"⟩, 19), (⟨"SlackMarketModel", "spared", "(I)I"⟩, 19), (⟨"SlackMarketModel", "agree", "(III)V"⟩, 19), (⟨"SlackMarketModel", "isContract", "(I)Z"⟩, 19), (⟨"SlackMarketModel", "dropContract", "(I)V"⟩, 19), (⟨"SlackMarketModel", "slack", "(I)I"⟩, 19), (⟨"SlackMarketModel", "canBeHeld", "(II)Z"⟩, 19), (⟨"SlackMarketModel", "lateTogether", "()I"⟩, 19), (⟨"SlackMarketModel", "hoursBy", "(II)I"⟩, 19)]
theorem lw_r3 : ∀ q ∈ lw_privs_3, lw_okq q := List.forall_mem_cons.mpr ⟨lw_p32, List.forall_mem_cons.mpr ⟨lw_p33, List.forall_mem_cons.mpr ⟨lw_p34, List.forall_mem_cons.mpr ⟨lw_p35, List.forall_mem_cons.mpr ⟨lw_p36, List.forall_mem_cons.mpr ⟨lw_p37, List.forall_mem_cons.mpr ⟨lw_p38, List.forall_mem_cons.mpr ⟨lw_p39, List.forall_mem_cons.mpr ⟨lw_p40, List.forall_mem_cons.mpr ⟨lw_p41, List.forall_mem_cons.mpr ⟨lw_p42, List.forall_mem_cons.mpr ⟨lw_p43, List.forall_mem_cons.mpr ⟨lw_p44, List.forall_mem_cons.mpr ⟨lw_p45, List.forall_mem_cons.mpr ⟨lw_p46, List.forall_mem_cons.mpr ⟨lw_p47, fun _ h => absurd h List.not_mem_nil⟩⟩⟩⟩⟩⟩⟩⟩⟩⟩⟩⟩⟩⟩⟩⟩
theorem lw_p48 : lw_okq (⟨"SlackMarketModel", "behind", "(I)I"⟩, 19) := ⟨⟨by decide +kernel, by decide +kernel⟩, List.mem_of_getElem? (i := 643) (by decide +kernel), List.mem_of_getElem? (i := 858) (by decide +kernel), List.mem_of_getElem? (i := 859) (by decide +kernel)⟩
theorem lw_p49 : lw_okq (⟨"SlackMarketModel", "offers", "()I"⟩, 19) := ⟨⟨by decide +kernel, by decide +kernel⟩, List.mem_of_getElem? (i := 643) (by decide +kernel), List.mem_of_getElem? (i := 883) (by decide +kernel), List.mem_of_getElem? (i := 884) (by decide +kernel)⟩
theorem lw_p50 : lw_okq (⟨"SlackMarketModel", "lateSet", "()I"⟩, 19) := ⟨⟨by decide +kernel, by decide +kernel⟩, List.mem_of_getElem? (i := 643) (by decide +kernel), List.mem_of_getElem? (i := 887) (by decide +kernel), List.mem_of_getElem? (i := 888) (by decide +kernel)⟩
theorem lw_p51 : lw_okq (⟨"SlackMarketModel", "endOfAll", "()I"⟩, 19) := ⟨⟨by decide +kernel, by decide +kernel⟩, List.mem_of_getElem? (i := 643) (by decide +kernel), List.mem_of_getElem? (i := 891) (by decide +kernel), List.mem_of_getElem? (i := 892) (by decide +kernel)⟩
theorem lw_p52 : lw_okq (⟨"SlackMarketModel", "sumOf", "(II)I"⟩, 19) := ⟨⟨by decide +kernel, by decide +kernel⟩, List.mem_of_getElem? (i := 643) (by decide +kernel), List.mem_of_getElem? (i := 895) (by decide +kernel), List.mem_of_getElem? (i := 896) (by decide +kernel)⟩
theorem lw_p53 : lw_okq (⟨"SlackMarketModel", "putAside", "()V"⟩, 19) := ⟨⟨by decide +kernel, by decide +kernel⟩, List.mem_of_getElem? (i := 643) (by decide +kernel), List.mem_of_getElem? (i := 903) (by decide +kernel), List.mem_of_getElem? (i := 904) (by decide +kernel)⟩
theorem lw_p54 : lw_okq (⟨"SlackMarketModel", "bringBack", "()V"⟩, 19) := ⟨⟨by decide +kernel, by decide +kernel⟩, List.mem_of_getElem? (i := 643) (by decide +kernel), List.mem_of_getElem? (i := 907) (by decide +kernel), List.mem_of_getElem? (i := 908) (by decide +kernel)⟩
theorem lw_p55 : lw_okq (⟨"SlackMarketModel", "readPad", "()V"⟩, 19) := ⟨⟨by decide +kernel, by decide +kernel⟩, List.mem_of_getElem? (i := 643) (by decide +kernel), List.mem_of_getElem? (i := 945) (by decide +kernel), List.mem_of_getElem? (i := 946) (by decide +kernel)⟩
theorem lw_p56 : lw_okq (⟨"SlackMarketModel", "readOrder", "(I)V"⟩, 19) := ⟨⟨by decide +kernel, by decide +kernel⟩, List.mem_of_getElem? (i := 643) (by decide +kernel), List.mem_of_getElem? (i := 949) (by decide +kernel), List.mem_of_getElem? (i := 950) (by decide +kernel)⟩
theorem lw_p57 : lw_okq (⟨"SlackMarketModel", "letter", "(I)I"⟩, 19) := ⟨⟨by decide +kernel, by decide +kernel⟩, List.mem_of_getElem? (i := 643) (by decide +kernel), List.mem_of_getElem? (i := 953) (by decide +kernel), List.mem_of_getElem? (i := 954) (by decide +kernel)⟩
theorem lw_p58 : lw_okq (⟨"SlackMarketModel", "readTask", "(I)V"⟩, 19) := ⟨⟨by decide +kernel, by decide +kernel⟩, List.mem_of_getElem? (i := 643) (by decide +kernel), List.mem_of_getElem? (i := 957) (by decide +kernel), List.mem_of_getElem? (i := 958) (by decide +kernel)⟩
theorem lw_p59 : lw_okq (⟨"SlackMarketModel", "takesMachine", "()I"⟩, 19) := ⟨⟨by decide +kernel, by decide +kernel⟩, List.mem_of_getElem? (i := 643) (by decide +kernel), List.mem_of_getElem? (i := 961) (by decide +kernel), List.mem_of_getElem? (i := 962) (by decide +kernel)⟩
theorem lw_p60 : lw_okq (⟨"SlackMarketModel", "fail", "()V"⟩, 19) := ⟨⟨by decide +kernel, by decide +kernel⟩, List.mem_of_getElem? (i := 643) (by decide +kernel), List.mem_of_getElem? (i := 965) (by decide +kernel), List.mem_of_getElem? (i := 966) (by decide +kernel)⟩
theorem lw_p61 : lw_okq (⟨"SlackMarketModel", "takes", "(I)V"⟩, 19) := ⟨⟨by decide +kernel, by decide +kernel⟩, List.mem_of_getElem? (i := 643) (by decide +kernel), List.mem_of_getElem? (i := 969) (by decide +kernel), List.mem_of_getElem? (i := 970) (by decide +kernel)⟩
theorem lw_p62 : lw_okq (⟨"SlackMarketModel", "takesNumber", "()I"⟩, 19) := ⟨⟨by decide +kernel, by decide +kernel⟩, List.mem_of_getElem? (i := 643) (by decide +kernel), List.mem_of_getElem? (i := 973) (by decide +kernel), List.mem_of_getElem? (i := 974) (by decide +kernel)⟩
theorem lw_p63 : lw_okq (⟨"SlackMarketModel", "isDigit", "(I)Z"⟩, 19) := ⟨⟨by decide +kernel, by decide +kernel⟩, List.mem_of_getElem? (i := 643) (by decide +kernel), List.mem_of_getElem? (i := 977) (by decide +kernel), List.mem_of_getElem? (i := 978) (by decide +kernel)⟩
def lw_privs_4 : List (MethodName × Nat) := [(⟨"SlackMarketModel", "behind", "(I)I"⟩, 19), (⟨"SlackMarketModel", "offers", "()I"⟩, 19), (⟨"SlackMarketModel", "lateSet", "()I"⟩, 19), (⟨"SlackMarketModel", "endOfAll", "()I"⟩, 19), (⟨"SlackMarketModel", "sumOf", "(II)I"⟩, 19), (⟨"SlackMarketModel", "putAside", "()V"⟩, 19), (⟨"SlackMarketModel", "bringBack", "()V"⟩, 19), (⟨"SlackMarketModel", "readPad", "()V"⟩, 19), (⟨"SlackMarketModel", "readOrder", "(I)V"⟩, 19), (⟨"SlackMarketModel", "letter", "(I)I"⟩, 19), (⟨"SlackMarketModel", "readTask", "(I)V"⟩, 19), (⟨"SlackMarketModel", "takesMachine", "()I"⟩, 19), (⟨"SlackMarketModel", "fail", "()V"⟩, 19), (⟨"SlackMarketModel", "takes", "(I)V"⟩, 19), (⟨"SlackMarketModel", "takesNumber", "()I"⟩, 19), (⟨"SlackMarketModel", "isDigit", "(I)Z"⟩, 19)]
theorem lw_r4 : ∀ q ∈ lw_privs_4, lw_okq q := List.forall_mem_cons.mpr ⟨lw_p48, List.forall_mem_cons.mpr ⟨lw_p49, List.forall_mem_cons.mpr ⟨lw_p50, List.forall_mem_cons.mpr ⟨lw_p51, List.forall_mem_cons.mpr ⟨lw_p52, List.forall_mem_cons.mpr ⟨lw_p53, List.forall_mem_cons.mpr ⟨lw_p54, List.forall_mem_cons.mpr ⟨lw_p55, List.forall_mem_cons.mpr ⟨lw_p56, List.forall_mem_cons.mpr ⟨lw_p57, List.forall_mem_cons.mpr ⟨lw_p58, List.forall_mem_cons.mpr ⟨lw_p59, List.forall_mem_cons.mpr ⟨lw_p60, List.forall_mem_cons.mpr ⟨lw_p61, List.forall_mem_cons.mpr ⟨lw_p62, List.forall_mem_cons.mpr ⟨lw_p63, fun _ h => absurd h List.not_mem_nil⟩⟩⟩⟩⟩⟩⟩⟩⟩⟩⟩⟩⟩⟩⟩⟩
theorem lw_p64 : lw_okq (⟨"SlackMarketModel", "readTwo", "(II)V"⟩, 19) := ⟨⟨by decide +kernel, by decide +kernel⟩, List.mem_of_getElem? (i := 643) (by decide +kernel), List.mem_of_getElem? (i := 981) (by decide +kernel), List.mem_of_getElem? (i := 982) (by decide +kernel)⟩
theorem lw_p65 : lw_okq (⟨"SlackMarketModel", "does", "(I)I"⟩, 19) := ⟨⟨by decide +kernel, by decide +kernel⟩, List.mem_of_getElem? (i := 643) (by decide +kernel), List.mem_of_getElem? (i := 989) (by decide +kernel), List.mem_of_getElem? (i := 990) (by decide +kernel)⟩
def lw_privs_5 : List (MethodName × Nat) := [(⟨"SlackMarketModel", "readTwo", "(II)V"⟩, 19), (⟨"SlackMarketModel", "does", "(I)I"⟩, 19)]
theorem lw_r5 : ∀ q ∈ lw_privs_5, lw_okq q := List.forall_mem_cons.mpr ⟨lw_p64, List.forall_mem_cons.mpr ⟨lw_p65, fun _ h => absurd h List.not_mem_nil⟩⟩
def lw_privs : List (MethodName × Nat) := lw_privs_1 ++ (lw_privs_2 ++ (lw_privs_3 ++ (lw_privs_4 ++ (lw_privs_5))))
def lw_tbl : List Cond := k2_sels lw_privs ++ tables_1
theorem lw_privs_ok : ∀ q ∈ lw_privs, lw_okq q := by
  show ∀ q ∈ lw_privs_1 ++ (lw_privs_2 ++ (lw_privs_3 ++ (lw_privs_4 ++ (lw_privs_5)))), lw_okq q
  exact List.forall_mem_append.mpr ⟨lw_r1, List.forall_mem_append.mpr ⟨lw_r2, List.forall_mem_append.mpr ⟨lw_r3, List.forall_mem_append.mpr ⟨lw_r4, lw_r5⟩⟩⟩⟩
-- ===== end of PART A; then your names; then what follows =====
def RX0 : String := "SlackMarket$Contracts"
def TX0 : u_T := fun k => match k with
  | 0 => ("SlackMarket$Contracts", "total", "I", false)
  | 1 => ("SlackMarket$Contracts", "sellers", "[I", true)
  | 2 => ("SlackMarket$Contracts", "buyers", "[I", true)
  | 3 => ("SlackMarket$Contracts", "hours", "[I", true)
  | _ => ("SlackMarket$Contracts", "prices", "[I", true)
def tyX0 : Nat → FieldType := fun k => match k with
  | 0 => .int
  | 1 => .array .int
  | 2 => .array .int
  | 3 => .array .int
  | _ => .array .int
abbrev wsX00 : List Cond := u_ws RX0 TX0 5
theorem nmX0 : ∀ a, a < 5 → ∀ b, b < 5 → a ≠ b → (TX0 a).2.1 ≠ (TX0 b).2.1 := by decide +kernel
theorem tyX0_ok : ∀ k, k < 5 → parseFieldDescriptor (TX0 k).2.2.1 = some (tyX0 k) := by decide +kernel
abbrev cX0_init : ByteArray := prog_2_method_1_code
def yX0_init : MethodName := ⟨RX0, "<init>", "()V"⟩
abbrev cX0_copyFrom : ByteArray := prog_2_method_2_code
def yX0_copyFrom : MethodName := ⟨RX0, "copyFrom", "(LSlackMarket$Contracts;)V"⟩
abbrev cX0_has : ByteArray := prog_2_method_3_code
def yX0_has : MethodName := ⟨RX0, "has", "(I)Z"⟩
abbrev cX0_tell : ByteArray := prog_2_method_4_code
def yX0_tell : MethodName := ⟨RX0, "tell", "(II)I"⟩
abbrev cX0_append : ByteArray := prog_2_method_5_code
def yX0_append : MethodName := ⟨RX0, "append", "(IIII)Z"⟩
abbrev cX0_lessen : ByteArray := prog_2_method_6_code
def yX0_lessen : MethodName := ⟨RX0, "lessen", "(II)I"⟩
abbrev cX0_remove : ByteArray := prog_2_method_7_code
def yX0_remove : MethodName := ⟨RX0, "remove", "(I)V"⟩
abbrev cX0_soldBy : ByteArray := prog_2_method_8_code
def yX0_soldBy : MethodName := ⟨RX0, "soldBy", "(I)I"⟩
abbrev cX0_boughtBy : ByteArray := prog_2_method_9_code
def yX0_boughtBy : MethodName := ⟨RX0, "boughtBy", "(I)I"⟩
abbrev cX0_allHours : ByteArray := prog_2_method_10_code
def yX0_allHours : MethodName := ⟨RX0, "allHours", "()I"⟩
abbrev cX0_sellersSince : ByteArray := prog_2_method_11_code
def yX0_sellersSince : MethodName := ⟨RX0, "sellersSince", "(I)I"⟩
def RX1 : String := "SlackMarket$History"
def TX1 : u_T := fun k => match k with
  | 0 => ("SlackMarket$History", "ring", "[LSlackMarket$Market;", true)
  | 1 => ("SlackMarket$History", "first", "I", false)
  | _ => ("SlackMarket$History", "kept", "I", false)
def tyX1 : Nat → FieldType := fun k => match k with
  | 0 => .array (.object "SlackMarket$Market")
  | 1 => .int
  | _ => .int
abbrev wsX10 : List Cond := u_ws RX1 TX1 3
theorem nmX1 : ∀ a, a < 3 → ∀ b, b < 3 → a ≠ b → (TX1 a).2.1 ≠ (TX1 b).2.1 := by decide +kernel
theorem tyX1_ok : ∀ k, k < 3 → parseFieldDescriptor (TX1 k).2.2.1 = some (tyX1 k) := by decide +kernel
abbrev cX1_init : ByteArray := prog_3_method_1_code
def yX1_init : MethodName := ⟨RX1, "<init>", "()V"⟩
abbrev cX1_prepare : ByteArray := prog_3_method_2_code
def yX1_prepare : MethodName := ⟨RX1, "prepare", "(LSlackMarket$Market;)V"⟩
abbrev cX1_record : ByteArray := prog_3_method_3_code
def yX1_record : MethodName := ⟨RX1, "record", "(I)I"⟩
abbrev cX1_takeBack : ByteArray := prog_3_method_4_code
def yX1_takeBack : MethodName := ⟨RX1, "takeBack", "(LSlackMarket$Market;)I"⟩
def RX2 : String := "SlackMarket$Market"
def TX2 : u_T := fun k => match k with
  | 0 => ("SlackMarket$Market", "plan", "LSlackMarket$Plan;", true)
  | 1 => ("SlackMarket$Market", "contracts", "LSlackMarket$Contracts;", true)
  | 2 => ("SlackMarket$Market", "refundPercent", "I", false)
  | 3 => ("SlackMarket$Market", "reach", "I", false)
  | 4 => ("SlackMarket$Market", "dueOf", "[I", true)
  | 5 => ("SlackMarket$Market", "moneyOf", "[I", true)
  | 6 => ("SlackMarket$Market", "offered", "[I", true)
  | 7 => ("SlackMarket$Market", "prices", "[I", true)
  | _ => ("SlackMarket$Market", "latestEnds", "[I", true)
def tyX2 : Nat → FieldType := fun k => match k with
  | 0 => .object "SlackMarket$Plan"
  | 1 => .object "SlackMarket$Contracts"
  | 2 => .int
  | 3 => .int
  | 4 => .array .int
  | 5 => .array .int
  | 6 => .array .int
  | 7 => .array .int
  | _ => .array .int
abbrev wsX20 : List Cond := u_ws RX2 TX2 9
theorem nmX2 : ∀ a, a < 9 → ∀ b, b < 9 → a ≠ b → (TX2 a).2.1 ≠ (TX2 b).2.1 := by decide +kernel
theorem tyX2_ok : ∀ k, k < 9 → parseFieldDescriptor (TX2 k).2.2.1 = some (tyX2 k) := by decide +kernel
abbrev cX2_init : ByteArray := prog_4_method_1_code
def yX2_init : MethodName := ⟨RX2, "<init>", "()V"⟩
abbrev cX2_copyFrom : ByteArray := prog_4_method_2_code
def yX2_copyFrom : MethodName := ⟨RX2, "copyFrom", "(LSlackMarket$Market;)V"⟩
abbrev cX2_changeSetting : ByteArray := prog_4_method_3_code
def yX2_changeSetting : MethodName := ⟨RX2, "changeSetting", "(II)I"⟩
abbrev cX2_addTask : ByteArray := prog_4_method_4_code
def yX2_addTask : MethodName := ⟨RX2, "addTask", "(IIIII)I"⟩
abbrev cX2_changeDuration : ByteArray := prog_4_method_5_code
def yX2_changeDuration : MethodName := ⟨RX2, "changeDuration", "(II)I"⟩
abbrev cX2_moveTask : ByteArray := prog_4_method_6_code
def yX2_moveTask : MethodName := ⟨RX2, "moveTask", "(II)I"⟩
abbrev cX2_makeOffer : ByteArray := prog_4_method_7_code
def yX2_makeOffer : MethodName := ⟨RX2, "makeOffer", "(III)I"⟩
abbrev cX2_setOffer : ByteArray := prog_4_method_8_code
def yX2_setOffer : MethodName := ⟨RX2, "setOffer", "(III)V"⟩
abbrev cX2_giveMoney : ByteArray := prog_4_method_9_code
def yX2_giveMoney : MethodName := ⟨RX2, "giveMoney", "(III)I"⟩
abbrev cX2_giveBack : ByteArray := prog_4_method_10_code
def yX2_giveBack : MethodName := ⟨RX2, "giveBack", "(II)I"⟩
abbrev cX2_tradeAll : ByteArray := prog_4_method_11_code
def yX2_tradeAll : MethodName := ⟨RX2, "tradeAll", "()I"⟩
abbrev cX2_latestExcept : ByteArray := prog_4_method_12_code
def yX2_latestExcept : MethodName := ⟨RX2, "latestExcept", "(I)I"⟩
abbrev cX2_buyFor : ByteArray := prog_4_method_13_code
def yX2_buyFor : MethodName := ⟨RX2, "buyFor", "(I)V"⟩
abbrev cX2_bestSellerExcept : ByteArray := prog_4_method_14_code
def yX2_bestSellerExcept : MethodName := ⟨RX2, "bestSellerExcept", "(I)I"⟩
abbrev cX2_isInReach : ByteArray := prog_4_method_15_code
def yX2_isInReach : MethodName := ⟨RX2, "isInReach", "(I)Z"⟩
abbrev cX2_isBetterSeller : ByteArray := prog_4_method_16_code
def yX2_isBetterSeller : MethodName := ⟨RX2, "isBetterSeller", "(II)Z"⟩
abbrev cX2_buyFrom : ByteArray := prog_4_method_17_code
def yX2_buyFrom : MethodName := ⟨RX2, "buyFrom", "(II)V"⟩
abbrev cX2_lateOf : ByteArray := prog_4_method_18_code
def yX2_lateOf : MethodName := ⟨RX2, "lateOf", "(I)I"⟩
abbrev cX2_spareOf : ByteArray := prog_4_method_19_code
def yX2_spareOf : MethodName := ⟨RX2, "spareOf", "(I)I"⟩
abbrev cX2_lateTogether : ByteArray := prog_4_method_20_code
def yX2_lateTogether : MethodName := ⟨RX2, "lateTogether", "()I"⟩
abbrev cX2_lateTasks : ByteArray := prog_4_method_21_code
def yX2_lateTasks : MethodName := ⟨RX2, "lateTasks", "()I"⟩
abbrev cX2_offers : ByteArray := prog_4_method_22_code
def yX2_offers : MethodName := ⟨RX2, "offers", "()I"⟩
abbrev cX2_allMoney : ByteArray := prog_4_method_23_code
def yX2_allMoney : MethodName := ⟨RX2, "allMoney", "()I"⟩
abbrev cX2_slackOf : ByteArray := prog_4_method_24_code
def yX2_slackOf : MethodName := ⟨RX2, "slackOf", "(I)I"⟩
abbrev cX2_lowerLatestEnd : ByteArray := prog_4_method_25_code
def yX2_lowerLatestEnd : MethodName := ⟨RX2, "lowerLatestEnd", "(II)V"⟩
abbrev cX2_findBestPlace : ByteArray := prog_4_method_26_code
def yX2_findBestPlace : MethodName := ⟨RX2, "findBestPlace", "(I)I"⟩
abbrev cX2_tellOfTask : ByteArray := prog_4_method_27_code
def yX2_tellOfTask : MethodName := ⟨RX2, "tellOfTask", "(II)I"⟩
abbrev cX2_tellOfAll : ByteArray := prog_4_method_28_code
def yX2_tellOfAll : MethodName := ⟨RX2, "tellOfAll", "(I)I"⟩
def RX3 : String := "SlackMarket$Pad"
def TX3 : u_T := fun k => match k with
  | 0 => ("SlackMarket$Pad", "text", "[C", true)
  | 1 => ("SlackMarket$Pad", "length", "I", false)
  | 2 => ("SlackMarket$Pad", "at", "I", false)
  | 3 => ("SlackMarket$Pad", "kind", "I", false)
  | 4 => ("SlackMarket$Pad", "numbers", "[I", true)
  | _ => ("SlackMarket$Pad", "read", "I", false)
def tyX3 : Nat → FieldType := fun k => match k with
  | 0 => .array .char
  | 1 => .int
  | 2 => .int
  | 3 => .int
  | 4 => .array .int
  | _ => .int
abbrev wsX30 : List Cond := u_ws RX3 TX3 6
theorem nmX3 : ∀ a, a < 6 → ∀ b, b < 6 → a ≠ b → (TX3 a).2.1 ≠ (TX3 b).2.1 := by decide +kernel
theorem tyX3_ok : ∀ k, k < 6 → parseFieldDescriptor (TX3 k).2.2.1 = some (tyX3 k) := by decide +kernel
abbrev cX3_init : ByteArray := prog_5_method_1_code
def yX3_init : MethodName := ⟨RX3, "<init>", "()V"⟩
abbrev cX3_append : ByteArray := prog_5_method_2_code
def yX3_append : MethodName := ⟨RX3, "append", "(J)I"⟩
abbrev cX3_clear : ByteArray := prog_5_method_3_code
def yX3_clear : MethodName := ⟨RX3, "clear", "()I"⟩
abbrev cX3_toStart : ByteArray := prog_5_method_4_code
def yX3_toStart : MethodName := ⟨RX3, "toStart", "()V"⟩
abbrev cX3_findFault : ByteArray := prog_5_method_5_code
def yX3_findFault : MethodName := ⟨RX3, "findFault", "()I"⟩
abbrev cX3_readNext : ByteArray := prog_5_method_6_code
def yX3_readNext : MethodName := ⟨RX3, "readNext", "()Z"⟩
abbrev cX3_readOrder : ByteArray := prog_5_method_7_code
def yX3_readOrder : MethodName := ⟨RX3, "readOrder", "()Z"⟩
abbrev cX3_readTask : ByteArray := prog_5_method_8_code
def yX3_readTask : MethodName := ⟨RX3, "readTask", "()Z"⟩
abbrev cX3_readPair : ByteArray := prog_5_method_9_code
def yX3_readPair : MethodName := ⟨RX3, "readPair", "(C)Z"⟩
abbrev cX3_here : ByteArray := prog_5_method_10_code
def yX3_here : MethodName := ⟨RX3, "here", "()I"⟩
abbrev cX3_readSign : ByteArray := prog_5_method_11_code
def yX3_readSign : MethodName := ⟨RX3, "readSign", "(C)Z"⟩
abbrev cX3_isDigit : ByteArray := prog_5_method_12_code
def yX3_isDigit : MethodName := ⟨RX3, "isDigit", "()Z"⟩
abbrev cX3_readDigit : ByteArray := prog_5_method_13_code
def yX3_readDigit : MethodName := ⟨RX3, "readDigit", "()Z"⟩
abbrev cX3_readNumber : ByteArray := prog_5_method_14_code
def yX3_readNumber : MethodName := ⟨RX3, "readNumber", "()Z"⟩
abbrev cX3_keep : ByteArray := prog_5_method_15_code
def yX3_keep : MethodName := ⟨RX3, "keep", "(I)Z"⟩
def RX4 : String := "SlackMarket$Plan"
def TX4 : u_T := fun k => match k with
  | 0 => ("SlackMarket$Plan", "tasks", "I", false)
  | 1 => ("SlackMarket$Plan", "machineOf", "[I", true)
  | 2 => ("SlackMarket$Plan", "durationOf", "[I", true)
  | 3 => ("SlackMarket$Plan", "aheadOf", "[I", true)
  | 4 => ("SlackMarket$Plan", "ends", "[I", true)
  | 5 => ("SlackMarket$Plan", "order", "[I", true)
  | 6 => ("SlackMarket$Plan", "rows", "[I", true)
  | 7 => ("SlackMarket$Plan", "rowLength", "[I", true)
  | 8 => ("SlackMarket$Plan", "rowEnded", "[I", true)
  | _ => ("SlackMarket$Plan", "links", "[I", true)
def tyX4 : Nat → FieldType := fun k => match k with
  | 0 => .int
  | 1 => .array .int
  | 2 => .array .int
  | 3 => .array .int
  | 4 => .array .int
  | 5 => .array .int
  | 6 => .array .int
  | 7 => .array .int
  | 8 => .array .int
  | _ => .array .int
abbrev wsX40 : List Cond := u_ws RX4 TX4 10
theorem nmX4 : ∀ a, a < 10 → ∀ b, b < 10 → a ≠ b → (TX4 a).2.1 ≠ (TX4 b).2.1 := by decide +kernel
theorem tyX4_ok : ∀ k, k < 10 → parseFieldDescriptor (TX4 k).2.2.1 = some (tyX4 k) := by decide +kernel
abbrev cX4_init : ByteArray := prog_6_method_1_code
def yX4_init : MethodName := ⟨RX4, "<init>", "()V"⟩
abbrev cX4_copyFrom : ByteArray := prog_6_method_2_code
def yX4_copyFrom : MethodName := ⟨RX4, "copyFrom", "(LSlackMarket$Plan;)V"⟩
abbrev cX4_has : ByteArray := prog_6_method_3_code
def yX4_has : MethodName := ⟨RX4, "has", "(I)Z"⟩
abbrev cX4_inRow : ByteArray := prog_6_method_4_code
def yX4_inRow : MethodName := ⟨RX4, "inRow", "(II)I"⟩
abbrev cX4_placeOf : ByteArray := prog_6_method_5_code
def yX4_placeOf : MethodName := ⟨RX4, "placeOf", "(I)I"⟩
abbrev cX4_inFrontOf : ByteArray := prog_6_method_6_code
def yX4_inFrontOf : MethodName := ⟨RX4, "inFrontOf", "(I)I"⟩
abbrev cX4_endOf : ByteArray := prog_6_method_7_code
def yX4_endOf : MethodName := ⟨RX4, "endOf", "(I)I"⟩
abbrev cX4_startOf : ByteArray := prog_6_method_8_code
def yX4_startOf : MethodName := ⟨RX4, "startOf", "(I)I"⟩
abbrev cX4_endOfAll : ByteArray := prog_6_method_9_code
def yX4_endOfAll : MethodName := ⟨RX4, "endOfAll", "()I"⟩
abbrev cX4_append : ByteArray := prog_6_method_10_code
def yX4_append : MethodName := ⟨RX4, "append", "(III)V"⟩
abbrev cX4_shift : ByteArray := prog_6_method_11_code
def yX4_shift : MethodName := ⟨RX4, "shift", "(II)V"⟩
abbrev cX4_schedule : ByteArray := prog_6_method_12_code
def yX4_schedule : MethodName := ⟨RX4, "schedule", "()Z"⟩
abbrev cX4_scheduleRow : ByteArray := prog_6_method_13_code
def yX4_scheduleRow : MethodName := ⟨RX4, "scheduleRow", "(II)I"⟩
abbrev cX4_followersOf : ByteArray := prog_6_method_14_code
def yX4_followersOf : MethodName := ⟨RX4, "followersOf", "(I)I"⟩
abbrev cX4_longestChain : ByteArray := prog_6_method_15_code
def yX4_longestChain : MethodName := ⟨RX4, "longestChain", "()I"⟩
abbrev cX4_waitedFor : ByteArray := prog_6_method_16_code
def yX4_waitedFor : MethodName := ⟨RX4, "waitedFor", "(I)I"⟩
abbrev cX4_measureFrom : ByteArray := prog_6_method_17_code
def yX4_measureFrom : MethodName := ⟨RX4, "measureFrom", "(I)V"⟩
abbrev cX4_linkFrom : ByteArray := prog_6_method_18_code
def yX4_linkFrom : MethodName := ⟨RX4, "linkFrom", "(I)V"⟩
def RX5 : String := "SlackMarket"
def TX5 : u_T := fun k => match k with
  | 0 => ("SlackMarket", "now", "LSlackMarket$Market;", true)
  | 1 => ("SlackMarket", "trial", "LSlackMarket$Market;", true)
  | 2 => ("SlackMarket", "history", "LSlackMarket$History;", true)
  | 3 => ("SlackMarket", "slots", "[LSlackMarket$Market;", true)
  | 4 => ("SlackMarket", "slotFilled", "[Z", true)
  | _ => ("SlackMarket", "pad", "LSlackMarket$Pad;", true)
def tyX5 : Nat → FieldType := fun k => match k with
  | 0 => .object "SlackMarket$Market"
  | 1 => .object "SlackMarket$Market"
  | 2 => .object "SlackMarket$History"
  | 3 => .array (.object "SlackMarket$Market")
  | 4 => .array .boolean
  | _ => .object "SlackMarket$Pad"
abbrev wsX50 : List Cond := u_ws RX5 TX5 6
theorem nmX5 : ∀ a, a < 6 → ∀ b, b < 6 → a ≠ b → (TX5 a).2.1 ≠ (TX5 b).2.1 := by decide +kernel
theorem tyX5_ok : ∀ k, k < 6 → parseFieldDescriptor (TX5 k).2.2.1 = some (tyX5 k) := by decide +kernel
abbrev cX5_init : ByteArray := prog_1_method_1_code
def yX5_init : MethodName := ⟨RX5, "<init>", "()V"⟩
abbrev cX5_set : ByteArray := prog_1_method_2_code
def yX5_set : MethodName := ⟨RX5, "set", "(II)I"⟩
abbrev cX5_task : ByteArray := prog_1_method_3_code
def yX5_task : MethodName := ⟨RX5, "task", "(IIIII)I"⟩
abbrev cX5_duration : ByteArray := prog_1_method_4_code
def yX5_duration : MethodName := ⟨RX5, "duration", "(II)I"⟩
abbrev cX5_move : ByteArray := prog_1_method_5_code
def yX5_move : MethodName := ⟨RX5, "move", "(II)I"⟩
abbrev cX5_offer : ByteArray := prog_1_method_6_code
def yX5_offer : MethodName := ⟨RX5, "offer", "(III)I"⟩
abbrev cX5_trade : ByteArray := prog_1_method_7_code
def yX5_trade : MethodName := ⟨RX5, "trade", "()I"⟩
abbrev cX5_refund : ByteArray := prog_1_method_8_code
def yX5_refund : MethodName := ⟨RX5, "refund", "(II)I"⟩
abbrev cX5_give : ByteArray := prog_1_method_9_code
def yX5_give : MethodName := ⟨RX5, "give", "(III)I"⟩
abbrev cX5_ofTask : ByteArray := prog_1_method_10_code
def yX5_ofTask : MethodName := ⟨RX5, "ofTask", "(II)I"⟩
abbrev cX5_due : ByteArray := prog_1_method_11_code
def yX5_due : MethodName := ⟨RX5, "due", "(I)J"⟩
abbrev cX5_money : ByteArray := prog_1_method_12_code
def yX5_money : MethodName := ⟨RX5, "money", "(I)I"⟩
abbrev cX5_at : ByteArray := prog_1_method_13_code
def yX5_at : MethodName := ⟨RX5, "at", "(II)I"⟩
abbrev cX5_ofContract : ByteArray := prog_1_method_14_code
def yX5_ofContract : MethodName := ⟨RX5, "ofContract", "(II)I"⟩
abbrev cX5_count : ByteArray := prog_1_method_15_code
def yX5_count : MethodName := ⟨RX5, "count", "(I)I"⟩
abbrev cX5_distance : ByteArray := prog_1_method_16_code
def yX5_distance : MethodName := ⟨RX5, "distance", "(II)I"⟩
abbrev cX5_wouldBuy : ByteArray := prog_1_method_17_code
def yX5_wouldBuy : MethodName := ⟨RX5, "wouldBuy", "(II)I"⟩
abbrev cX5_leastMoney : ByteArray := prog_1_method_18_code
def yX5_leastMoney : MethodName := ⟨RX5, "leastMoney", "(I)I"⟩
abbrev cX5_endIf : ByteArray := prog_1_method_19_code
def yX5_endIf : MethodName := ⟨RX5, "endIf", "(III)I"⟩
abbrev cX5_bestPlace : ByteArray := prog_1_method_20_code
def yX5_bestPlace : MethodName := ⟨RX5, "bestPlace", "(I)I"⟩
abbrev cX5_critical : ByteArray := prog_1_method_21_code
def yX5_critical : MethodName := ⟨RX5, "critical", "()I"⟩
abbrev cX5_lateBehind : ByteArray := prog_1_method_22_code
def yX5_lateBehind : MethodName := ⟨RX5, "lateBehind", "()I"⟩
abbrev cX5_put : ByteArray := prog_1_method_23_code
def yX5_put : MethodName := ⟨RX5, "put", "(J)I"⟩
abbrev cX5_wipe : ByteArray := prog_1_method_24_code
def yX5_wipe : MethodName := ⟨RX5, "wipe", "()I"⟩
abbrev cX5_fault : ByteArray := prog_1_method_25_code
def yX5_fault : MethodName := ⟨RX5, "fault", "()I"⟩
abbrev cX5_carryOut : ByteArray := prog_1_method_26_code
def yX5_carryOut : MethodName := ⟨RX5, "carryOut", "()I"⟩
abbrev cX5_carryOrders : ByteArray := prog_1_method_27_code
def yX5_carryOrders : MethodName := ⟨RX5, "carryOrders", "()I"⟩
abbrev cX5_carryOrder : ByteArray := prog_1_method_28_code
def yX5_carryOrder : MethodName := ⟨RX5, "carryOrder", "()I"⟩
abbrev cX5_undo : ByteArray := prog_1_method_29_code
def yX5_undo : MethodName := ⟨RX5, "undo", "()I"⟩
abbrev cX5_save : ByteArray := prog_1_method_30_code
def yX5_save : MethodName := ⟨RX5, "save", "(I)I"⟩
abbrev cX5_restore : ByteArray := prog_1_method_31_code
def yX5_restore : MethodName := ⟨RX5, "restore", "(I)I"⟩
def RX6 : String := "SlackMarketModel"
def TX6 : u_T := fun k => match k with
  | 0 => ("SlackMarketModel", "z", "[I", true)
  | 1 => ("SlackMarketModel", "past", "[I", true)
  | 2 => ("SlackMarketModel", "slots", "[I", true)
  | 3 => ("SlackMarketModel", "isSaved", "[Z", true)
  | 4 => ("SlackMarketModel", "spare", "[I", true)
  | 5 => ("SlackMarketModel", "pastMany", "I", false)
  | 6 => ("SlackMarketModel", "isQuiet", "Z", false)
  | 7 => ("SlackMarketModel", "pad", "[C", true)
  | 8 => ("SlackMarketModel", "typed", "I", false)
  | 9 => ("SlackMarketModel", "starts", "[I", true)
  | 10 => ("SlackMarketModel", "ends", "[I", true)
  | 11 => ("SlackMarketModel", "heldTask", "I", false)
  | 12 => ("SlackMarketModel", "heldHours", "I", false)
  | 13 => ("SlackMarketModel", "far", "[I", true)
  | 14 => ("SlackMarketModel", "lateFirst", "[I", true)
  | 15 => ("SlackMarketModel", "orders", "[I", true)
  | 16 => ("SlackMarketModel", "ordersMany", "I", false)
  | 17 => ("SlackMarketModel", "spot", "I", false)
  | _ => ("SlackMarketModel", "wrong", "I", false)
def tyX6 : Nat → FieldType := fun k => match k with
  | 0 => .array .int
  | 1 => .array .int
  | 2 => .array .int
  | 3 => .array .boolean
  | 4 => .array .int
  | 5 => .int
  | 6 => .boolean
  | 7 => .array .char
  | 8 => .int
  | 9 => .array .int
  | 10 => .array .int
  | 11 => .int
  | 12 => .int
  | 13 => .array .int
  | 14 => .array .int
  | 15 => .array .int
  | 16 => .int
  | 17 => .int
  | _ => .int
abbrev wsX60 : List Cond := u_ws RX6 TX6 19
theorem nmX6 : ∀ a, a < 19 → ∀ b, b < 19 → a ≠ b → (TX6 a).2.1 ≠ (TX6 b).2.1 := by decide +kernel
theorem tyX6_ok : ∀ k, k < 19 → parseFieldDescriptor (TX6 k).2.2.1 = some (tyX6 k) := by decide +kernel
abbrev cX6_init : ByteArray := prog_8_method_1_code
def yX6_init : MethodName := ⟨RX6, "<init>", "()V"⟩
abbrev cX6_in : ByteArray := prog_8_method_2_code
def yX6_in : MethodName := ⟨RX6, "in", "(III)Z"⟩
abbrev cX6_record : ByteArray := prog_8_method_3_code
def yX6_record : MethodName := ⟨RX6, "record", "()V"⟩
abbrev cX6_undo : ByteArray := prog_8_method_4_code
def yX6_undo : MethodName := ⟨RX6, "undo", "()I"⟩
abbrev cX6_save : ByteArray := prog_8_method_5_code
def yX6_save : MethodName := ⟨RX6, "save", "(I)I"⟩
abbrev cX6_restore : ByteArray := prog_8_method_6_code
def yX6_restore : MethodName := ⟨RX6, "restore", "(I)I"⟩
abbrev cX6_putAside : ByteArray := prog_8_method_7_code
def yX6_putAside : MethodName := ⟨RX6, "putAside", "()V"⟩
abbrev cX6_bringBack : ByteArray := prog_8_method_8_code
def yX6_bringBack : MethodName := ⟨RX6, "bringBack", "()V"⟩
abbrev cX6_isTask : ByteArray := prog_8_method_9_code
def yX6_isTask : MethodName := ⟨RX6, "isTask", "(I)Z"⟩
abbrev cX6_manyOn : ByteArray := prog_8_method_10_code
def yX6_manyOn : MethodName := ⟨RX6, "manyOn", "(I)I"⟩
abbrev cX6_taskAt : ByteArray := prog_8_method_11_code
def yX6_taskAt : MethodName := ⟨RX6, "taskAt", "(II)I"⟩
abbrev cX6_endOf : ByteArray := prog_8_method_12_code
def yX6_endOf : MethodName := ⟨RX6, "endOf", "(I)I"⟩
abbrev cX6_reckon : ByteArray := prog_8_method_13_code
def yX6_reckon : MethodName := ⟨RX6, "reckon", "()Z"⟩
abbrev cX6_late : ByteArray := prog_8_method_14_code
def yX6_late : MethodName := ⟨RX6, "late", "(I)I"⟩
abbrev cX6_spared : ByteArray := prog_8_method_15_code
def yX6_spared : MethodName := ⟨RX6, "spared", "(I)I"⟩
abbrev cX6_lateTogether : ByteArray := prog_8_method_16_code
def yX6_lateTogether : MethodName := ⟨RX6, "lateTogether", "()I"⟩
abbrev cX6_canBeHeld : ByteArray := prog_8_method_17_code
def yX6_canBeHeld : MethodName := ⟨RX6, "canBeHeld", "(II)Z"⟩
abbrev cX6_slack : ByteArray := prog_8_method_18_code
def yX6_slack : MethodName := ⟨RX6, "slack", "(I)I"⟩
abbrev cX6_set : ByteArray := prog_8_method_19_code
def yX6_set : MethodName := ⟨RX6, "set", "(II)I"⟩
abbrev cX6_task : ByteArray := prog_8_method_20_code
def yX6_task : MethodName := ⟨RX6, "task", "(IIIII)I"⟩
abbrev cX6_duration : ByteArray := prog_8_method_21_code
def yX6_duration : MethodName := ⟨RX6, "duration", "(II)I"⟩
abbrev cX6_putAt : ByteArray := prog_8_method_22_code
def yX6_putAt : MethodName := ⟨RX6, "putAt", "(II)V"⟩
abbrev cX6_move : ByteArray := prog_8_method_23_code
def yX6_move : MethodName := ⟨RX6, "move", "(II)I"⟩
abbrev cX6_areLinked : ByteArray := prog_8_method_24_code
def yX6_areLinked : MethodName := ⟨RX6, "areLinked", "(II)Z"⟩
abbrev cX6_measure : ByteArray := prog_8_method_25_code
def yX6_measure : MethodName := ⟨RX6, "measure", "(I)V"⟩
abbrev cX6_distance : ByteArray := prog_8_method_26_code
def yX6_distance : MethodName := ⟨RX6, "distance", "(II)I"⟩
abbrev cX6_offer : ByteArray := prog_8_method_27_code
def yX6_offer : MethodName := ⟨RX6, "offer", "(III)I"⟩
abbrev cX6_nextOffer : ByteArray := prog_8_method_28_code
def yX6_nextOffer : MethodName := ⟨RX6, "nextOffer", "(II)I"⟩
abbrev cX6_isSooner : ByteArray := prog_8_method_29_code
def yX6_isSooner : MethodName := ⟨RX6, "isSooner", "(II)Z"⟩
abbrev cX6_less : ByteArray := prog_8_method_30_code
def yX6_less : MethodName := ⟨RX6, "less", "(II)I"⟩
abbrev cX6_hoursOf : ByteArray := prog_8_method_31_code
def yX6_hoursOf : MethodName := ⟨RX6, "hoursOf", "(II)I"⟩
abbrev cX6_agree : ByteArray := prog_8_method_32_code
def yX6_agree : MethodName := ⟨RX6, "agree", "(III)V"⟩
abbrev cX6_buys : ByteArray := prog_8_method_33_code
def yX6_buys : MethodName := ⟨RX6, "buys", "(I)V"⟩
abbrev cX6_tradeAll : ByteArray := prog_8_method_34_code
def yX6_tradeAll : MethodName := ⟨RX6, "tradeAll", "()V"⟩
abbrev cX6_trade : ByteArray := prog_8_method_35_code
def yX6_trade : MethodName := ⟨RX6, "trade", "()I"⟩
abbrev cX6_isContract : ByteArray := prog_8_method_36_code
def yX6_isContract : MethodName := ⟨RX6, "isContract", "(I)Z"⟩
abbrev cX6_refund : ByteArray := prog_8_method_37_code
def yX6_refund : MethodName := ⟨RX6, "refund", "(II)I"⟩
abbrev cX6_dropContract : ByteArray := prog_8_method_38_code
def yX6_dropContract : MethodName := ⟨RX6, "dropContract", "(I)V"⟩
abbrev cX6_give : ByteArray := prog_8_method_39_code
def yX6_give : MethodName := ⟨RX6, "give", "(III)I"⟩
abbrev cX6_hoursBy : ByteArray := prog_8_method_40_code
def yX6_hoursBy : MethodName := ⟨RX6, "hoursBy", "(II)I"⟩
abbrev cX6_behind : ByteArray := prog_8_method_41_code
def yX6_behind : MethodName := ⟨RX6, "behind", "(I)I"⟩
abbrev cX6_ofTask : ByteArray := prog_8_method_42_code
def yX6_ofTask : MethodName := ⟨RX6, "ofTask", "(II)I"⟩
abbrev cX6_due : ByteArray := prog_8_method_43_code
def yX6_due : MethodName := ⟨RX6, "due", "(I)J"⟩
abbrev cX6_money : ByteArray := prog_8_method_44_code
def yX6_money : MethodName := ⟨RX6, "money", "(I)I"⟩
abbrev cX6_at : ByteArray := prog_8_method_45_code
def yX6_at : MethodName := ⟨RX6, "at", "(II)I"⟩
abbrev cX6_ofContract : ByteArray := prog_8_method_46_code
def yX6_ofContract : MethodName := ⟨RX6, "ofContract", "(II)I"⟩
abbrev cX6_offers : ByteArray := prog_8_method_47_code
def yX6_offers : MethodName := ⟨RX6, "offers", "()I"⟩
abbrev cX6_lateSet : ByteArray := prog_8_method_48_code
def yX6_lateSet : MethodName := ⟨RX6, "lateSet", "()I"⟩
abbrev cX6_endOfAll : ByteArray := prog_8_method_49_code
def yX6_endOfAll : MethodName := ⟨RX6, "endOfAll", "()I"⟩
abbrev cX6_sumOf : ByteArray := prog_8_method_50_code
def yX6_sumOf : MethodName := ⟨RX6, "sumOf", "(II)I"⟩
abbrev cX6_count : ByteArray := prog_8_method_51_code
def yX6_count : MethodName := ⟨RX6, "count", "(I)I"⟩
abbrev cX6_wouldBuy : ByteArray := prog_8_method_52_code
def yX6_wouldBuy : MethodName := ⟨RX6, "wouldBuy", "(II)I"⟩
abbrev cX6_leastMoney : ByteArray := prog_8_method_53_code
def yX6_leastMoney : MethodName := ⟨RX6, "leastMoney", "(I)I"⟩
abbrev cX6_endIf : ByteArray := prog_8_method_54_code
def yX6_endIf : MethodName := ⟨RX6, "endIf", "(III)I"⟩
abbrev cX6_bestPlace : ByteArray := prog_8_method_55_code
def yX6_bestPlace : MethodName := ⟨RX6, "bestPlace", "(I)I"⟩
abbrev cX6_critical : ByteArray := prog_8_method_56_code
def yX6_critical : MethodName := ⟨RX6, "critical", "()I"⟩
abbrev cX6_lateBehind : ByteArray := prog_8_method_57_code
def yX6_lateBehind : MethodName := ⟨RX6, "lateBehind", "()I"⟩
abbrev cX6_put : ByteArray := prog_8_method_58_code
def yX6_put : MethodName := ⟨RX6, "put", "(J)I"⟩
abbrev cX6_wipe : ByteArray := prog_8_method_59_code
def yX6_wipe : MethodName := ⟨RX6, "wipe", "()I"⟩
abbrev cX6_letter : ByteArray := prog_8_method_60_code
def yX6_letter : MethodName := ⟨RX6, "letter", "(I)I"⟩
abbrev cX6_isDigit : ByteArray := prog_8_method_61_code
def yX6_isDigit : MethodName := ⟨RX6, "isDigit", "(I)Z"⟩
abbrev cX6_fail : ByteArray := prog_8_method_62_code
def yX6_fail : MethodName := ⟨RX6, "fail", "()V"⟩
abbrev cX6_takes : ByteArray := prog_8_method_63_code
def yX6_takes : MethodName := ⟨RX6, "takes", "(I)V"⟩
abbrev cX6_takesNumber : ByteArray := prog_8_method_64_code
def yX6_takesNumber : MethodName := ⟨RX6, "takesNumber", "()I"⟩
abbrev cX6_takesMachine : ByteArray := prog_8_method_65_code
def yX6_takesMachine : MethodName := ⟨RX6, "takesMachine", "()I"⟩
abbrev cX6_readTask : ByteArray := prog_8_method_66_code
def yX6_readTask : MethodName := ⟨RX6, "readTask", "(I)V"⟩
abbrev cX6_readTwo : ByteArray := prog_8_method_67_code
def yX6_readTwo : MethodName := ⟨RX6, "readTwo", "(II)V"⟩
abbrev cX6_readOrder : ByteArray := prog_8_method_68_code
def yX6_readOrder : MethodName := ⟨RX6, "readOrder", "(I)V"⟩
abbrev cX6_readPad : ByteArray := prog_8_method_69_code
def yX6_readPad : MethodName := ⟨RX6, "readPad", "()V"⟩
abbrev cX6_fault : ByteArray := prog_8_method_70_code
def yX6_fault : MethodName := ⟨RX6, "fault", "()I"⟩
abbrev cX6_does : ByteArray := prog_8_method_71_code
def yX6_does : MethodName := ⟨RX6, "does", "(I)I"⟩
abbrev cX6_carryOut : ByteArray := prog_8_method_72_code
def yX6_carryOut : MethodName := ⟨RX6, "carryOut", "()I"⟩
def RJ9 : String := "java/lang/Math"
def TJ9 : u_T := fun k => match k with
  | _ => ("", "", "", false)
def tyJ9 : Nat → FieldType := fun k => match k with
  | _ => .int
abbrev wsJ90 : List Cond := u_ws RJ9 TJ9 0
theorem nmJ9 : ∀ a, a < 0 → ∀ b, b < 0 → a ≠ b → (TJ9 a).2.1 ≠ (TJ9 b).2.1 := by decide +kernel
theorem tyJ9_ok : ∀ k, k < 0 → parseFieldDescriptor (TJ9 k).2.2.1 = some (tyJ9 k) := by decide +kernel
abbrev cJ9_max_7cf53 : ByteArray := prog_9_method_65_code
def yJ9_max_7cf53 : MethodName := ⟨RJ9, "max", "(II)I"⟩
abbrev cJ9_min_7cf53 : ByteArray := prog_9_method_69_code
def yJ9_min_7cf53 : MethodName := ⟨RJ9, "min", "(II)I"⟩
def RJ10 : String := "java/lang/System"
def TJ10 : u_T := fun k => match k with
  | _ => ("", "", "", false)
def tyJ10 : Nat → FieldType := fun k => match k with
  | _ => .int
abbrev wsJ100 : List Cond := u_ws RJ10 TJ10 0
theorem nmJ10 : ∀ a, a < 0 → ∀ b, b < 0 → a ≠ b → (TJ10 a).2.1 ≠ (TJ10 b).2.1 := by decide +kernel
theorem tyJ10_ok : ∀ k, k < 0 → parseFieldDescriptor (TJ10 k).2.2.1 = some (tyJ10 k) := by decide +kernel
def RL : String := "SlackMarketLaw"
abbrev cL_law : ByteArray := code
def yL_law : MethodName := ⟨RL, "law", "([I)Z"⟩
abbrev vwCl : List vw_C := [(RX0, TX0, 5), (RX1, TX1, 3), (RX2, TX2, 9), (RX3, TX3, 6), (RX4, TX4, 10), (RX5, TX5, 6), (RX6, TX6, 19)]
