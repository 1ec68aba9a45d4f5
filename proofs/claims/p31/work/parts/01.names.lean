-- ===== PART A: goes FIRST, ahead of the names: the tables' words, and 'selects' of the private methods out of them =====
/-- a private method of a class that the tables say can be made, by its rows of tables_1 -/
def lw_okq (q : MethodName × Nat) : Prop := (q.1.cls ≠ "java/lang/invoke/MethodHandle" ∧ q.1.cls ≠ "java/lang/invoke/VarHandle") ∧ Cond.instantiable q.1.cls q.2 ∈ tables_1 ∧ Cond.privateMethod q.1 ∈ tables_1 ∧ Cond.instanceMethod q.1 ∈ tables_1
theorem lw_p0 : lw_okq (⟨"SlackMarket$Plan", "scheduleRow", "(II)I"⟩, 10) := ⟨⟨by decide +kernel, by decide +kernel⟩, List.mem_of_getElem? (i := 24) (by decide +kernel), List.mem_of_getElem? (i := 243) (by decide +kernel), List.mem_of_getElem? (i := 244) (by decide +kernel)⟩
theorem lw_p1 : lw_okq (⟨"SlackMarket$Market", "slackOf", "(I)I"⟩, 9) := ⟨⟨by decide +kernel, by decide +kernel⟩, List.mem_of_getElem? (i := 18) (by decide +kernel), List.mem_of_getElem? (i := 285) (by decide +kernel), List.mem_of_getElem? (i := 286) (by decide +kernel)⟩
theorem lw_p2 : lw_okq (⟨"SlackMarket$Market", "lowerLatestEnd", "(II)V"⟩, 9) := ⟨⟨by decide +kernel, by decide +kernel⟩, List.mem_of_getElem? (i := 18) (by decide +kernel), List.mem_of_getElem? (i := 298) (by decide +kernel), List.mem_of_getElem? (i := 299) (by decide +kernel)⟩
theorem lw_p3 : lw_okq (⟨"SlackMarket$Plan", "waitedFor", "(I)I"⟩, 10) := ⟨⟨by decide +kernel, by decide +kernel⟩, List.mem_of_getElem? (i := 24) (by decide +kernel), List.mem_of_getElem? (i := 336) (by decide +kernel), List.mem_of_getElem? (i := 337) (by decide +kernel)⟩
theorem lw_p4 : lw_okq (⟨"SlackMarket$Market", "setOffer", "(III)V"⟩, 9) := ⟨⟨by decide +kernel, by decide +kernel⟩, List.mem_of_getElem? (i := 18) (by decide +kernel), List.mem_of_getElem? (i := 383) (by decide +kernel), List.mem_of_getElem? (i := 384) (by decide +kernel)⟩
theorem lw_p5 : lw_okq (⟨"SlackMarket$Market", "offers", "()I"⟩, 9) := ⟨⟨by decide +kernel, by decide +kernel⟩, List.mem_of_getElem? (i := 18) (by decide +kernel), List.mem_of_getElem? (i := 411) (by decide +kernel), List.mem_of_getElem? (i := 412) (by decide +kernel)⟩
theorem lw_p6 : lw_okq (⟨"SlackMarket$Market", "lateTasks", "()I"⟩, 9) := ⟨⟨by decide +kernel, by decide +kernel⟩, List.mem_of_getElem? (i := 18) (by decide +kernel), List.mem_of_getElem? (i := 415) (by decide +kernel), List.mem_of_getElem? (i := 416) (by decide +kernel)⟩
theorem lw_p7 : lw_okq (⟨"SlackMarket$Market", "allMoney", "()I"⟩, 9) := ⟨⟨by decide +kernel, by decide +kernel⟩, List.mem_of_getElem? (i := 18) (by decide +kernel), List.mem_of_getElem? (i := 420) (by decide +kernel), List.mem_of_getElem? (i := 421) (by decide +kernel)⟩
theorem lw_p8 : lw_okq (⟨"SlackMarket$Market", "latestExcept", "(I)I"⟩, 9) := ⟨⟨by decide +kernel, by decide +kernel⟩, List.mem_of_getElem? (i := 18) (by decide +kernel), List.mem_of_getElem? (i := 474) (by decide +kernel), List.mem_of_getElem? (i := 475) (by decide +kernel)⟩
theorem lw_p9 : lw_okq (⟨"SlackMarket$Plan", "linkFrom", "(I)V"⟩, 10) := ⟨⟨by decide +kernel, by decide +kernel⟩, List.mem_of_getElem? (i := 24) (by decide +kernel), List.mem_of_getElem? (i := 486) (by decide +kernel), List.mem_of_getElem? (i := 487) (by decide +kernel)⟩
theorem lw_p10 : lw_okq (⟨"SlackMarket$Market", "bestSellerExcept", "(I)I"⟩, 9) := ⟨⟨by decide +kernel, by decide +kernel⟩, List.mem_of_getElem? (i := 18) (by decide +kernel), List.mem_of_getElem? (i := 490) (by decide +kernel), List.mem_of_getElem? (i := 491) (by decide +kernel)⟩
theorem lw_p11 : lw_okq (⟨"SlackMarket$Market", "isInReach", "(I)Z"⟩, 9) := ⟨⟨by decide +kernel, by decide +kernel⟩, List.mem_of_getElem? (i := 18) (by decide +kernel), List.mem_of_getElem? (i := 494) (by decide +kernel), List.mem_of_getElem? (i := 495) (by decide +kernel)⟩
theorem lw_p12 : lw_okq (⟨"SlackMarket$Market", "isBetterSeller", "(II)Z"⟩, 9) := ⟨⟨by decide +kernel, by decide +kernel⟩, List.mem_of_getElem? (i := 18) (by decide +kernel), List.mem_of_getElem? (i := 498) (by decide +kernel), List.mem_of_getElem? (i := 499) (by decide +kernel)⟩
theorem lw_p13 : lw_okq (⟨"SlackMarket$Market", "buyFrom", "(II)V"⟩, 9) := ⟨⟨by decide +kernel, by decide +kernel⟩, List.mem_of_getElem? (i := 18) (by decide +kernel), List.mem_of_getElem? (i := 502) (by decide +kernel), List.mem_of_getElem? (i := 503) (by decide +kernel)⟩
theorem lw_p14 : lw_okq (⟨"SlackMarket$Contracts", "remove", "(I)V"⟩, 5) := ⟨⟨by decide +kernel, by decide +kernel⟩, List.mem_of_getElem? (i := 71) (by decide +kernel), List.mem_of_getElem? (i := 571) (by decide +kernel), List.mem_of_getElem? (i := 572) (by decide +kernel)⟩
def lw_privs_1 : List (MethodName × Nat) := [(⟨"SlackMarket$Plan", "scheduleRow", "(II)I"⟩, 10), (⟨"SlackMarket$Market", "slackOf", "(I)I"⟩, 9), (⟨"SlackMarket$Market", "lowerLatestEnd", "(II)V"⟩, 9), (⟨"SlackMarket$Plan", "waitedFor", "(I)I"⟩, 10), (⟨"SlackMarket$Market", "setOffer", "(III)V"⟩, 9), (⟨"SlackMarket$Market", "offers", "()I"⟩, 9), (⟨"SlackMarket$Market", "lateTasks", "()I"⟩, 9), (⟨"SlackMarket$Market", "allMoney", "()I"⟩, 9), (⟨"SlackMarket$Market", "latestExcept", "(I)I"⟩, 9), (⟨"SlackMarket$Plan", "linkFrom", "(I)V"⟩, 10), (⟨"SlackMarket$Market", "bestSellerExcept", "(I)I"⟩, 9), (⟨"SlackMarket$Market", "isInReach", "(I)Z"⟩, 9), (⟨"SlackMarket$Market", "isBetterSeller", "(II)Z"⟩, 9), (⟨"SlackMarket$Market", "buyFrom", "(II)V"⟩, 9), (⟨"SlackMarket$Contracts", "remove", "(I)V"⟩, 5)]
theorem lw_r1 : ∀ q ∈ lw_privs_1, lw_okq q := List.forall_mem_cons.mpr ⟨lw_p0, List.forall_mem_cons.mpr ⟨lw_p1, List.forall_mem_cons.mpr ⟨lw_p2, List.forall_mem_cons.mpr ⟨lw_p3, List.forall_mem_cons.mpr ⟨lw_p4, List.forall_mem_cons.mpr ⟨lw_p5, List.forall_mem_cons.mpr ⟨lw_p6, List.forall_mem_cons.mpr ⟨lw_p7, List.forall_mem_cons.mpr ⟨lw_p8, List.forall_mem_cons.mpr ⟨lw_p9, List.forall_mem_cons.mpr ⟨lw_p10, List.forall_mem_cons.mpr ⟨lw_p11, List.forall_mem_cons.mpr ⟨lw_p12, List.forall_mem_cons.mpr ⟨lw_p13, List.forall_mem_cons.mpr ⟨lw_p14, fun _ h => absurd h List.not_mem_nil⟩⟩⟩⟩⟩⟩⟩⟩⟩⟩⟩⟩⟩⟩⟩
def lw_privs : List (MethodName × Nat) := lw_privs_1
def lw_tbl : List Cond := k2_sels lw_privs ++ tables_1
theorem lw_privs_ok : ∀ q ∈ lw_privs, lw_okq q := lw_r1
-- ===== end of PART A; then your names; then what follows =====
def RX0 : String := "SlackMarket$Contracts"
def TX0 : u_T := fun k => match k with
  | 0 => ("SlackMarket$Contracts", "total", "I", false)
  | 1 => ("SlackMarket$Contracts", "sellers", "[I", true)
  | 2 => ("SlackMarket$Contracts", "buyers", "[I", true)
  | 3 => ("SlackMarket$Contracts", "hours", "[I", true)
  | _ => ("SlackMarket$Contracts", "prices", "[I", true)
def tyX0 : Nat → FieldType := fun k => match k with
  | 0 => .int
  | 1 => .array .int
  | 2 => .array .int
  | 3 => .array .int
  | _ => .array .int
abbrev wsX00 : List Cond := u_ws RX0 TX0 5
theorem nmX0 : ∀ a, a < 5 → ∀ b, b < 5 → a ≠ b → (TX0 a).2.1 ≠ (TX0 b).2.1 := by decide +kernel
theorem tyX0_ok : ∀ k, k < 5 → parseFieldDescriptor (TX0 k).2.2.1 = some (tyX0 k) := by decide +kernel
abbrev cX0_init : ByteArray := prog_2_method_1_code
def yX0_init : MethodName := ⟨RX0, "<init>", "()V"⟩
abbrev cX0_copyFrom : ByteArray := prog_2_method_2_code
def yX0_copyFrom : MethodName := ⟨RX0, "copyFrom", "(LSlackMarket$Contracts;)V"⟩
abbrev cX0_has : ByteArray := prog_2_method_3_code
def yX0_has : MethodName := ⟨RX0, "has", "(I)Z"⟩
abbrev cX0_tell : ByteArray := prog_2_method_4_code
def yX0_tell : MethodName := ⟨RX0, "tell", "(II)I"⟩
abbrev cX0_append : ByteArray := prog_2_method_5_code
def yX0_append : MethodName := ⟨RX0, "append", "(IIII)Z"⟩
abbrev cX0_lessen : ByteArray := prog_2_method_6_code
def yX0_lessen : MethodName := ⟨RX0, "lessen", "(II)I"⟩
abbrev cX0_remove : ByteArray := prog_2_method_7_code
def yX0_remove : MethodName := ⟨RX0, "remove", "(I)V"⟩
abbrev cX0_soldBy : ByteArray := prog_2_method_8_code
def yX0_soldBy : MethodName := ⟨RX0, "soldBy", "(I)I"⟩
abbrev cX0_boughtBy : ByteArray := prog_2_method_9_code
def yX0_boughtBy : MethodName := ⟨RX0, "boughtBy", "(I)I"⟩
abbrev cX0_allHours : ByteArray := prog_2_method_10_code
def yX0_allHours : MethodName := ⟨RX0, "allHours", "()I"⟩
abbrev cX0_sellersSince : ByteArray := prog_2_method_11_code
def yX0_sellersSince : MethodName := ⟨RX0, "sellersSince", "(I)I"⟩
def RX1 : String := "SlackMarket$History"
def TX1 : u_T := fun k => match k with
  | 0 => ("SlackMarket$History", "ring", "[LSlackMarket$Market;", true)
  | 1 => ("SlackMarket$History", "first", "I", false)
  | _ => ("SlackMarket$History", "kept", "I", false)
def tyX1 : Nat → FieldType := fun k => match k with
  | 0 => .array (.object "SlackMarket$Market")
  | 1 => .int
  | _ => .int
abbrev wsX10 : List Cond := u_ws RX1 TX1 3
theorem nmX1 : ∀ a, a < 3 → ∀ b, b < 3 → a ≠ b → (TX1 a).2.1 ≠ (TX1 b).2.1 := by decide +kernel
theorem tyX1_ok : ∀ k, k < 3 → parseFieldDescriptor (TX1 k).2.2.1 = some (tyX1 k) := by decide +kernel
abbrev cX1_init : ByteArray := prog_3_method_1_code
def yX1_init : MethodName := ⟨RX1, "<init>", "()V"⟩
abbrev cX1_prepare : ByteArray := prog_3_method_2_code
def yX1_prepare : MethodName := ⟨RX1, "prepare", "(LSlackMarket$Market;)V"⟩
abbrev cX1_record : ByteArray := prog_3_method_3_code
def yX1_record : MethodName := ⟨RX1, "record", "(I)I"⟩
abbrev cX1_takeBack : ByteArray := prog_3_method_4_code
def yX1_takeBack : MethodName := ⟨RX1, "takeBack", "(LSlackMarket$Market;)I"⟩
def RX2 : String := "SlackMarket$Market"
def TX2 : u_T := fun k => match k with
  | 0 => ("SlackMarket$Market", "plan", "LSlackMarket$Plan;", true)
  | 1 => ("SlackMarket$Market", "contracts", "LSlackMarket$Contracts;", true)
  | 2 => ("SlackMarket$Market", "refundPercent", "I", false)
  | 3 => ("SlackMarket$Market", "reach", "I", false)
  | 4 => ("SlackMarket$Market", "dueOf", "[I", true)
  | 5 => ("SlackMarket$Market", "moneyOf", "[I", true)
  | 6 => ("SlackMarket$Market", "offered", "[I", true)
  | 7 => ("SlackMarket$Market", "prices", "[I", true)
  | _ => ("SlackMarket$Market", "latestEnds", "[I", true)
def tyX2 : Nat → FieldType := fun k => match k with
  | 0 => .object "SlackMarket$Plan"
  | 1 => .object "SlackMarket$Contracts"
  | 2 => .int
  | 3 => .int
  | 4 => .array .int
  | 5 => .array .int
  | 6 => .array .int
  | 7 => .array .int
  | _ => .array .int
abbrev wsX20 : List Cond := u_ws RX2 TX2 9
theorem nmX2 : ∀ a, a < 9 → ∀ b, b < 9 → a ≠ b → (TX2 a).2.1 ≠ (TX2 b).2.1 := by decide +kernel
theorem tyX2_ok : ∀ k, k < 9 → parseFieldDescriptor (TX2 k).2.2.1 = some (tyX2 k) := by decide +kernel
abbrev cX2_init : ByteArray := prog_4_method_1_code
def yX2_init : MethodName := ⟨RX2, "<init>", "()V"⟩
abbrev cX2_copyFrom : ByteArray := prog_4_method_2_code
def yX2_copyFrom : MethodName := ⟨RX2, "copyFrom", "(LSlackMarket$Market;)V"⟩
abbrev cX2_changeSetting : ByteArray := prog_4_method_3_code
def yX2_changeSetting : MethodName := ⟨RX2, "changeSetting", "(II)I"⟩
abbrev cX2_addTask : ByteArray := prog_4_method_4_code
def yX2_addTask : MethodName := ⟨RX2, "addTask", "(IIIII)I"⟩
abbrev cX2_changeDuration : ByteArray := prog_4_method_5_code
def yX2_changeDuration : MethodName := ⟨RX2, "changeDuration", "(II)I"⟩
abbrev cX2_moveTask : ByteArray := prog_4_method_6_code
def yX2_moveTask : MethodName := ⟨RX2, "moveTask", "(II)I"⟩
abbrev cX2_makeOffer : ByteArray := prog_4_method_7_code
def yX2_makeOffer : MethodName := ⟨RX2, "makeOffer", "(III)I"⟩
abbrev cX2_setOffer : ByteArray := prog_4_method_8_code
def yX2_setOffer : MethodName := ⟨RX2, "setOffer", "(III)V"⟩
abbrev cX2_giveBack : ByteArray := prog_4_method_10_code
def yX2_giveBack : MethodName := ⟨RX2, "giveBack", "(II)I"⟩
abbrev cX2_tradeAll : ByteArray := prog_4_method_11_code
def yX2_tradeAll : MethodName := ⟨RX2, "tradeAll", "()I"⟩
abbrev cX2_latestExcept : ByteArray := prog_4_method_12_code
def yX2_latestExcept : MethodName := ⟨RX2, "latestExcept", "(I)I"⟩
abbrev cX2_buyFor : ByteArray := prog_4_method_13_code
def yX2_buyFor : MethodName := ⟨RX2, "buyFor", "(I)V"⟩
abbrev cX2_bestSellerExcept : ByteArray := prog_4_method_14_code
def yX2_bestSellerExcept : MethodName := ⟨RX2, "bestSellerExcept", "(I)I"⟩
abbrev cX2_isInReach : ByteArray := prog_4_method_15_code
def yX2_isInReach : MethodName := ⟨RX2, "isInReach", "(I)Z"⟩
abbrev cX2_isBetterSeller : ByteArray := prog_4_method_16_code
def yX2_isBetterSeller : MethodName := ⟨RX2, "isBetterSeller", "(II)Z"⟩
abbrev cX2_buyFrom : ByteArray := prog_4_method_17_code
def yX2_buyFrom : MethodName := ⟨RX2, "buyFrom", "(II)V"⟩
abbrev cX2_lateOf : ByteArray := prog_4_method_18_code
def yX2_lateOf : MethodName := ⟨RX2, "lateOf", "(I)I"⟩
abbrev cX2_spareOf : ByteArray := prog_4_method_19_code
def yX2_spareOf : MethodName := ⟨RX2, "spareOf", "(I)I"⟩
abbrev cX2_lateTogether : ByteArray := prog_4_method_20_code
def yX2_lateTogether : MethodName := ⟨RX2, "lateTogether", "()I"⟩
abbrev cX2_lateTasks : ByteArray := prog_4_method_21_code
def yX2_lateTasks : MethodName := ⟨RX2, "lateTasks", "()I"⟩
abbrev cX2_offers : ByteArray := prog_4_method_22_code
def yX2_offers : MethodName := ⟨RX2, "offers", "()I"⟩
abbrev cX2_allMoney : ByteArray := prog_4_method_23_code
def yX2_allMoney : MethodName := ⟨RX2, "allMoney", "()I"⟩
abbrev cX2_slackOf : ByteArray := prog_4_method_24_code
def yX2_slackOf : MethodName := ⟨RX2, "slackOf", "(I)I"⟩
abbrev cX2_lowerLatestEnd : ByteArray := prog_4_method_25_code
def yX2_lowerLatestEnd : MethodName := ⟨RX2, "lowerLatestEnd", "(II)V"⟩
abbrev cX2_findBestPlace : ByteArray := prog_4_method_26_code
def yX2_findBestPlace : MethodName := ⟨RX2, "findBestPlace", "(I)I"⟩
abbrev cX2_tellOfTask : ByteArray := prog_4_method_27_code
def yX2_tellOfTask : MethodName := ⟨RX2, "tellOfTask", "(II)I"⟩
abbrev cX2_tellOfAll : ByteArray := prog_4_method_28_code
def yX2_tellOfAll : MethodName := ⟨RX2, "tellOfAll", "(I)I"⟩
def RX3 : String := "SlackMarket$Pad"
def TX3 : u_T := fun k => match k with
  | 0 => ("SlackMarket$Pad", "text", "[C", true)
  | 1 => ("SlackMarket$Pad", "length", "I", false)
  | 2 => ("SlackMarket$Pad", "at", "I", false)
  | 3 => ("SlackMarket$Pad", "kind", "I", false)
  | 4 => ("SlackMarket$Pad", "numbers", "[I", true)
  | _ => ("SlackMarket$Pad", "read", "I", false)
def tyX3 : Nat → FieldType := fun k => match k with
  | 0 => .array .char
  | 1 => .int
  | 2 => .int
  | 3 => .int
  | 4 => .array .int
  | _ => .int
abbrev wsX30 : List Cond := u_ws RX3 TX3 6
theorem nmX3 : ∀ a, a < 6 → ∀ b, b < 6 → a ≠ b → (TX3 a).2.1 ≠ (TX3 b).2.1 := by decide +kernel
theorem tyX3_ok : ∀ k, k < 6 → parseFieldDescriptor (TX3 k).2.2.1 = some (tyX3 k) := by decide +kernel
abbrev cX3_init : ByteArray := prog_5_method_1_code
def yX3_init : MethodName := ⟨RX3, "<init>", "()V"⟩
def RX4 : String := "SlackMarket$Plan"
def TX4 : u_T := fun k => match k with
  | 0 => ("SlackMarket$Plan", "tasks", "I", false)
  | 1 => ("SlackMarket$Plan", "machineOf", "[I", true)
  | 2 => ("SlackMarket$Plan", "durationOf", "[I", true)
  | 3 => ("SlackMarket$Plan", "aheadOf", "[I", true)
  | 4 => ("SlackMarket$Plan", "ends", "[I", true)
  | 5 => ("SlackMarket$Plan", "order", "[I", true)
  | 6 => ("SlackMarket$Plan", "rows", "[I", true)
  | 7 => ("SlackMarket$Plan", "rowLength", "[I", true)
  | 8 => ("SlackMarket$Plan", "rowEnded", "[I", true)
  | _ => ("SlackMarket$Plan", "links", "[I", true)
def tyX4 : Nat → FieldType := fun k => match k with
  | 0 => .int
  | 1 => .array .int
  | 2 => .array .int
  | 3 => .array .int
  | 4 => .array .int
  | 5 => .array .int
  | 6 => .array .int
  | 7 => .array .int
  | 8 => .array .int
  | _ => .array .int
abbrev wsX40 : List Cond := u_ws RX4 TX4 10
theorem nmX4 : ∀ a, a < 10 → ∀ b, b < 10 → a ≠ b → (TX4 a).2.1 ≠ (TX4 b).2.1 := by decide +kernel
theorem tyX4_ok : ∀ k, k < 10 → parseFieldDescriptor (TX4 k).2.2.1 = some (tyX4 k) := by decide +kernel
abbrev cX4_init : ByteArray := prog_6_method_1_code
def yX4_init : MethodName := ⟨RX4, "<init>", "()V"⟩
abbrev cX4_copyFrom : ByteArray := prog_6_method_2_code
def yX4_copyFrom : MethodName := ⟨RX4, "copyFrom", "(LSlackMarket$Plan;)V"⟩
abbrev cX4_has : ByteArray := prog_6_method_3_code
def yX4_has : MethodName := ⟨RX4, "has", "(I)Z"⟩
abbrev cX4_inRow : ByteArray := prog_6_method_4_code
def yX4_inRow : MethodName := ⟨RX4, "inRow", "(II)I"⟩
abbrev cX4_placeOf : ByteArray := prog_6_method_5_code
def yX4_placeOf : MethodName := ⟨RX4, "placeOf", "(I)I"⟩
abbrev cX4_inFrontOf : ByteArray := prog_6_method_6_code
def yX4_inFrontOf : MethodName := ⟨RX4, "inFrontOf", "(I)I"⟩
abbrev cX4_endOf : ByteArray := prog_6_method_7_code
def yX4_endOf : MethodName := ⟨RX4, "endOf", "(I)I"⟩
abbrev cX4_startOf : ByteArray := prog_6_method_8_code
def yX4_startOf : MethodName := ⟨RX4, "startOf", "(I)I"⟩
abbrev cX4_endOfAll : ByteArray := prog_6_method_9_code
def yX4_endOfAll : MethodName := ⟨RX4, "endOfAll", "()I"⟩
abbrev cX4_append : ByteArray := prog_6_method_10_code
def yX4_append : MethodName := ⟨RX4, "append", "(III)V"⟩
abbrev cX4_shift : ByteArray := prog_6_method_11_code
def yX4_shift : MethodName := ⟨RX4, "shift", "(II)V"⟩
abbrev cX4_schedule : ByteArray := prog_6_method_12_code
def yX4_schedule : MethodName := ⟨RX4, "schedule", "()Z"⟩
abbrev cX4_scheduleRow : ByteArray := prog_6_method_13_code
def yX4_scheduleRow : MethodName := ⟨RX4, "scheduleRow", "(II)I"⟩
abbrev cX4_followersOf : ByteArray := prog_6_method_14_code
def yX4_followersOf : MethodName := ⟨RX4, "followersOf", "(I)I"⟩
abbrev cX4_longestChain : ByteArray := prog_6_method_15_code
def yX4_longestChain : MethodName := ⟨RX4, "longestChain", "()I"⟩
abbrev cX4_waitedFor : ByteArray := prog_6_method_16_code
def yX4_waitedFor : MethodName := ⟨RX4, "waitedFor", "(I)I"⟩
abbrev cX4_measureFrom : ByteArray := prog_6_method_17_code
def yX4_measureFrom : MethodName := ⟨RX4, "measureFrom", "(I)V"⟩
abbrev cX4_linkFrom : ByteArray := prog_6_method_18_code
def yX4_linkFrom : MethodName := ⟨RX4, "linkFrom", "(I)V"⟩
def RX5 : String := "SlackMarket"
def TX5 : u_T := fun k => match k with
  | 0 => ("SlackMarket", "now", "LSlackMarket$Market;", true)
  | 1 => ("SlackMarket", "trial", "LSlackMarket$Market;", true)
  | 2 => ("SlackMarket", "history", "LSlackMarket$History;", true)
  | 3 => ("SlackMarket", "slots", "[LSlackMarket$Market;", true)
  | 4 => ("SlackMarket", "slotFilled", "[Z", true)
  | _ => ("SlackMarket", "pad", "LSlackMarket$Pad;", true)
def tyX5 : Nat → FieldType := fun k => match k with
  | 0 => .object "SlackMarket$Market"
  | 1 => .object "SlackMarket$Market"
  | 2 => .object "SlackMarket$History"
  | 3 => .array (.object "SlackMarket$Market")
  | 4 => .array .boolean
  | _ => .object "SlackMarket$Pad"
abbrev wsX50 : List Cond := u_ws RX5 TX5 6
theorem nmX5 : ∀ a, a < 6 → ∀ b, b < 6 → a ≠ b → (TX5 a).2.1 ≠ (TX5 b).2.1 := by decide +kernel
theorem tyX5_ok : ∀ k, k < 6 → parseFieldDescriptor (TX5 k).2.2.1 = some (tyX5 k) := by decide +kernel
abbrev cX5_init : ByteArray := prog_1_method_1_code
def yX5_init : MethodName := ⟨RX5, "<init>", "()V"⟩
abbrev cX5_set : ByteArray := prog_1_method_2_code
def yX5_set : MethodName := ⟨RX5, "set", "(II)I"⟩
abbrev cX5_task : ByteArray := prog_1_method_3_code
def yX5_task : MethodName := ⟨RX5, "task", "(IIIII)I"⟩
abbrev cX5_duration : ByteArray := prog_1_method_4_code
def yX5_duration : MethodName := ⟨RX5, "duration", "(II)I"⟩
abbrev cX5_move : ByteArray := prog_1_method_5_code
def yX5_move : MethodName := ⟨RX5, "move", "(II)I"⟩
abbrev cX5_offer : ByteArray := prog_1_method_6_code
def yX5_offer : MethodName := ⟨RX5, "offer", "(III)I"⟩
abbrev cX5_trade : ByteArray := prog_1_method_7_code
def yX5_trade : MethodName := ⟨RX5, "trade", "()I"⟩
abbrev cX5_refund : ByteArray := prog_1_method_8_code
def yX5_refund : MethodName := ⟨RX5, "refund", "(II)I"⟩
abbrev cX5_ofTask : ByteArray := prog_1_method_10_code
def yX5_ofTask : MethodName := ⟨RX5, "ofTask", "(II)I"⟩
abbrev cX5_due : ByteArray := prog_1_method_11_code
def yX5_due : MethodName := ⟨RX5, "due", "(I)J"⟩
abbrev cX5_money : ByteArray := prog_1_method_12_code
def yX5_money : MethodName := ⟨RX5, "money", "(I)I"⟩
abbrev cX5_at : ByteArray := prog_1_method_13_code
def yX5_at : MethodName := ⟨RX5, "at", "(II)I"⟩
abbrev cX5_ofContract : ByteArray := prog_1_method_14_code
def yX5_ofContract : MethodName := ⟨RX5, "ofContract", "(II)I"⟩
abbrev cX5_count : ByteArray := prog_1_method_15_code
def yX5_count : MethodName := ⟨RX5, "count", "(I)I"⟩
abbrev cX5_distance : ByteArray := prog_1_method_16_code
def yX5_distance : MethodName := ⟨RX5, "distance", "(II)I"⟩
abbrev cX5_wouldBuy : ByteArray := prog_1_method_17_code
def yX5_wouldBuy : MethodName := ⟨RX5, "wouldBuy", "(II)I"⟩
abbrev cX5_leastMoney : ByteArray := prog_1_method_18_code
def yX5_leastMoney : MethodName := ⟨RX5, "leastMoney", "(I)I"⟩
abbrev cX5_endIf : ByteArray := prog_1_method_19_code
def yX5_endIf : MethodName := ⟨RX5, "endIf", "(III)I"⟩
abbrev cX5_bestPlace : ByteArray := prog_1_method_20_code
def yX5_bestPlace : MethodName := ⟨RX5, "bestPlace", "(I)I"⟩
abbrev cX5_critical : ByteArray := prog_1_method_21_code
def yX5_critical : MethodName := ⟨RX5, "critical", "()I"⟩
abbrev cX5_lateBehind : ByteArray := prog_1_method_22_code
def yX5_lateBehind : MethodName := ⟨RX5, "lateBehind", "()I"⟩
abbrev cX5_undo : ByteArray := prog_1_method_29_code
def yX5_undo : MethodName := ⟨RX5, "undo", "()I"⟩
def RX6 : String := "SlackMarketModel"
def TX6 : u_T := fun k => match k with
  | _ => ("", "", "", false)
def tyX6 : Nat → FieldType := fun k => match k with
  | _ => .int
abbrev wsX60 : List Cond := u_ws RX6 TX6 0
theorem nmX6 : ∀ a, a < 0 → ∀ b, b < 0 → a ≠ b → (TX6 a).2.1 ≠ (TX6 b).2.1 := by decide +kernel
theorem tyX6_ok : ∀ k, k < 0 → parseFieldDescriptor (TX6 k).2.2.1 = some (tyX6 k) := by decide +kernel
def RJ9 : String := "java/lang/Math"
def TJ9 : u_T := fun k => match k with
  | _ => ("", "", "", false)
def tyJ9 : Nat → FieldType := fun k => match k with
  | _ => .int
abbrev wsJ90 : List Cond := u_ws RJ9 TJ9 0
theorem nmJ9 : ∀ a, a < 0 → ∀ b, b < 0 → a ≠ b → (TJ9 a).2.1 ≠ (TJ9 b).2.1 := by decide +kernel
theorem tyJ9_ok : ∀ k, k < 0 → parseFieldDescriptor (TJ9 k).2.2.1 = some (tyJ9 k) := by decide +kernel
abbrev cJ9_max_7cf53 : ByteArray := prog_9_method_65_code
def yJ9_max_7cf53 : MethodName := ⟨RJ9, "max", "(II)I"⟩
abbrev cJ9_min_7cf53 : ByteArray := prog_9_method_69_code
def yJ9_min_7cf53 : MethodName := ⟨RJ9, "min", "(II)I"⟩
def RJ10 : String := "java/lang/System"
def TJ10 : u_T := fun k => match k with
  | _ => ("", "", "", false)
def tyJ10 : Nat → FieldType := fun k => match k with
  | _ => .int
abbrev wsJ100 : List Cond := u_ws RJ10 TJ10 0
theorem nmJ10 : ∀ a, a < 0 → ∀ b, b < 0 → a ≠ b → (TJ10 a).2.1 ≠ (TJ10 b).2.1 := by decide +kernel
theorem tyJ10_ok : ∀ k, k < 0 → parseFieldDescriptor (TJ10 k).2.2.1 = some (tyJ10 k) := by decide +kernel
def RL : String := "SlackMarketLaw"
abbrev cL_cell : ByteArray := method_2_code
def yL_cell : MethodName := ⟨RL, "cell", "([II)I"⟩
abbrev cL_low : ByteArray := method_3_code
def yL_low : MethodName := ⟨RL, "low", "(II)I"⟩
abbrev cL_build : ByteArray := method_4_code
def yL_build : MethodName := ⟨RL, "build", "(LSlackMarket;[II)Z"⟩
abbrev cL_before : ByteArray := method_5_code
def yL_before : MethodName := ⟨RL, "before", "(LSlackMarket;I)I"⟩
abbrev cL_times : ByteArray := method_6_code
def yL_times : MethodName := ⟨RL, "times", "(LSlackMarket;I)Z"⟩
abbrev cL_canBeHeld : ByteArray := method_7_code
def yL_canBeHeld : MethodName := ⟨RL, "canBeHeld", "(LSlackMarket;III[I)Z"⟩
abbrev cL_slacks : ByteArray := method_8_code
def yL_slacks : MethodName := ⟨RL, "slacks", "(LSlackMarket;I[I)Z"⟩
abbrev cL_chain : ByteArray := method_9_code
def yL_chain : MethodName := ⟨RL, "chain", "(LSlackMarket;I)Z"⟩
abbrev cL_places : ByteArray := method_10_code
def yL_places : MethodName := ⟨RL, "places", "(LSlackMarket;I)Z"⟩
abbrev cL_dues : ByteArray := method_11_code
def yL_dues : MethodName := ⟨RL, "dues", "(LSlackMarket;I)J"⟩
abbrev cL_latest : ByteArray := method_12_code
def yL_latest : MethodName := ⟨RL, "latest", "(LSlackMarket;I)I"⟩
abbrev cL_trades : ByteArray := method_13_code
def yL_trades : MethodName := ⟨RL, "trades", "(LSlackMarket;I)Z"⟩
abbrev cL_refunds : ByteArray := method_14_code
def yL_refunds : MethodName := ⟨RL, "refunds", "(LSlackMarket;II)Z"⟩
abbrev cL_law : ByteArray := code
def yL_law : MethodName := ⟨RL, "law", "([I)Z"⟩
abbrev cL_trades2 : ByteArray := method_16_code
def yL_trades2 : MethodName := ⟨RL, "trades2", "(LSlackMarket;I)Z"⟩
abbrev vwCl : List vw_C := [(RX0, TX0, 5), (RX1, TX1, 3), (RX2, TX2, 9), (RX3, TX3, 6), (RX4, TX4, 10), (RX5, TX5, 6)]
