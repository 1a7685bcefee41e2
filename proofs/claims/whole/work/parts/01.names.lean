-- ===== PART A: goes FIRST, ahead of the names: the tables' words, and 'selects' of the private methods out of them =====
/-- a private method of a class that the tables say can be made, by its rows of tables_1 -/
def lw_okq (q : MethodName × Nat) : Prop := (q.1.cls ≠ "java/lang/invoke/MethodHandle" ∧ q.1.cls ≠ "java/lang/invoke/VarHandle") ∧ Cond.instantiable q.1.cls q.2 ∈ tables_1 ∧ Cond.privateMethod q.1 ∈ tables_1 ∧ Cond.instanceMethod q.1 ∈ tables_1
theorem lw_p0 : lw_okq (⟨"WagonClearing$Network", "shorten", "(III)V"⟩, 6) := ⟨⟨by decide +kernel, by decide +kernel⟩, List.mem_of_getElem? (i := 23) (by decide +kernel), List.mem_of_getElem? (i := 287) (by decide +kernel), List.mem_of_getElem? (i := 288) (by decide +kernel)⟩
theorem lw_p1 : lw_okq (⟨"WagonClearing$Parting", "travel", "(II)Z"⟩, 6) := ⟨⟨by decide +kernel, by decide +kernel⟩, List.mem_of_getElem? (i := 58) (by decide +kernel), List.mem_of_getElem? (i := 334) (by decide +kernel), List.mem_of_getElem? (i := 335) (by decide +kernel)⟩
theorem lw_p2 : lw_okq (⟨"WagonClearing$Parting", "divideByMiles", "(I)Z"⟩, 6) := ⟨⟨by decide +kernel, by decide +kernel⟩, List.mem_of_getElem? (i := 58) (by decide +kernel), List.mem_of_getElem? (i := 342) (by decide +kernel), List.mem_of_getElem? (i := 343) (by decide +kernel)⟩
theorem lw_p3 : lw_okq (⟨"WagonClearing$Parting", "giveOneMore", "()V"⟩, 6) := ⟨⟨by decide +kernel, by decide +kernel⟩, List.mem_of_getElem? (i := 58) (by decide +kernel), List.mem_of_getElem? (i := 349) (by decide +kernel), List.mem_of_getElem? (i := 350) (by decide +kernel)⟩
theorem lw_p4 : lw_okq (⟨"WagonClearing$Joining", "measureErrors", "()V"⟩, 9) := ⟨⟨by decide +kernel, by decide +kernel⟩, List.mem_of_getElem? (i := 128) (by decide +kernel), List.mem_of_getElem? (i := 393) (by decide +kernel), List.mem_of_getElem? (i := 394) (by decide +kernel)⟩
theorem lw_p5 : lw_okq (⟨"WagonClearing$Joining", "keep", "(I)V"⟩, 9) := ⟨⟨by decide +kernel, by decide +kernel⟩, List.mem_of_getElem? (i := 128) (by decide +kernel), List.mem_of_getElem? (i := 405) (by decide +kernel), List.mem_of_getElem? (i := 406) (by decide +kernel)⟩
theorem lw_p6 : lw_okq (⟨"WagonClearing$Joining", "isInTime", "(II)Z"⟩, 9) := ⟨⟨by decide +kernel, by decide +kernel⟩, List.mem_of_getElem? (i := 128) (by decide +kernel), List.mem_of_getElem? (i := 412) (by decide +kernel), List.mem_of_getElem? (i := 413) (by decide +kernel)⟩
theorem lw_p7 : lw_okq (⟨"WagonClearing$Charging", "owedAsJoined", "(II)I"⟩, 4) := ⟨⟨by decide +kernel, by decide +kernel⟩, List.mem_of_getElem? (i := 163) (by decide +kernel), List.mem_of_getElem? (i := 417) (by decide +kernel), List.mem_of_getElem? (i := 418) (by decide +kernel)⟩
theorem lw_p8 : lw_okq (⟨"WagonClearing$Charging", "priceOf", "(I)I"⟩, 4) := ⟨⟨by decide +kernel, by decide +kernel⟩, List.mem_of_getElem? (i := 163) (by decide +kernel), List.mem_of_getElem? (i := 421) (by decide +kernel), List.mem_of_getElem? (i := 422) (by decide +kernel)⟩
theorem lw_p9 : lw_okq (⟨"WagonClearing", "strikeBalances", "()V"⟩, 10) := ⟨⟨by decide +kernel, by decide +kernel⟩, List.mem_of_getElem? (i := 15) (by decide +kernel), List.mem_of_getElem? (i := 486) (by decide +kernel), List.mem_of_getElem? (i := 487) (by decide +kernel)⟩
theorem lw_p10 : lw_okq (⟨"WagonClearing$Grouping", "weighSet", "(I[I)V"⟩, 3) := ⟨⟨by decide +kernel, by decide +kernel⟩, List.mem_of_getElem? (i := 182) (by decide +kernel), List.mem_of_getElem? (i := 499) (by decide +kernel), List.mem_of_getElem? (i := 500) (by decide +kernel)⟩
theorem lw_p11 : lw_okq (⟨"WagonClearing$Grouping", "firstGroup", "(I)I"⟩, 3) := ⟨⟨by decide +kernel, by decide +kernel⟩, List.mem_of_getElem? (i := 182) (by decide +kernel), List.mem_of_getElem? (i := 522) (by decide +kernel), List.mem_of_getElem? (i := 523) (by decide +kernel)⟩
theorem lw_p12 : lw_okq (⟨"WagonClearing$Leading", "stayAtHome", "()V"⟩, 10) := ⟨⟨by decide +kernel, by decide +kernel⟩, List.mem_of_getElem? (i := 198) (by decide +kernel), List.mem_of_getElem? (i := 545) (by decide +kernel), List.mem_of_getElem? (i := 546) (by decide +kernel)⟩
theorem lw_p13 : lw_okq (⟨"WagonClearing$Leading", "leadMore", "()Z"⟩, 10) := ⟨⟨by decide +kernel, by decide +kernel⟩, List.mem_of_getElem? (i := 198) (by decide +kernel), List.mem_of_getElem? (i := 551) (by decide +kernel), List.mem_of_getElem? (i := 552) (by decide +kernel)⟩
theorem lw_p14 : lw_okq (⟨"WagonClearing$Leading", "measureReach", "()V"⟩, 10) := ⟨⟨by decide +kernel, by decide +kernel⟩, List.mem_of_getElem? (i := 198) (by decide +kernel), List.mem_of_getElem? (i := 555) (by decide +kernel), List.mem_of_getElem? (i := 556) (by decide +kernel)⟩
theorem lw_p15 : lw_okq (⟨"WagonClearing$Leading", "stepFrom", "(I)Z"⟩, 10) := ⟨⟨by decide +kernel, by decide +kernel⟩, List.mem_of_getElem? (i := 198) (by decide +kernel), List.mem_of_getElem? (i := 560) (by decide +kernel), List.mem_of_getElem? (i := 561) (by decide +kernel)⟩
def lw_privs_1 : List (MethodName × Nat) := [(⟨"WagonClearing$Network", "shorten", "(III)V"⟩, 6), (⟨"WagonClearing$Parting", "travel", "(II)Z"⟩, 6), (⟨"WagonClearing$Parting", "divideByMiles", "(I)Z"⟩, 6), (⟨"WagonClearing$Parting", "giveOneMore", "()V"⟩, 6), (⟨"WagonClearing$Joining", "measureErrors", "()V"⟩, 9), (⟨"WagonClearing$Joining", "keep", "(I)V"⟩, 9), (⟨"WagonClearing$Joining", "isInTime", "(II)Z"⟩, 9), (⟨"WagonClearing$Charging", "owedAsJoined", "(II)I"⟩, 4), (⟨"WagonClearing$Charging", "priceOf", "(I)I"⟩, 4), (⟨"WagonClearing", "strikeBalances", "()V"⟩, 10), (⟨"WagonClearing$Grouping", "weighSet", "(I[I)V"⟩, 3), (⟨"WagonClearing$Grouping", "firstGroup", "(I)I"⟩, 3), (⟨"WagonClearing$Leading", "stayAtHome", "()V"⟩, 10), (⟨"WagonClearing$Leading", "leadMore", "()Z"⟩, 10), (⟨"WagonClearing$Leading", "measureReach", "()V"⟩, 10), (⟨"WagonClearing$Leading", "stepFrom", "(I)Z"⟩, 10)]
theorem lw_r1 : ∀ q ∈ lw_privs_1, lw_okq q := List.forall_mem_cons.mpr ⟨lw_p0, List.forall_mem_cons.mpr ⟨lw_p1, List.forall_mem_cons.mpr ⟨lw_p2, List.forall_mem_cons.mpr ⟨lw_p3, List.forall_mem_cons.mpr ⟨lw_p4, List.forall_mem_cons.mpr ⟨lw_p5, List.forall_mem_cons.mpr ⟨lw_p6, List.forall_mem_cons.mpr ⟨lw_p7, List.forall_mem_cons.mpr ⟨lw_p8, List.forall_mem_cons.mpr ⟨lw_p9, List.forall_mem_cons.mpr ⟨lw_p10, List.forall_mem_cons.mpr ⟨lw_p11, List.forall_mem_cons.mpr ⟨lw_p12, List.forall_mem_cons.mpr ⟨lw_p13, List.forall_mem_cons.mpr ⟨lw_p14, List.forall_mem_cons.mpr ⟨lw_p15, fun _ h => absurd h List.not_mem_nil⟩⟩⟩⟩⟩⟩⟩⟩⟩⟩⟩⟩⟩⟩⟩⟩
theorem lw_p16 : lw_okq (⟨"WagonClearing$Leading", "stepMiles", "(II)I"⟩, 10) := ⟨⟨by decide +kernel, by decide +kernel⟩, List.mem_of_getElem? (i := 198) (by decide +kernel), List.mem_of_getElem? (i := 564) (by decide +kernel), List.mem_of_getElem? (i := 565) (by decide +kernel)⟩
theorem lw_p17 : lw_okq (⟨"WagonClearing$Leading", "isGiver", "(I)Z"⟩, 10) := ⟨⟨by decide +kernel, by decide +kernel⟩, List.mem_of_getElem? (i := 198) (by decide +kernel), List.mem_of_getElem? (i := 568) (by decide +kernel), List.mem_of_getElem? (i := 569) (by decide +kernel)⟩
theorem lw_p18 : lw_okq (⟨"WagonClearing$Leading", "isTaker", "(I)Z"⟩, 10) := ⟨⟨by decide +kernel, by decide +kernel⟩, List.mem_of_getElem? (i := 198) (by decide +kernel), List.mem_of_getElem? (i := 572) (by decide +kernel), List.mem_of_getElem? (i := 573) (by decide +kernel)⟩
theorem lw_p19 : lw_okq (⟨"WagonClearing$Leading", "nearestGoal", "()I"⟩, 10) := ⟨⟨by decide +kernel, by decide +kernel⟩, List.mem_of_getElem? (i := 198) (by decide +kernel), List.mem_of_getElem? (i := 576) (by decide +kernel), List.mem_of_getElem? (i := 577) (by decide +kernel)⟩
theorem lw_p20 : lw_okq (⟨"WagonClearing$Leading", "amountTo", "(I)I"⟩, 10) := ⟨⟨by decide +kernel, by decide +kernel⟩, List.mem_of_getElem? (i := 198) (by decide +kernel), List.mem_of_getElem? (i := 580) (by decide +kernel), List.mem_of_getElem? (i := 581) (by decide +kernel)⟩
theorem lw_p21 : lw_okq (⟨"WagonClearing$Leading", "moveTo", "(II)V"⟩, 10) := ⟨⟨by decide +kernel, by decide +kernel⟩, List.mem_of_getElem? (i := 198) (by decide +kernel), List.mem_of_getElem? (i := 584) (by decide +kernel), List.mem_of_getElem? (i := 585) (by decide +kernel)⟩
theorem lw_p22 : lw_okq (⟨"WagonClearingModel", "reckons", "()V"⟩, 31) := ⟨⟨by decide +kernel, by decide +kernel⟩, List.mem_of_getElem? (i := 597) (by decide +kernel), List.mem_of_getElem? (i := 603) (by decide +kernel), List.mem_of_getElem? (i := 604) (by decide +kernel)⟩
theorem lw_p23 : lw_okq (⟨"WagonClearingModel", "otherEnd", "(II)I"⟩, 31) := ⟨⟨by decide +kernel, by decide +kernel⟩, List.mem_of_getElem? (i := 597) (by decide +kernel), List.mem_of_getElem? (i := 725) (by decide +kernel), List.mem_of_getElem? (i := 726) (by decide +kernel)⟩
theorem lw_p24 : lw_okq (⟨"WagonClearingModel", "parts", "(III)Z"⟩, 31) := ⟨⟨by decide +kernel, by decide +kernel⟩, List.mem_of_getElem? (i := 597) (by decide +kernel), List.mem_of_getElem? (i := 733) (by decide +kernel), List.mem_of_getElem? (i := 734) (by decide +kernel)⟩
theorem lw_p25 : lw_okq (⟨"WagonClearingModel", "joins", "()I"⟩, 31) := ⟨⟨by decide +kernel, by decide +kernel⟩, List.mem_of_getElem? (i := 597) (by decide +kernel), List.mem_of_getElem? (i := 766) (by decide +kernel), List.mem_of_getElem? (i := 767) (by decide +kernel)⟩
theorem lw_p26 : lw_okq (⟨"WagonClearingModel", "canBe", "(I)Z"⟩, 31) := ⟨⟨by decide +kernel, by decide +kernel⟩, List.mem_of_getElem? (i := 597) (by decide +kernel), List.mem_of_getElem? (i := 770) (by decide +kernel), List.mem_of_getElem? (i := 771) (by decide +kernel)⟩
theorem lw_p27 : lw_okq (⟨"WagonClearingModel", "owes", "(II)I"⟩, 31) := ⟨⟨by decide +kernel, by decide +kernel⟩, List.mem_of_getElem? (i := 597) (by decide +kernel), List.mem_of_getElem? (i := 786) (by decide +kernel), List.mem_of_getElem? (i := 787) (by decide +kernel)⟩
theorem lw_p28 : lw_okq (⟨"WagonClearingModel", "groups", "()I"⟩, 31) := ⟨⟨by decide +kernel, by decide +kernel⟩, List.mem_of_getElem? (i := 597) (by decide +kernel), List.mem_of_getElem? (i := 803) (by decide +kernel), List.mem_of_getElem? (i := 804) (by decide +kernel)⟩
theorem lw_p29 : lw_okq (⟨"WagonClearingModel", "sumOf", "(I)J"⟩, 31) := ⟨⟨by decide +kernel, by decide +kernel⟩, List.mem_of_getElem? (i := 597) (by decide +kernel), List.mem_of_getElem? (i := 807) (by decide +kernel), List.mem_of_getElem? (i := 808) (by decide +kernel)⟩
theorem lw_p30 : lw_okq (⟨"WagonClearingModel", "leads", "()I"⟩, 31) := ⟨⟨by decide +kernel, by decide +kernel⟩, List.mem_of_getElem? (i := 597) (by decide +kernel), List.mem_of_getElem? (i := 823) (by decide +kernel), List.mem_of_getElem? (i := 824) (by decide +kernel)⟩
theorem lw_p31 : lw_okq (⟨"WagonClearingModel", "seeks", "()I"⟩, 31) := ⟨⟨by decide +kernel, by decide +kernel⟩, List.mem_of_getElem? (i := 597) (by decide +kernel), List.mem_of_getElem? (i := 827) (by decide +kernel), List.mem_of_getElem? (i := 828) (by decide +kernel)⟩
def lw_privs_2 : List (MethodName × Nat) := [(⟨"WagonClearing$Leading", "stepMiles", "(II)I"⟩, 10), (⟨"WagonClearing$Leading", "isGiver", "(I)Z"⟩, 10), (⟨"WagonClearing$Leading", "isTaker", "(I)Z"⟩, 10), (⟨"WagonClearing$Leading", "nearestGoal", "()I"⟩, 10), (⟨"WagonClearing$Leading", "amountTo", "(I)I"⟩, 10), (⟨"WagonClearing$Leading", "moveTo", "(II)V"⟩, 10), (⟨"WagonClearingModel", "reckons", "()V"⟩, 31), (⟨"WagonClearingModel", "otherEnd", "(II)I"⟩, 31), (⟨"WagonClearingModel", "parts", "(III)Z"⟩, 31), (⟨"WagonClearingModel", "joins", "()I"⟩, 31), (⟨"WagonClearingModel", "canBe", "(I)Z"⟩, 31), (⟨"WagonClearingModel", "owes", "(II)I"⟩, 31), (⟨"WagonClearingModel", "groups", "()I"⟩, 31), (⟨"WagonClearingModel", "sumOf", "(I)J"⟩, 31), (⟨"WagonClearingModel", "leads", "()I"⟩, 31), (⟨"WagonClearingModel", "seeks", "()I"⟩, 31)]
theorem lw_r2 : ∀ q ∈ lw_privs_2, lw_okq q := List.forall_mem_cons.mpr ⟨lw_p16, List.forall_mem_cons.mpr ⟨lw_p17, List.forall_mem_cons.mpr ⟨lw_p18, List.forall_mem_cons.mpr ⟨lw_p19, List.forall_mem_cons.mpr ⟨lw_p20, List.forall_mem_cons.mpr ⟨lw_p21, List.forall_mem_cons.mpr ⟨lw_p22, List.forall_mem_cons.mpr ⟨lw_p23, List.forall_mem_cons.mpr ⟨lw_p24, List.forall_mem_cons.mpr ⟨lw_p25, List.forall_mem_cons.mpr ⟨lw_p26, List.forall_mem_cons.mpr ⟨lw_p27, List.forall_mem_cons.mpr ⟨lw_p28, List.forall_mem_cons.mpr ⟨lw_p29, List.forall_mem_cons.mpr ⟨lw_p30, List.forall_mem_cons.mpr ⟨lw_p31, fun _ h => absurd h List.not_mem_nil⟩⟩⟩⟩⟩⟩⟩⟩⟩⟩⟩⟩⟩⟩⟩⟩
theorem lw_p32 : lw_okq (⟨"WagonClearingModel", "left", "(I)I"⟩, 31) := ⟨⟨by decide +kernel, by decide +kernel⟩, List.mem_of_getElem? (i := 597) (by decide +kernel), List.mem_of_getElem? (i := 831) (by decide +kernel), List.mem_of_getElem? (i := 832) (by decide +kernel)⟩
theorem lw_p33 : lw_okq (⟨"WagonClearingModel", "lacks", "(I)I"⟩, 31) := ⟨⟨by decide +kernel, by decide +kernel⟩, List.mem_of_getElem? (i := 597) (by decide +kernel), List.mem_of_getElem? (i := 836) (by decide +kernel), List.mem_of_getElem? (i := 837) (by decide +kernel)⟩
def lw_privs_3 : List (MethodName × Nat) := [(⟨"WagonClearingModel", "left", "(I)I"⟩, 31), (⟨"WagonClearingModel", "lacks", "(I)I"⟩, 31)]
theorem lw_r3 : ∀ q ∈ lw_privs_3, lw_okq q := List.forall_mem_cons.mpr ⟨lw_p32, List.forall_mem_cons.mpr ⟨lw_p33, fun _ h => absurd h List.not_mem_nil⟩⟩
def lw_privs : List (MethodName × Nat) := lw_privs_1 ++ (lw_privs_2 ++ (lw_privs_3))
def lw_tbl : List Cond := k2_sels lw_privs ++ tables_1
theorem lw_privs_ok : ∀ q ∈ lw_privs, lw_okq q := by
  show ∀ q ∈ lw_privs_1 ++ (lw_privs_2 ++ (lw_privs_3)), lw_okq q
  exact List.forall_mem_append.mpr ⟨lw_r1, List.forall_mem_append.mpr ⟨lw_r2, lw_r3⟩⟩
/-! ===== BEGIN words of one list among another's, by their places ===== -/
/-! ===== END ===== -/

/-! ===== BEGIN printed: names, fields, word lists, decode rows ===== -/
def RX0 : String := "WagonClearing$Charging"
def TX0 : u_T := fun k => match k with
  | 0 => ("WagonClearing$Charging", "register", "LWagonClearing$Register;", true)
  | 1 => ("WagonClearing$Charging", "joining", "LWagonClearing$Joining;", true)
  | 2 => ("WagonClearing$Charging", "freeDays", "I", false)
  | _ => ("WagonClearing$Charging", "dayPrice", "I", false)
def tyX0 : Nat → FieldType := fun k => match k with
  | 0 => .object "WagonClearing$Register"
  | 1 => .object "WagonClearing$Joining"
  | 2 => .int
  | _ => .int
abbrev wsX00 : List Cond := u_ws RX0 TX0 4
theorem nmX0 : ∀ a, a < 4 → ∀ b, b < 4 → a ≠ b → (TX0 a).2.1 ≠ (TX0 b).2.1 := by decide +kernel
theorem tyX0_ok : ∀ k, k < 4 → parseFieldDescriptor (TX0 k).2.2.1 = some (tyX0 k) := by decide +kernel
abbrev cX0_init : ByteArray := prog_2_method_1_code
def yX0_init : MethodName := ⟨RX0, "<init>", "(LWagonClearing$Register;LWagonClearing$Joining;)V"⟩
abbrev cX0_agree : ByteArray := prog_2_method_2_code
def yX0_agree : MethodName := ⟨RX0, "agree", "(II)Z"⟩
abbrev cX0_owed : ByteArray := prog_2_method_3_code
def yX0_owed : MethodName := ⟨RX0, "owed", "(II)I"⟩
abbrev cX0_owedAsJoined : ByteArray := prog_2_method_4_code
def yX0_owedAsJoined : MethodName := ⟨RX0, "owedAsJoined", "(II)I"⟩
abbrev cX0_priceOf : ByteArray := prog_2_method_5_code
def yX0_priceOf : MethodName := ⟨RX0, "priceOf", "(I)I"⟩
abbrev cX0_addCharges : ByteArray := prog_2_method_6_code
def yX0_addCharges : MethodName := ⟨RX0, "addCharges", "([I)V"⟩
def RX1 : String := "WagonClearing$Grouping"
def TX1 : u_T := fun k => match k with
  | 0 => ("WagonClearing$Grouping", "totals", "[I", true)
  | 1 => ("WagonClearing$Grouping", "most", "[I", true)
  | _ => ("WagonClearing$Grouping", "members", "I", false)
def tyX1 : Nat → FieldType := fun k => match k with
  | 0 => .array .int
  | 1 => .array .int
  | _ => .int
abbrev wsX10 : List Cond := u_ws RX1 TX1 3
theorem nmX1 : ∀ a, a < 3 → ∀ b, b < 3 → a ≠ b → (TX1 a).2.1 ≠ (TX1 b).2.1 := by decide +kernel
theorem tyX1_ok : ∀ k, k < 3 → parseFieldDescriptor (TX1 k).2.2.1 = some (tyX1 k) := by decide +kernel
abbrev cX1_init : ByteArray := prog_3_method_1_code
def yX1_init : MethodName := ⟨RX1, "<init>", "()V"⟩
abbrev cX1_weigh : ByteArray := prog_3_method_2_code
def yX1_weigh : MethodName := ⟨RX1, "weigh", "([I)V"⟩
abbrev cX1_weighSet : ByteArray := prog_3_method_3_code
def yX1_weighSet : MethodName := ⟨RX1, "weighSet", "(I[I)V"⟩
abbrev cX1_payments : ByteArray := prog_3_method_4_code
def yX1_payments : MethodName := ⟨RX1, "payments", "()I"⟩
abbrev cX1_groupWith : ByteArray := prog_3_method_5_code
def yX1_groupWith : MethodName := ⟨RX1, "groupWith", "(I)I"⟩
abbrev cX1_firstGroup : ByteArray := prog_3_method_6_code
def yX1_firstGroup : MethodName := ⟨RX1, "firstGroup", "(I)I"⟩
def RX2 : String := "WagonClearing$Joining"
def TX2 : u_T := fun k => match k with
  | 0 => ("WagonClearing$Joining", "network", "LWagonClearing$Network;", true)
  | 1 => ("WagonClearing$Joining", "register", "LWagonClearing$Register;", true)
  | 2 => ("WagonClearing$Joining", "errors", "[I", true)
  | 3 => ("WagonClearing$Joining", "floors", "[I", true)
  | 4 => ("WagonClearing$Joining", "tried", "[I", true)
  | 5 => ("WagonClearing$Joining", "latest", "[I", true)
  | 6 => ("WagonClearing$Joining", "best", "[I", true)
  | 7 => ("WagonClearing$Joining", "bestCost", "I", false)
  | _ => ("WagonClearing$Joining", "known", "Z", false)
def tyX2 : Nat → FieldType := fun k => match k with
  | 0 => .object "WagonClearing$Network"
  | 1 => .object "WagonClearing$Register"
  | 2 => .array .int
  | 3 => .array .int
  | 4 => .array .int
  | 5 => .array .int
  | 6 => .array .int
  | 7 => .int
  | _ => .boolean
abbrev wsX20 : List Cond := u_ws RX2 TX2 9
theorem nmX2 : ∀ a, a < 9 → ∀ b, b < 9 → a ≠ b → (TX2 a).2.1 ≠ (TX2 b).2.1 := by decide +kernel
theorem tyX2_ok : ∀ k, k < 9 → parseFieldDescriptor (TX2 k).2.2.1 = some (tyX2 k) := by decide +kernel
abbrev cX2_init : ByteArray := prog_4_method_1_code
def yX2_init : MethodName := ⟨RX2, "<init>", "(LWagonClearing$Network;LWagonClearing$Register;)V"⟩
abbrev cX2_forget : ByteArray := prog_4_method_2_code
def yX2_forget : MethodName := ⟨RX2, "forget", "()V"⟩
abbrev cX2_wagonOf : ByteArray := prog_4_method_3_code
def yX2_wagonOf : MethodName := ⟨RX2, "wagonOf", "(I)I"⟩
abbrev cX2_lowestCost : ByteArray := prog_4_method_4_code
def yX2_lowestCost : MethodName := ⟨RX2, "lowestCost", "()I"⟩
abbrev cX2_solve : ByteArray := prog_4_method_5_code
def yX2_solve : MethodName := ⟨RX2, "solve", "()V"⟩
abbrev cX2_measureErrors : ByteArray := prog_4_method_6_code
def yX2_measureErrors : MethodName := ⟨RX2, "measureErrors", "()V"⟩
abbrev cX2_searchFrom : ByteArray := prog_4_method_7_code
def yX2_searchFrom : MethodName := ⟨RX2, "searchFrom", "(LWagonClearing$Joining;II)V"⟩
abbrev cX2_isInTime : ByteArray := prog_4_method_8_code
def yX2_isInTime : MethodName := ⟨RX2, "isInTime", "(II)Z"⟩
abbrev cX2_keep : ByteArray := prog_4_method_9_code
def yX2_keep : MethodName := ⟨RX2, "keep", "(I)V"⟩
def RX3 : String := "WagonClearing$Leading"
def TX3 : u_T := fun k => match k with
  | 0 => ("WagonClearing$Leading", "there", "[I", true)
  | 1 => ("WagonClearing$Leading", "wanted", "[I", true)
  | 2 => ("WagonClearing$Leading", "wantsMet", "I", false)
  | 3 => ("WagonClearing$Leading", "milesLed", "I", false)
  | 4 => ("WagonClearing$Leading", "network", "LWagonClearing$Network;", true)
  | 5 => ("WagonClearing$Leading", "spare", "[I", true)
  | 6 => ("WagonClearing$Leading", "moved", "[I", true)
  | 7 => ("WagonClearing$Leading", "reach", "[I", true)
  | 8 => ("WagonClearing$Leading", "before", "[I", true)
  | _ => ("WagonClearing$Leading", "known", "Z", false)
def tyX3 : Nat → FieldType := fun k => match k with
  | 0 => .array .int
  | 1 => .array .int
  | 2 => .int
  | 3 => .int
  | 4 => .object "WagonClearing$Network"
  | 5 => .array .int
  | 6 => .array .int
  | 7 => .array .int
  | 8 => .array .int
  | _ => .boolean
abbrev wsX30 : List Cond := u_ws RX3 TX3 10
theorem nmX3 : ∀ a, a < 10 → ∀ b, b < 10 → a ≠ b → (TX3 a).2.1 ≠ (TX3 b).2.1 := by decide +kernel
theorem tyX3_ok : ∀ k, k < 10 → parseFieldDescriptor (TX3 k).2.2.1 = some (tyX3 k) := by decide +kernel
abbrev cX3_init : ByteArray := prog_5_method_1_code
def yX3_init : MethodName := ⟨RX3, "<init>", "(LWagonClearing$Network;)V"⟩
abbrev cX3_forget : ByteArray := prog_5_method_2_code
def yX3_forget : MethodName := ⟨RX3, "forget", "()V"⟩
abbrev cX3_place : ByteArray := prog_5_method_3_code
def yX3_place : MethodName := ⟨RX3, "place", "(III)Z"⟩
abbrev cX3_solve : ByteArray := prog_5_method_4_code
def yX3_solve : MethodName := ⟨RX3, "solve", "()V"⟩
abbrev cX3_stayAtHome : ByteArray := prog_5_method_5_code
def yX3_stayAtHome : MethodName := ⟨RX3, "stayAtHome", "()V"⟩
abbrev cX3_leadMore : ByteArray := prog_5_method_6_code
def yX3_leadMore : MethodName := ⟨RX3, "leadMore", "()Z"⟩
abbrev cX3_measureReach : ByteArray := prog_5_method_7_code
def yX3_measureReach : MethodName := ⟨RX3, "measureReach", "()V"⟩
abbrev cX3_stepFrom : ByteArray := prog_5_method_8_code
def yX3_stepFrom : MethodName := ⟨RX3, "stepFrom", "(I)Z"⟩
abbrev cX3_stepMiles : ByteArray := prog_5_method_9_code
def yX3_stepMiles : MethodName := ⟨RX3, "stepMiles", "(II)I"⟩
abbrev cX3_isGiver : ByteArray := prog_5_method_10_code
def yX3_isGiver : MethodName := ⟨RX3, "isGiver", "(I)Z"⟩
abbrev cX3_isTaker : ByteArray := prog_5_method_11_code
def yX3_isTaker : MethodName := ⟨RX3, "isTaker", "(I)Z"⟩
abbrev cX3_nearestGoal : ByteArray := prog_5_method_12_code
def yX3_nearestGoal : MethodName := ⟨RX3, "nearestGoal", "()I"⟩
abbrev cX3_amountTo : ByteArray := prog_5_method_13_code
def yX3_amountTo : MethodName := ⟨RX3, "amountTo", "(I)I"⟩
abbrev cX3_moveTo : ByteArray := prog_5_method_14_code
def yX3_moveTo : MethodName := ⟨RX3, "moveTo", "(II)V"⟩
def RX4 : String := "WagonClearing$Network"
def TX4 : u_T := fun k => match k with
  | 0 => ("WagonClearing$Network", "oneEnd", "[I", true)
  | 1 => ("WagonClearing$Network", "otherEnd", "[I", true)
  | 2 => ("WagonClearing$Network", "companies", "[I", true)
  | 3 => ("WagonClearing$Network", "miles", "[I", true)
  | 4 => ("WagonClearing$Network", "leasts", "[I", true)
  | _ => ("WagonClearing$Network", "lines", "I", false)
def tyX4 : Nat → FieldType := fun k => match k with
  | 0 => .array .int
  | 1 => .array .int
  | 2 => .array .int
  | 3 => .array .int
  | 4 => .array .int
  | _ => .int
abbrev wsX40 : List Cond := u_ws RX4 TX4 6
theorem nmX4 : ∀ a, a < 6 → ∀ b, b < 6 → a ≠ b → (TX4 a).2.1 ≠ (TX4 b).2.1 := by decide +kernel
theorem tyX4_ok : ∀ k, k < 6 → parseFieldDescriptor (TX4 k).2.2.1 = some (tyX4 k) := by decide +kernel
abbrev cX4_init : ByteArray := prog_6_method_1_code
def yX4_init : MethodName := ⟨RX4, "<init>", "()V"⟩
abbrev cX4_addLine : ByteArray := prog_6_method_2_code
def yX4_addLine : MethodName := ⟨RX4, "addLine", "(IIII)I"⟩
abbrev cX4_shorten : ByteArray := prog_6_method_3_code
def yX4_shorten : MethodName := ⟨RX4, "shorten", "(III)V"⟩
abbrev cX4_milesBetween : ByteArray := prog_6_method_4_code
def yX4_milesBetween : MethodName := ⟨RX4, "milesBetween", "(II)I"⟩
abbrev cX4_lineTowards : ByteArray := prog_6_method_5_code
def yX4_lineTowards : MethodName := ⟨RX4, "lineTowards", "(II)I"⟩
abbrev cX4_farEnd : ByteArray := prog_6_method_6_code
def yX4_farEnd : MethodName := ⟨RX4, "farEnd", "(II)I"⟩
def RX5 : String := "WagonClearing$Parting"
def TX5 : u_T := fun k => match k with
  | 0 => ("WagonClearing$Parting", "parts", "[I", true)
  | 1 => ("WagonClearing$Parting", "milesOf", "[I", true)
  | 2 => ("WagonClearing$Parting", "cutOff", "[I", true)
  | 3 => ("WagonClearing$Parting", "network", "LWagonClearing$Network;", true)
  | 4 => ("WagonClearing$Parting", "firstCompany", "I", false)
  | _ => ("WagonClearing$Parting", "lastCompany", "I", false)
def tyX5 : Nat → FieldType := fun k => match k with
  | 0 => .array .int
  | 1 => .array .int
  | 2 => .array .int
  | 3 => .object "WagonClearing$Network"
  | 4 => .int
  | _ => .int
abbrev wsX50 : List Cond := u_ws RX5 TX5 6
theorem nmX5 : ∀ a, a < 6 → ∀ b, b < 6 → a ≠ b → (TX5 a).2.1 ≠ (TX5 b).2.1 := by decide +kernel
theorem tyX5_ok : ∀ k, k < 6 → parseFieldDescriptor (TX5 k).2.2.1 = some (tyX5 k) := by decide +kernel
abbrev cX5_init : ByteArray := prog_7_method_1_code
def yX5_init : MethodName := ⟨RX5, "<init>", "(LWagonClearing$Network;)V"⟩
abbrev cX5_divide : ByteArray := prog_7_method_2_code
def yX5_divide : MethodName := ⟨RX5, "divide", "(III)Z"⟩
abbrev cX5_travel : ByteArray := prog_7_method_3_code
def yX5_travel : MethodName := ⟨RX5, "travel", "(II)Z"⟩
abbrev cX5_divideByMiles : ByteArray := prog_7_method_4_code
def yX5_divideByMiles : MethodName := ⟨RX5, "divideByMiles", "(I)Z"⟩
abbrev cX5_giveOneMore : ByteArray := prog_7_method_5_code
def yX5_giveOneMore : MethodName := ⟨RX5, "giveOneMore", "()V"⟩
def RX6 : String := "WagonClearing$Register"
def TX6 : u_T := fun k => match k with
  | 0 => ("WagonClearing$Register", "marks", "[I", true)
  | 1 => ("WagonClearing$Register", "owners", "[I", true)
  | 2 => ("WagonClearing$Register", "wagons", "I", false)
  | 3 => ("WagonClearing$Register", "written", "[I", true)
  | 4 => ("WagonClearing$Register", "junctions", "[I", true)
  | 5 => ("WagonClearing$Register", "days", "[I", true)
  | 6 => ("WagonClearing$Register", "companies", "[I", true)
  | _ => ("WagonClearing$Register", "sights", "I", false)
def tyX6 : Nat → FieldType := fun k => match k with
  | 0 => .array .int
  | 1 => .array .int
  | 2 => .int
  | 3 => .array .int
  | 4 => .array .int
  | 5 => .array .int
  | 6 => .array .int
  | _ => .int
abbrev wsX60 : List Cond := u_ws RX6 TX6 8
theorem nmX6 : ∀ a, a < 8 → ∀ b, b < 8 → a ≠ b → (TX6 a).2.1 ≠ (TX6 b).2.1 := by decide +kernel
theorem tyX6_ok : ∀ k, k < 8 → parseFieldDescriptor (TX6 k).2.2.1 = some (tyX6 k) := by decide +kernel
abbrev cX6_init : ByteArray := prog_8_method_1_code
def yX6_init : MethodName := ⟨RX6, "<init>", "()V"⟩
abbrev cX6_addWagon : ByteArray := prog_8_method_2_code
def yX6_addWagon : MethodName := ⟨RX6, "addWagon", "(II)I"⟩
abbrev cX6_addSight : ByteArray := prog_8_method_3_code
def yX6_addSight : MethodName := ⟨RX6, "addSight", "(IIII)I"⟩
abbrev cX6_hasWagon : ByteArray := prog_8_method_4_code
def yX6_hasWagon : MethodName := ⟨RX6, "hasWagon", "(I)Z"⟩
abbrev cX6_hasSight : ByteArray := prog_8_method_5_code
def yX6_hasSight : MethodName := ⟨RX6, "hasSight", "(I)Z"⟩
abbrev cX6_errorOf : ByteArray := prog_8_method_6_code
def yX6_errorOf : MethodName := ⟨RX6, "errorOf", "(II)I"⟩
abbrev cX6_difference : ByteArray := prog_8_method_7_code
def yX6_difference : MethodName := ⟨RX6, "difference", "(II)I"⟩
def RX7 : String := "WagonClearing"
def TX7 : u_T := fun k => match k with
  | 0 => ("WagonClearing", "network", "LWagonClearing$Network;", true)
  | 1 => ("WagonClearing", "parting", "LWagonClearing$Parting;", true)
  | 2 => ("WagonClearing", "register", "LWagonClearing$Register;", true)
  | 3 => ("WagonClearing", "joining", "LWagonClearing$Joining;", true)
  | 4 => ("WagonClearing", "charging", "LWagonClearing$Charging;", true)
  | 5 => ("WagonClearing", "grouping", "LWagonClearing$Grouping;", true)
  | 6 => ("WagonClearing", "leading", "LWagonClearing$Leading;", true)
  | 7 => ("WagonClearing", "booked", "[I", true)
  | 8 => ("WagonClearing", "balances", "[I", true)
  | _ => ("WagonClearing", "sums", "I", false)
def tyX7 : Nat → FieldType := fun k => match k with
  | 0 => .object "WagonClearing$Network"
  | 1 => .object "WagonClearing$Parting"
  | 2 => .object "WagonClearing$Register"
  | 3 => .object "WagonClearing$Joining"
  | 4 => .object "WagonClearing$Charging"
  | 5 => .object "WagonClearing$Grouping"
  | 6 => .object "WagonClearing$Leading"
  | 7 => .array .int
  | 8 => .array .int
  | _ => .int
abbrev wsX70 : List Cond := u_ws RX7 TX7 10
theorem nmX7 : ∀ a, a < 10 → ∀ b, b < 10 → a ≠ b → (TX7 a).2.1 ≠ (TX7 b).2.1 := by decide +kernel
theorem tyX7_ok : ∀ k, k < 10 → parseFieldDescriptor (TX7 k).2.2.1 = some (tyX7 k) := by decide +kernel
abbrev cX7_init : ByteArray := prog_1_method_1_code
def yX7_init : MethodName := ⟨RX7, "<init>", "()V"⟩
abbrev cX7_line : ByteArray := prog_1_method_2_code
def yX7_line : MethodName := ⟨RX7, "line", "(IIII)I"⟩
abbrev cX7_least : ByteArray := prog_1_method_3_code
def yX7_least : MethodName := ⟨RX7, "least", "(II)I"⟩
abbrev cX7_route : ByteArray := prog_1_method_4_code
def yX7_route : MethodName := ⟨RX7, "route", "(II)I"⟩
abbrev cX7_part : ByteArray := prog_1_method_5_code
def yX7_part : MethodName := ⟨RX7, "part", "(IIII)I"⟩
abbrev cX7_book : ByteArray := prog_1_method_6_code
def yX7_book : MethodName := ⟨RX7, "book", "(IIII)Z"⟩
abbrev cX7_wagon : ByteArray := prog_1_method_7_code
def yX7_wagon : MethodName := ⟨RX7, "wagon", "(II)I"⟩
abbrev cX7_see : ByteArray := prog_1_method_8_code
def yX7_see : MethodName := ⟨RX7, "see", "(IIII)I"⟩
abbrev cX7_close : ByteArray := prog_1_method_9_code
def yX7_close : MethodName := ⟨RX7, "close", "()I"⟩
abbrev cX7_error : ByteArray := prog_1_method_10_code
def yX7_error : MethodName := ⟨RX7, "error", "(II)I"⟩
abbrev cX7_whose : ByteArray := prog_1_method_11_code
def yX7_whose : MethodName := ⟨RX7, "whose", "(I)I"⟩
abbrev cX7_cost : ByteArray := prog_1_method_12_code
def yX7_cost : MethodName := ⟨RX7, "cost", "()I"⟩
abbrev cX7_terms : ByteArray := prog_1_method_13_code
def yX7_terms : MethodName := ⟨RX7, "terms", "(II)Z"⟩
abbrev cX7_charge : ByteArray := prog_1_method_14_code
def yX7_charge : MethodName := ⟨RX7, "charge", "(II)I"⟩
abbrev cX7_balance : ByteArray := prog_1_method_15_code
def yX7_balance : MethodName := ⟨RX7, "balance", "(I)I"⟩
abbrev cX7_fewest : ByteArray := prog_1_method_16_code
def yX7_fewest : MethodName := ⟨RX7, "fewest", "()I"⟩
abbrev cX7_group : ByteArray := prog_1_method_17_code
def yX7_group : MethodName := ⟨RX7, "group", "(I)I"⟩
abbrev cX7_empties : ByteArray := prog_1_method_18_code
def yX7_empties : MethodName := ⟨RX7, "empties", "(III)Z"⟩
abbrev cX7_met : ByteArray := prog_1_method_19_code
def yX7_met : MethodName := ⟨RX7, "met", "()I"⟩
abbrev cX7_led : ByteArray := prog_1_method_20_code
def yX7_led : MethodName := ⟨RX7, "led", "()I"⟩
abbrev cX7_count : ByteArray := prog_1_method_21_code
def yX7_count : MethodName := ⟨RX7, "count", "(I)I"⟩
abbrev cX7_strikeBalances : ByteArray := prog_1_method_22_code
def yX7_strikeBalances : MethodName := ⟨RX7, "strikeBalances", "()V"⟩
abbrev cX7_isWithin : ByteArray := prog_1_method_23_code
def yX7_isWithin : MethodName := ⟨RX7, "isWithin", "(III)Z"⟩
abbrev cX7_isCompany : ByteArray := prog_1_method_24_code
def yX7_isCompany : MethodName := ⟨RX7, "isCompany", "(I)Z"⟩
abbrev cX7_isJunction : ByteArray := prog_1_method_25_code
def yX7_isJunction : MethodName := ⟨RX7, "isJunction", "(I)Z"⟩
abbrev cX7_isMark : ByteArray := prog_1_method_26_code
def yX7_isMark : MethodName := ⟨RX7, "isMark", "(I)Z"⟩
abbrev cX7_sumOf : ByteArray := prog_1_method_27_code
def yX7_sumOf : MethodName := ⟨RX7, "sumOf", "([I)I"⟩
def RX8 : String := "WagonClearingModel"
def TX8 : u_T := fun k => match k with
  | 0 => ("WagonClearingModel", "lines", "I", false)
  | 1 => ("WagonClearingModel", "lineA", "[I", true)
  | 2 => ("WagonClearingModel", "lineB", "[I", true)
  | 3 => ("WagonClearingModel", "lineOf", "[I", true)
  | 4 => ("WagonClearingModel", "miles", "[I", true)
  | 5 => ("WagonClearingModel", "least", "[I", true)
  | 6 => ("WagonClearingModel", "wagons", "I", false)
  | 7 => ("WagonClearingModel", "mark", "[I", true)
  | 8 => ("WagonClearingModel", "owner", "[I", true)
  | 9 => ("WagonClearingModel", "sights", "I", false)
  | 10 => ("WagonClearingModel", "seenMark", "[I", true)
  | 11 => ("WagonClearingModel", "seenAt", "[I", true)
  | 12 => ("WagonClearingModel", "seenOn", "[I", true)
  | 13 => ("WagonClearingModel", "seenOf", "[I", true)
  | 14 => ("WagonClearingModel", "free", "I", false)
  | 15 => ("WagonClearingModel", "price", "I", false)
  | 16 => ("WagonClearingModel", "booked", "I", false)
  | 17 => ("WagonClearingModel", "balances", "[I", true)
  | 18 => ("WagonClearingModel", "there", "[I", true)
  | 19 => ("WagonClearingModel", "wanted", "[I", true)
  | 20 => ("WagonClearingModel", "parts", "[I", true)
  | 21 => ("WagonClearingModel", "run", "[I", true)
  | 22 => ("WagonClearingModel", "cut", "[J", true)
  | 23 => ("WagonClearingModel", "of", "[I", true)
  | 24 => ("WagonClearingModel", "best", "[I", true)
  | 25 => ("WagonClearingModel", "nowOf", "[I", true)
  | 26 => ("WagonClearingModel", "most", "[I", true)
  | 27 => ("WagonClearingModel", "led", "[I", true)
  | 28 => ("WagonClearingModel", "far", "[I", true)
  | 29 => ("WagonClearingModel", "by", "[I", true)
  | _ => ("WagonClearingModel", "sum", "I", false)
def tyX8 : Nat → FieldType := fun k => match k with
  | 0 => .int
  | 1 => .array .int
  | 2 => .array .int
  | 3 => .array .int
  | 4 => .array .int
  | 5 => .array .int
  | 6 => .int
  | 7 => .array .int
  | 8 => .array .int
  | 9 => .int
  | 10 => .array .int
  | 11 => .array .int
  | 12 => .array .int
  | 13 => .array .int
  | 14 => .int
  | 15 => .int
  | 16 => .int
  | 17 => .array .int
  | 18 => .array .int
  | 19 => .array .int
  | 20 => .array .int
  | 21 => .array .int
  | 22 => .array .long
  | 23 => .array .int
  | 24 => .array .int
  | 25 => .array .int
  | 26 => .array .int
  | 27 => .array .int
  | 28 => .array .int
  | 29 => .array .int
  | _ => .int
abbrev wsX80 : List Cond := u_ws RX8 TX8 31
theorem nmX8 : ∀ a, a < 31 → ∀ b, b < 31 → a ≠ b → (TX8 a).2.1 ≠ (TX8 b).2.1 := by decide +kernel
theorem tyX8_ok : ∀ k, k < 31 → parseFieldDescriptor (TX8 k).2.2.1 = some (tyX8 k) := by decide +kernel
abbrev cX8_init : ByteArray := prog_10_method_1_code
def yX8_init : MethodName := ⟨RX8, "<init>", "()V"⟩
abbrev cX8_in : ByteArray := prog_10_method_2_code
def yX8_in : MethodName := ⟨RX8, "in", "(III)Z"⟩
abbrev cX8_isJunction : ByteArray := prog_10_method_3_code
def yX8_isJunction : MethodName := ⟨RX8, "isJunction", "(I)Z"⟩
abbrev cX8_isCompany : ByteArray := prog_10_method_4_code
def yX8_isCompany : MethodName := ⟨RX8, "isCompany", "(I)Z"⟩
abbrev cX8_reckons : ByteArray := prog_10_method_5_code
def yX8_reckons : MethodName := ⟨RX8, "reckons", "()V"⟩
abbrev cX8_line : ByteArray := prog_10_method_6_code
def yX8_line : MethodName := ⟨RX8, "line", "(IIII)I"⟩
abbrev cX8_least : ByteArray := prog_10_method_7_code
def yX8_least : MethodName := ⟨RX8, "least", "(II)I"⟩
abbrev cX8_otherEnd : ByteArray := prog_10_method_8_code
def yX8_otherEnd : MethodName := ⟨RX8, "otherEnd", "(II)I"⟩
abbrev cX8_route : ByteArray := prog_10_method_9_code
def yX8_route : MethodName := ⟨RX8, "route", "(II)I"⟩
abbrev cX8_parts : ByteArray := prog_10_method_10_code
def yX8_parts : MethodName := ⟨RX8, "parts", "(III)Z"⟩
abbrev cX8_part : ByteArray := prog_10_method_11_code
def yX8_part : MethodName := ⟨RX8, "part", "(IIII)I"⟩
abbrev cX8_book : ByteArray := prog_10_method_12_code
def yX8_book : MethodName := ⟨RX8, "book", "(IIII)Z"⟩
abbrev cX8_wagon : ByteArray := prog_10_method_13_code
def yX8_wagon : MethodName := ⟨RX8, "wagon", "(II)I"⟩
abbrev cX8_see : ByteArray := prog_10_method_14_code
def yX8_see : MethodName := ⟨RX8, "see", "(IIII)I"⟩
abbrev cX8_digit : ByteArray := prog_10_method_15_code
def yX8_digit : MethodName := ⟨RX8, "digit", "(II)I"⟩
abbrev cX8_errorOf : ByteArray := prog_10_method_16_code
def yX8_errorOf : MethodName := ⟨RX8, "errorOf", "(II)I"⟩
abbrev cX8_error : ByteArray := prog_10_method_17_code
def yX8_error : MethodName := ⟨RX8, "error", "(II)I"⟩
abbrev cX8_canBe : ByteArray := prog_10_method_18_code
def yX8_canBe : MethodName := ⟨RX8, "canBe", "(I)Z"⟩
abbrev cX8_joins : ByteArray := prog_10_method_19_code
def yX8_joins : MethodName := ⟨RX8, "joins", "()I"⟩
abbrev cX8_whose : ByteArray := prog_10_method_20_code
def yX8_whose : MethodName := ⟨RX8, "whose", "(I)I"⟩
abbrev cX8_cost : ByteArray := prog_10_method_21_code
def yX8_cost : MethodName := ⟨RX8, "cost", "()I"⟩
abbrev cX8_terms : ByteArray := prog_10_method_22_code
def yX8_terms : MethodName := ⟨RX8, "terms", "(II)Z"⟩
abbrev cX8_owes : ByteArray := prog_10_method_23_code
def yX8_owes : MethodName := ⟨RX8, "owes", "(II)I"⟩
abbrev cX8_charge : ByteArray := prog_10_method_24_code
def yX8_charge : MethodName := ⟨RX8, "charge", "(II)I"⟩
abbrev cX8_close : ByteArray := prog_10_method_25_code
def yX8_close : MethodName := ⟨RX8, "close", "()I"⟩
abbrev cX8_balance : ByteArray := prog_10_method_26_code
def yX8_balance : MethodName := ⟨RX8, "balance", "(I)I"⟩
abbrev cX8_sumOf : ByteArray := prog_10_method_27_code
def yX8_sumOf : MethodName := ⟨RX8, "sumOf", "(I)J"⟩
abbrev cX8_groups : ByteArray := prog_10_method_28_code
def yX8_groups : MethodName := ⟨RX8, "groups", "()I"⟩
abbrev cX8_fewest : ByteArray := prog_10_method_29_code
def yX8_fewest : MethodName := ⟨RX8, "fewest", "()I"⟩
abbrev cX8_group : ByteArray := prog_10_method_30_code
def yX8_group : MethodName := ⟨RX8, "group", "(I)I"⟩
abbrev cX8_empties : ByteArray := prog_10_method_31_code
def yX8_empties : MethodName := ⟨RX8, "empties", "(III)Z"⟩
abbrev cX8_leads : ByteArray := prog_10_method_32_code
def yX8_leads : MethodName := ⟨RX8, "leads", "()I"⟩
abbrev cX8_left : ByteArray := prog_10_method_33_code
def yX8_left : MethodName := ⟨RX8, "left", "(I)I"⟩
abbrev cX8_lacks : ByteArray := prog_10_method_34_code
def yX8_lacks : MethodName := ⟨RX8, "lacks", "(I)I"⟩
abbrev cX8_seeks : ByteArray := prog_10_method_35_code
def yX8_seeks : MethodName := ⟨RX8, "seeks", "()I"⟩
abbrev cX8_met : ByteArray := prog_10_method_36_code
def yX8_met : MethodName := ⟨RX8, "met", "()I"⟩
abbrev cX8_led : ByteArray := prog_10_method_37_code
def yX8_led : MethodName := ⟨RX8, "led", "()I"⟩
abbrev cX8_count : ByteArray := prog_10_method_38_code
def yX8_count : MethodName := ⟨RX8, "count", "(I)I"⟩
def RJ6 : String := "java/lang/Integer"
def TJ6 : u_T := fun k => match k with
  | _ => ("", "", "", false)
def tyJ6 : Nat → FieldType := fun k => match k with
  | _ => .int
abbrev wsJ60 : List Cond := u_ws RJ6 TJ6 0
theorem nmJ6 : ∀ a, a < 0 → ∀ b, b < 0 → a ≠ b → (TJ6 a).2.1 ≠ (TJ6 b).2.1 := by decide +kernel
theorem tyJ6_ok : ∀ k, k < 0 → parseFieldDescriptor (TJ6 k).2.2.1 = some (tyJ6 k) := by decide +kernel
abbrev cJ6_bitCount_0f7a4 : ByteArray := prog_11_method_49_code
def yJ6_bitCount_0f7a4 : MethodName := ⟨RJ6, "bitCount", "(I)I"⟩
def RJ9 : String := "java/lang/Math"
def TJ9 : u_T := fun k => match k with
  | _ => ("", "", "", false)
def tyJ9 : Nat → FieldType := fun k => match k with
  | _ => .int
abbrev wsJ90 : List Cond := u_ws RJ9 TJ9 0
theorem nmJ9 : ∀ a, a < 0 → ∀ b, b < 0 → a ≠ b → (TJ9 a).2.1 ≠ (TJ9 b).2.1 := by decide +kernel
theorem tyJ9_ok : ∀ k, k < 0 → parseFieldDescriptor (TJ9 k).2.2.1 = some (tyJ9 k) := by decide +kernel
abbrev cJ9_max_7cf53 : ByteArray := prog_12_method_65_code
def yJ9_max_7cf53 : MethodName := ⟨RJ9, "max", "(II)I"⟩
abbrev cJ9_min_7cf53 : ByteArray := prog_12_method_69_code
def yJ9_min_7cf53 : MethodName := ⟨RJ9, "min", "(II)I"⟩
def RJ10 : String := "java/lang/System"
def TJ10 : u_T := fun k => match k with
  | _ => ("", "", "", false)
def tyJ10 : Nat → FieldType := fun k => match k with
  | _ => .int
abbrev wsJ100 : List Cond := u_ws RJ10 TJ10 0
theorem nmJ10 : ∀ a, a < 0 → ∀ b, b < 0 → a ≠ b → (TJ10 a).2.1 ≠ (TJ10 b).2.1 := by decide +kernel
theorem tyJ10_ok : ∀ k, k < 0 → parseFieldDescriptor (TJ10 k).2.2.1 = some (tyJ10 k) := by decide +kernel
def RJ7 : String := "java/util/Arrays"
def TJ7 : u_T := fun k => match k with
  | _ => ("", "", "", false)
def tyJ7 : Nat → FieldType := fun k => match k with
  | _ => .int
abbrev wsJ70 : List Cond := u_ws RJ7 TJ7 0
theorem nmJ7 : ∀ a, a < 0 → ∀ b, b < 0 → a ≠ b → (TJ7 a).2.1 ≠ (TJ7 b).2.1 := by decide +kernel
theorem tyJ7_ok : ∀ k, k < 0 → parseFieldDescriptor (TJ7 k).2.2.1 = some (tyJ7 k) := by decide +kernel
abbrev cJ7_fill_53178 : ByteArray := prog_14_method_103_code
def yJ7_fill_53178 : MethodName := ⟨RJ7, "fill", "([II)V"⟩
def RL : String := "WagonClearingLaw"
abbrev cL_law : ByteArray := code
def yL_law : MethodName := ⟨RL, "law", "([I)Z"⟩
abbrev vwCl : List vw_C := [(RX0, TX0, 4), (RX1, TX1, 3), (RX2, TX2, 9), (RX3, TX3, 10), (RX4, TX4, 6), (RX5, TX5, 6), (RX6, TX6, 8), (RX7, TX7, 10), (RX8, TX8, 31)]

