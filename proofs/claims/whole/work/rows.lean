section
-- ===== PART A: goes FIRST, ahead of the names: the tables' words, and 'selects' of the private methods out of them =====
/-- a private method of a class that the tables say can be made, by its rows of tables_1 -/
def lw_okq (q : MethodName × Nat) : Prop := (q.1.cls ≠ "java/lang/invoke/MethodHandle" ∧ q.1.cls ≠ "java/lang/invoke/VarHandle") ∧ Cond.instantiable q.1.cls q.2 ∈ tables_1 ∧ Cond.privateMethod q.1 ∈ tables_1 ∧ Cond.instanceMethod q.1 ∈ tables_1
theorem lw_p0 : lw_okq (⟨"WagonClearing$Network", "shorten", "(III)V"⟩, 6) := ⟨⟨by decide +kernel, by decide +kernel⟩, List.mem_of_getElem? (i := 23) (by decide +kernel), List.mem_of_getElem? (i := 287) (by decide +kernel), List.mem_of_getElem? (i := 288) (by decide +kernel)⟩
theorem lw_p1 : lw_okq (⟨"WagonClearing$Parting", "travel", "(II)Z"⟩, 6) := ⟨⟨by decide +kernel, by decide +kernel⟩, List.mem_of_getElem? (i := 58) (by decide +kernel), List.mem_of_getElem? (i := 334) (by decide +kernel), List.mem_of_getElem? (i := 335) (by decide +kernel)⟩
theorem lw_p2 : lw_okq (⟨"WagonClearing$Parting", "divideByMiles", "(I)Z"⟩, 6) := ⟨⟨by decide +kernel, by decide +kernel⟩, List.mem_of_getElem? (i := 58) (by decide +kernel), List.mem_of_getElem? (i := 342) (by decide +kernel), List.mem_of_getElem? (i := 343) (by decide +kernel)⟩
theorem lw_p3 : lw_okq (⟨"WagonClearing$Parting", "giveOneMore", "()V"⟩, 6) := ⟨⟨by decide +kernel, by decide +kernel⟩, List.mem_of_getElem? (i := 58) (by decide +kernel), List.mem_of_getElem? (i := 349) (by decide +kernel), List.mem_of_getElem? (i := 350) (by decide +kernel)⟩
theorem lw_p4 : lw_okq (⟨"WagonClearing$Joining", "measureErrors", "()V"⟩, 9) := ⟨⟨by decide +kernel, by decide +kernel⟩, List.mem_of_getElem? (i := 128) (by decide +kernel), List.mem_of_getElem? (i := 393) (by decide +kernel), List.mem_of_getElem? (i := 394) (by decide +kernel)⟩
theorem lw_p5 : lw_okq (⟨"WagonClearing$Joining", "keep", "(I)V"⟩, 9) := ⟨⟨by decide +kernel, by decide +kernel⟩, List.mem_of_getElem? (i := 128) (by decide +kernel), List.mem_of_getElem? (i := 405) (by decide +kernel), List.mem_of_getElem? (i := 406) (by decide +kernel)⟩
theorem lw_p6 : lw_okq (⟨"WagonClearing$Joining", "isInTime", "(II)Z"⟩, 9) := ⟨⟨by decide +kernel, by decide +kernel⟩, List.mem_of_getElem? (i := 128) (by decide +kernel), List.mem_of_getElem? (i := 412) (by decide +kernel), List.mem_of_getElem? (i := 413) (by decide +kernel)⟩
theorem lw_p7 : lw_okq (⟨"WagonClearing$Charging", "owedAsJoined", "(II)I"⟩, 4) := ⟨⟨by decide +kernel, by decide +kernel⟩, List.mem_of_getElem? (i := 163) (by decide +kernel), List.mem_of_getElem? (i := 417) (by decide +kernel), List.mem_of_getElem? (i := 418) (by decide +kernel)⟩
theorem lw_p8 : lw_okq (⟨"WagonClearing$Charging", "priceOf", "(I)I"⟩, 4) := ⟨⟨by decide +kernel, by decide +kernel⟩, List.mem_of_getElem? (i := 163) (by decide +kernel), List.mem_of_getElem? (i := 421) (by decide +kernel), List.mem_of_getElem? (i := 422) (by decide +kernel)⟩
theorem lw_p9 : lw_okq (⟨"WagonClearing", "strikeBalances", "()V"⟩, 10) := ⟨⟨by decide +kernel, by decide +kernel⟩, List.mem_of_getElem? (i := 15) (by decide +kernel), List.mem_of_getElem? (i := 486) (by decide +kernel), List.mem_of_getElem? (i := 487) (by decide +kernel)⟩
theorem lw_p10 : lw_okq (⟨"WagonClearing$Grouping", "weighSet", "(I[I)V"⟩, 3) := ⟨⟨by decide +kernel, by decide +kernel⟩, List.mem_of_getElem? (i := 182) (by decide +kernel), List.mem_of_getElem? (i := 499) (by decide +kernel), List.mem_of_getElem? (i := 500) (by decide +kernel)⟩
theorem lw_p11 : lw_okq (⟨"WagonClearing$Grouping", "firstGroup", "(I)I"⟩, 3) := ⟨⟨by decide +kernel, by decide +kernel⟩, List.mem_of_getElem? (i := 182) (by decide +kernel), List.mem_of_getElem? (i := 522) (by decide +kernel), List.mem_of_getElem? (i := 523) (by decide +kernel)⟩
theorem lw_p12 : lw_okq (⟨"WagonClearing$Leading", "stayAtHome", "()V"⟩, 10) := ⟨⟨by decide +kernel, by decide +kernel⟩, List.mem_of_getElem? (i := 198) (by decide +kernel), List.mem_of_getElem? (i := 545) (by decide +kernel), List.mem_of_getElem? (i := 546) (by decide +kernel)⟩
theorem lw_p13 : lw_okq (⟨"WagonClearing$Leading", "leadMore", "()Z"⟩, 10) := ⟨⟨by decide +kernel, by decide +kernel⟩, List.mem_of_getElem? (i := 198) (by decide +kernel), List.mem_of_getElem? (i := 551) (by decide +kernel), List.mem_of_getElem? (i := 552) (by decide +kernel)⟩
theorem lw_p14 : lw_okq (⟨"WagonClearing$Leading", "measureReach", "()V"⟩, 10) := ⟨⟨by decide +kernel, by decide +kernel⟩, List.mem_of_getElem? (i := 198) (by decide +kernel), List.mem_of_getElem? (i := 555) (by decide +kernel), List.mem_of_getElem? (i := 556) (by decide +kernel)⟩
theorem lw_p15 : lw_okq (⟨"WagonClearing$Leading", "stepFrom", "(I)Z"⟩, 10) := ⟨⟨by decide +kernel, by decide +kernel⟩, List.mem_of_getElem? (i := 198) (by decide +kernel), List.mem_of_getElem? (i := 560) (by decide +kernel), List.mem_of_getElem? (i := 561) (by decide +kernel)⟩
def lw_privs_1 : List (MethodName × Nat) := [(⟨"WagonClearing$Network", "shorten", "(III)V"⟩, 6), (⟨"WagonClearing$Parting", "travel", "(II)Z"⟩, 6), (⟨"WagonClearing$Parting", "divideByMiles", "(I)Z"⟩, 6), (⟨"WagonClearing$Parting", "giveOneMore", "()V"⟩, 6), (⟨"WagonClearing$Joining", "measureErrors", "()V"⟩, 9), (⟨"WagonClearing$Joining", "keep", "(I)V"⟩, 9), (⟨"WagonClearing$Joining", "isInTime", "(II)Z"⟩, 9), (⟨"WagonClearing$Charging", "owedAsJoined", "(II)I"⟩, 4), (⟨"WagonClearing$Charging", "priceOf", "(I)I"⟩, 4), (⟨"WagonClearing", "strikeBalances", "()V"⟩, 10), (⟨"WagonClearing$Grouping", "weighSet", "(I[I)V"⟩, 3), (⟨"WagonClearing$Grouping", "firstGroup", "(I)I"⟩, 3), (⟨"WagonClearing$Leading", "stayAtHome", "()V"⟩, 10), (⟨"WagonClearing$Leading", "leadMore", "()Z"⟩, 10), (⟨"WagonClearing$Leading", "measureReach", "()V"⟩, 10), (⟨"WagonClearing$Leading", "stepFrom", "(I)Z"⟩, 10)]
theorem lw_r1 : ∀ q ∈ lw_privs_1, lw_okq q := List.forall_mem_cons.mpr ⟨lw_p0, List.forall_mem_cons.mpr ⟨lw_p1, List.forall_mem_cons.mpr ⟨lw_p2, List.forall_mem_cons.mpr ⟨lw_p3, List.forall_mem_cons.mpr ⟨lw_p4, List.forall_mem_cons.mpr ⟨lw_p5, List.forall_mem_cons.mpr ⟨lw_p6, List.forall_mem_cons.mpr ⟨lw_p7, List.forall_mem_cons.mpr ⟨lw_p8, List.forall_mem_cons.mpr ⟨lw_p9, List.forall_mem_cons.mpr ⟨lw_p10, List.forall_mem_cons.mpr ⟨lw_p11, List.forall_mem_cons.mpr ⟨lw_p12, List.forall_mem_cons.mpr ⟨lw_p13, List.forall_mem_cons.mpr ⟨lw_p14, List.forall_mem_cons.mpr ⟨lw_p15, fun _ h => absurd h List.not_mem_nil⟩⟩⟩⟩⟩⟩⟩⟩⟩⟩⟩⟩⟩⟩⟩⟩
theorem lw_p16 : lw_okq (⟨"WagonClearing$Leading", "stepMiles", "(II)I"⟩, 10) := ⟨⟨by decide +kernel, by decide +kernel⟩, List.mem_of_getElem? (i := 198) (by decide +kernel), List.mem_of_getElem? (i := 564) (by decide +kernel), List.mem_of_getElem? (i := 565) (by decide +kernel)⟩
theorem lw_p17 : lw_okq (⟨"WagonClearing$Leading", "isGiver", "(I)Z"⟩, 10) := ⟨⟨by decide +kernel, by decide +kernel⟩, List.mem_of_getElem? (i := 198) (by decide +kernel), List.mem_of_getElem? (i := 568) (by decide +kernel), List.mem_of_getElem? (i := 569) (by decide +kernel)⟩
theorem lw_p18 : lw_okq (⟨"WagonClearing$Leading", "isTaker", "(I)Z"⟩, 10) := ⟨⟨by decide +kernel, by decide +kernel⟩, List.mem_of_getElem? (i := 198) (by decide +kernel), List.mem_of_getElem? (i := 572) (by decide +kernel), List.mem_of_getElem? (i := 573) (by decide +kernel)⟩
theorem lw_p19 : lw_okq (⟨"WagonClearing$Leading", "nearestGoal", "()I"⟩, 10) := ⟨⟨by decide +kernel, by decide +kernel⟩, List.mem_of_getElem? (i := 198) (by decide +kernel), List.mem_of_getElem? (i := 576) (by decide +kernel), List.mem_of_getElem? (i := 577) (by decide +kernel)⟩
theorem lw_p20 : lw_okq (⟨"WagonClearing$Leading", "amountTo", "(I)I"⟩, 10) := ⟨⟨by decide +kernel, by decide +kernel⟩, List.mem_of_getElem? (i := 198) (by decide +kernel), List.mem_of_getElem? (i := 580) (by decide +kernel), List.mem_of_getElem? (i := 581) (by decide +kernel)⟩
theorem lw_p21 : lw_okq (⟨"WagonClearing$Leading", "moveTo", "(II)V"⟩, 10) := ⟨⟨by decide +kernel, by decide +kernel⟩, List.mem_of_getElem? (i := 198) (by decide +kernel), List.mem_of_getElem? (i := 584) (by decide +kernel), List.mem_of_getElem? (i := 585) (by decide +kernel)⟩
theorem lw_p22 : lw_okq (⟨"WagonClearingModel", "reckons", "()V"⟩, 31) := ⟨⟨by decide +kernel, by decide +kernel⟩, List.mem_of_getElem? (i := 597) (by decide +kernel), List.mem_of_getElem? (i := 603) (by decide +kernel), List.mem_of_getElem? (i := 604) (by decide +kernel)⟩
theorem lw_p23 : lw_okq (⟨"WagonClearingModel", "otherEnd", "(II)I"⟩, 31) := ⟨⟨by decide +kernel, by decide +kernel⟩, List.mem_of_getElem? (i := 597) (by decide +kernel), List.mem_of_getElem? (i := 725) (by decide +kernel), List.mem_of_getElem? (i := 726) (by decide +kernel)⟩
theorem lw_p24 : lw_okq (⟨"WagonClearingModel", "parts", "(III)Z"⟩, 31) := ⟨⟨by decide +kernel, by decide +kernel⟩, List.mem_of_getElem? (i := 597) (by decide +kernel), List.mem_of_getElem? (i := 733) (by decide +kernel), List.mem_of_getElem? (i := 734) (by decide +kernel)⟩
theorem lw_p25 : lw_okq (⟨"WagonClearingModel", "joins", "()I"⟩, 31) := ⟨⟨by decide +kernel, by decide +kernel⟩, List.mem_of_getElem? (i := 597) (by decide +kernel), List.mem_of_getElem? (i := 766) (by decide +kernel), List.mem_of_getElem? (i := 767) (by decide +kernel)⟩
theorem lw_p26 : lw_okq (⟨"WagonClearingModel", "canBe", "(I)Z"⟩, 31) := ⟨⟨by decide +kernel, by decide +kernel⟩, List.mem_of_getElem? (i := 597) (by decide +kernel), List.mem_of_getElem? (i := 770) (by decide +kernel), List.mem_of_getElem? (i := 771) (by decide +kernel)⟩
theorem lw_p27 : lw_okq (⟨"WagonClearingModel", "owes", "(II)I"⟩, 31) := ⟨⟨by decide +kernel, by decide +kernel⟩, List.mem_of_getElem? (i := 597) (by decide +kernel), List.mem_of_getElem? (i := 786) (by decide +kernel), List.mem_of_getElem? (i := 787) (by decide +kernel)⟩
theorem lw_p28 : lw_okq (⟨"WagonClearingModel", "groups", "()I"⟩, 31) := ⟨⟨by decide +kernel, by decide +kernel⟩, List.mem_of_getElem? (i := 597) (by decide +kernel), List.mem_of_getElem? (i := 803) (by decide +kernel), List.mem_of_getElem? (i := 804) (by decide +kernel)⟩
theorem lw_p29 : lw_okq (⟨"WagonClearingModel", "sumOf", "(I)J"⟩, 31) := ⟨⟨by decide +kernel, by decide +kernel⟩, List.mem_of_getElem? (i := 597) (by decide +kernel), List.mem_of_getElem? (i := 807) (by decide +kernel), List.mem_of_getElem? (i := 808) (by decide +kernel)⟩
theorem lw_p30 : lw_okq (⟨"WagonClearingModel", "leads", "()I"⟩, 31) := ⟨⟨by decide +kernel, by decide +kernel⟩, List.mem_of_getElem? (i := 597) (by decide +kernel), List.mem_of_getElem? (i := 823) (by decide +kernel), List.mem_of_getElem? (i := 824) (by decide +kernel)⟩
theorem lw_p31 : lw_okq (⟨"WagonClearingModel", "seeks", "()I"⟩, 31) := ⟨⟨by decide +kernel, by decide +kernel⟩, List.mem_of_getElem? (i := 597) (by decide +kernel), List.mem_of_getElem? (i := 827) (by decide +kernel), List.mem_of_getElem? (i := 828) (by decide +kernel)⟩
def lw_privs_2 : List (MethodName × Nat) := [(⟨"WagonClearing$Leading", "stepMiles", "(II)I"⟩, 10), (⟨"WagonClearing$Leading", "isGiver", "(I)Z"⟩, 10), (⟨"WagonClearing$Leading", "isTaker", "(I)Z"⟩, 10), (⟨"WagonClearing$Leading", "nearestGoal", "()I"⟩, 10), (⟨"WagonClearing$Leading", "amountTo", "(I)I"⟩, 10), (⟨"WagonClearing$Leading", "moveTo", "(II)V"⟩, 10), (⟨"WagonClearingModel", "reckons", "()V"⟩, 31), (⟨"WagonClearingModel", "otherEnd", "(II)I"⟩, 31), (⟨"WagonClearingModel", "parts", "(III)Z"⟩, 31), (⟨"WagonClearingModel", "joins", "()I"⟩, 31), (⟨"WagonClearingModel", "canBe", "(I)Z"⟩, 31), (⟨"WagonClearingModel", "owes", "(II)I"⟩, 31), (⟨"WagonClearingModel", "groups", "()I"⟩, 31), (⟨"WagonClearingModel", "sumOf", "(I)J"⟩, 31), (⟨"WagonClearingModel", "leads", "()I"⟩, 31), (⟨"WagonClearingModel", "seeks", "()I"⟩, 31)]
theorem lw_r2 : ∀ q ∈ lw_privs_2, lw_okq q := List.forall_mem_cons.mpr ⟨lw_p16, List.forall_mem_cons.mpr ⟨lw_p17, List.forall_mem_cons.mpr ⟨lw_p18, List.forall_mem_cons.mpr ⟨lw_p19, List.forall_mem_cons.mpr ⟨lw_p20, List.forall_mem_cons.mpr ⟨lw_p21, List.forall_mem_cons.mpr ⟨lw_p22, List.forall_mem_cons.mpr ⟨lw_p23, List.forall_mem_cons.mpr ⟨lw_p24, List.forall_mem_cons.mpr ⟨lw_p25, List.forall_mem_cons.mpr ⟨lw_p26, List.forall_mem_cons.mpr ⟨lw_p27, List.forall_mem_cons.mpr ⟨lw_p28, List.forall_mem_cons.mpr ⟨lw_p29, List.forall_mem_cons.mpr ⟨lw_p30, List.forall_mem_cons.mpr ⟨lw_p31, fun _ h => absurd h List.not_mem_nil⟩⟩⟩⟩⟩⟩⟩⟩⟩⟩⟩⟩⟩⟩⟩⟩
theorem lw_p32 : lw_okq (⟨"WagonClearingModel", "left", "(I)I"⟩, 31) := ⟨⟨by decide +kernel, by decide +kernel⟩, List.mem_of_getElem? (i := 597) (by decide +kernel), List.mem_of_getElem? (i := 831) (by decide +kernel), List.mem_of_getElem? (i := 832) (by decide +kernel)⟩
theorem lw_p33 : lw_okq (⟨"WagonClearingModel", "lacks", "(I)I"⟩, 31) := ⟨⟨by decide +kernel, by decide +kernel⟩, List.mem_of_getElem? (i := 597) (by decide +kernel), List.mem_of_getElem? (i := 836) (by decide +kernel), List.mem_of_getElem? (i := 837) (by decide +kernel)⟩
def lw_privs_3 : List (MethodName × Nat) := [(⟨"WagonClearingModel", "left", "(I)I"⟩, 31), (⟨"WagonClearingModel", "lacks", "(I)I"⟩, 31)]
theorem lw_r3 : ∀ q ∈ lw_privs_3, lw_okq q := List.forall_mem_cons.mpr ⟨lw_p32, List.forall_mem_cons.mpr ⟨lw_p33, fun _ h => absurd h List.not_mem_nil⟩⟩
def lw_privs : List (MethodName × Nat) := lw_privs_1 ++ (lw_privs_2 ++ (lw_privs_3))
def lw_tbl : List Cond := k2_sels lw_privs ++ tables_1
theorem lw_privs_ok : ∀ q ∈ lw_privs, lw_okq q := by
  show ∀ q ∈ lw_privs_1 ++ (lw_privs_2 ++ (lw_privs_3)), lw_okq q
  exact List.forall_mem_append.mpr ⟨lw_r1, List.forall_mem_append.mpr ⟨lw_r2, lw_r3⟩⟩
/-! ===== BEGIN words of one list among another's, by their places ===== -/
/-! ===== END ===== -/

/-! ===== BEGIN printed: names, fields, word lists, decode rows ===== -/
def RX0 : String := "WagonClearing$Charging"
def TX0 : u_T := fun k => match k with
  | 0 => ("WagonClearing$Charging", "register", "LWagonClearing$Register;", true)
  | 1 => ("WagonClearing$Charging", "joining", "LWagonClearing$Joining;", true)
  | 2 => ("WagonClearing$Charging", "freeDays", "I", false)
  | _ => ("WagonClearing$Charging", "dayPrice", "I", false)
def tyX0 : Nat → FieldType := fun k => match k with
  | 0 => .object "WagonClearing$Register"
  | 1 => .object "WagonClearing$Joining"
  | 2 => .int
  | _ => .int
abbrev wsX00 : List Cond := u_ws RX0 TX0 4
theorem nmX0 : ∀ a, a < 4 → ∀ b, b < 4 → a ≠ b → (TX0 a).2.1 ≠ (TX0 b).2.1 := by decide +kernel
theorem tyX0_ok : ∀ k, k < 4 → parseFieldDescriptor (TX0 k).2.2.1 = some (tyX0 k) := by decide +kernel
abbrev cX0_init : ByteArray := prog_2_method_1_code
def yX0_init : MethodName := ⟨RX0, "<init>", "(LWagonClearing$Register;LWagonClearing$Joining;)V"⟩
abbrev cX0_agree : ByteArray := prog_2_method_2_code
def yX0_agree : MethodName := ⟨RX0, "agree", "(II)Z"⟩
abbrev cX0_owed : ByteArray := prog_2_method_3_code
def yX0_owed : MethodName := ⟨RX0, "owed", "(II)I"⟩
abbrev cX0_owedAsJoined : ByteArray := prog_2_method_4_code
def yX0_owedAsJoined : MethodName := ⟨RX0, "owedAsJoined", "(II)I"⟩
abbrev cX0_priceOf : ByteArray := prog_2_method_5_code
def yX0_priceOf : MethodName := ⟨RX0, "priceOf", "(I)I"⟩
abbrev cX0_addCharges : ByteArray := prog_2_method_6_code
def yX0_addCharges : MethodName := ⟨RX0, "addCharges", "([I)V"⟩
def RX1 : String := "WagonClearing$Grouping"
def TX1 : u_T := fun k => match k with
  | 0 => ("WagonClearing$Grouping", "totals", "[I", true)
  | 1 => ("WagonClearing$Grouping", "most", "[I", true)
  | _ => ("WagonClearing$Grouping", "members", "I", false)
def tyX1 : Nat → FieldType := fun k => match k with
  | 0 => .array .int
  | 1 => .array .int
  | _ => .int
abbrev wsX10 : List Cond := u_ws RX1 TX1 3
theorem nmX1 : ∀ a, a < 3 → ∀ b, b < 3 → a ≠ b → (TX1 a).2.1 ≠ (TX1 b).2.1 := by decide +kernel
theorem tyX1_ok : ∀ k, k < 3 → parseFieldDescriptor (TX1 k).2.2.1 = some (tyX1 k) := by decide +kernel
abbrev cX1_init : ByteArray := prog_3_method_1_code
def yX1_init : MethodName := ⟨RX1, "<init>", "()V"⟩
abbrev cX1_weigh : ByteArray := prog_3_method_2_code
def yX1_weigh : MethodName := ⟨RX1, "weigh", "([I)V"⟩
abbrev cX1_weighSet : ByteArray := prog_3_method_3_code
def yX1_weighSet : MethodName := ⟨RX1, "weighSet", "(I[I)V"⟩
abbrev cX1_payments : ByteArray := prog_3_method_4_code
def yX1_payments : MethodName := ⟨RX1, "payments", "()I"⟩
abbrev cX1_groupWith : ByteArray := prog_3_method_5_code
def yX1_groupWith : MethodName := ⟨RX1, "groupWith", "(I)I"⟩
abbrev cX1_firstGroup : ByteArray := prog_3_method_6_code
def yX1_firstGroup : MethodName := ⟨RX1, "firstGroup", "(I)I"⟩
def RX2 : String := "WagonClearing$Joining"
def TX2 : u_T := fun k => match k with
  | 0 => ("WagonClearing$Joining", "network", "LWagonClearing$Network;", true)
  | 1 => ("WagonClearing$Joining", "register", "LWagonClearing$Register;", true)
  | 2 => ("WagonClearing$Joining", "errors", "[I", true)
  | 3 => ("WagonClearing$Joining", "floors", "[I", true)
  | 4 => ("WagonClearing$Joining", "tried", "[I", true)
  | 5 => ("WagonClearing$Joining", "latest", "[I", true)
  | 6 => ("WagonClearing$Joining", "best", "[I", true)
  | 7 => ("WagonClearing$Joining", "bestCost", "I", false)
  | _ => ("WagonClearing$Joining", "known", "Z", false)
def tyX2 : Nat → FieldType := fun k => match k with
  | 0 => .object "WagonClearing$Network"
  | 1 => .object "WagonClearing$Register"
  | 2 => .array .int
  | 3 => .array .int
  | 4 => .array .int
  | 5 => .array .int
  | 6 => .array .int
  | 7 => .int
  | _ => .boolean
abbrev wsX20 : List Cond := u_ws RX2 TX2 9
theorem nmX2 : ∀ a, a < 9 → ∀ b, b < 9 → a ≠ b → (TX2 a).2.1 ≠ (TX2 b).2.1 := by decide +kernel
theorem tyX2_ok : ∀ k, k < 9 → parseFieldDescriptor (TX2 k).2.2.1 = some (tyX2 k) := by decide +kernel
abbrev cX2_init : ByteArray := prog_4_method_1_code
def yX2_init : MethodName := ⟨RX2, "<init>", "(LWagonClearing$Network;LWagonClearing$Register;)V"⟩
abbrev cX2_forget : ByteArray := prog_4_method_2_code
def yX2_forget : MethodName := ⟨RX2, "forget", "()V"⟩
abbrev cX2_wagonOf : ByteArray := prog_4_method_3_code
def yX2_wagonOf : MethodName := ⟨RX2, "wagonOf", "(I)I"⟩
abbrev cX2_lowestCost : ByteArray := prog_4_method_4_code
def yX2_lowestCost : MethodName := ⟨RX2, "lowestCost", "()I"⟩
abbrev cX2_solve : ByteArray := prog_4_method_5_code
def yX2_solve : MethodName := ⟨RX2, "solve", "()V"⟩
abbrev cX2_measureErrors : ByteArray := prog_4_method_6_code
def yX2_measureErrors : MethodName := ⟨RX2, "measureErrors", "()V"⟩
abbrev cX2_searchFrom : ByteArray := prog_4_method_7_code
def yX2_searchFrom : MethodName := ⟨RX2, "searchFrom", "(LWagonClearing$Joining;II)V"⟩
abbrev cX2_isInTime : ByteArray := prog_4_method_8_code
def yX2_isInTime : MethodName := ⟨RX2, "isInTime", "(II)Z"⟩
abbrev cX2_keep : ByteArray := prog_4_method_9_code
def yX2_keep : MethodName := ⟨RX2, "keep", "(I)V"⟩
def RX3 : String := "WagonClearing$Leading"
def TX3 : u_T := fun k => match k with
  | 0 => ("WagonClearing$Leading", "there", "[I", true)
  | 1 => ("WagonClearing$Leading", "wanted", "[I", true)
  | 2 => ("WagonClearing$Leading", "wantsMet", "I", false)
  | 3 => ("WagonClearing$Leading", "milesLed", "I", false)
  | 4 => ("WagonClearing$Leading", "network", "LWagonClearing$Network;", true)
  | 5 => ("WagonClearing$Leading", "spare", "[I", true)
  | 6 => ("WagonClearing$Leading", "moved", "[I", true)
  | 7 => ("WagonClearing$Leading", "reach", "[I", true)
  | 8 => ("WagonClearing$Leading", "before", "[I", true)
  | _ => ("WagonClearing$Leading", "known", "Z", false)
def tyX3 : Nat → FieldType := fun k => match k with
  | 0 => .array .int
  | 1 => .array .int
  | 2 => .int
  | 3 => .int
  | 4 => .object "WagonClearing$Network"
  | 5 => .array .int
  | 6 => .array .int
  | 7 => .array .int
  | 8 => .array .int
  | _ => .boolean
abbrev wsX30 : List Cond := u_ws RX3 TX3 10
theorem nmX3 : ∀ a, a < 10 → ∀ b, b < 10 → a ≠ b → (TX3 a).2.1 ≠ (TX3 b).2.1 := by decide +kernel
theorem tyX3_ok : ∀ k, k < 10 → parseFieldDescriptor (TX3 k).2.2.1 = some (tyX3 k) := by decide +kernel
abbrev cX3_init : ByteArray := prog_5_method_1_code
def yX3_init : MethodName := ⟨RX3, "<init>", "(LWagonClearing$Network;)V"⟩
abbrev cX3_forget : ByteArray := prog_5_method_2_code
def yX3_forget : MethodName := ⟨RX3, "forget", "()V"⟩
abbrev cX3_place : ByteArray := prog_5_method_3_code
def yX3_place : MethodName := ⟨RX3, "place", "(III)Z"⟩
abbrev cX3_solve : ByteArray := prog_5_method_4_code
def yX3_solve : MethodName := ⟨RX3, "solve", "()V"⟩
abbrev cX3_stayAtHome : ByteArray := prog_5_method_5_code
def yX3_stayAtHome : MethodName := ⟨RX3, "stayAtHome", "()V"⟩
abbrev cX3_leadMore : ByteArray := prog_5_method_6_code
def yX3_leadMore : MethodName := ⟨RX3, "leadMore", "()Z"⟩
abbrev cX3_measureReach : ByteArray := prog_5_method_7_code
def yX3_measureReach : MethodName := ⟨RX3, "measureReach", "()V"⟩
abbrev cX3_stepFrom : ByteArray := prog_5_method_8_code
def yX3_stepFrom : MethodName := ⟨RX3, "stepFrom", "(I)Z"⟩
abbrev cX3_stepMiles : ByteArray := prog_5_method_9_code
def yX3_stepMiles : MethodName := ⟨RX3, "stepMiles", "(II)I"⟩
abbrev cX3_isGiver : ByteArray := prog_5_method_10_code
def yX3_isGiver : MethodName := ⟨RX3, "isGiver", "(I)Z"⟩
abbrev cX3_isTaker : ByteArray := prog_5_method_11_code
def yX3_isTaker : MethodName := ⟨RX3, "isTaker", "(I)Z"⟩
abbrev cX3_nearestGoal : ByteArray := prog_5_method_12_code
def yX3_nearestGoal : MethodName := ⟨RX3, "nearestGoal", "()I"⟩
abbrev cX3_amountTo : ByteArray := prog_5_method_13_code
def yX3_amountTo : MethodName := ⟨RX3, "amountTo", "(I)I"⟩
abbrev cX3_moveTo : ByteArray := prog_5_method_14_code
def yX3_moveTo : MethodName := ⟨RX3, "moveTo", "(II)V"⟩
def RX4 : String := "WagonClearing$Network"
def TX4 : u_T := fun k => match k with
  | 0 => ("WagonClearing$Network", "oneEnd", "[I", true)
  | 1 => ("WagonClearing$Network", "otherEnd", "[I", true)
  | 2 => ("WagonClearing$Network", "companies", "[I", true)
  | 3 => ("WagonClearing$Network", "miles", "[I", true)
  | 4 => ("WagonClearing$Network", "leasts", "[I", true)
  | _ => ("WagonClearing$Network", "lines", "I", false)
def tyX4 : Nat → FieldType := fun k => match k with
  | 0 => .array .int
  | 1 => .array .int
  | 2 => .array .int
  | 3 => .array .int
  | 4 => .array .int
  | _ => .int
abbrev wsX40 : List Cond := u_ws RX4 TX4 6
theorem nmX4 : ∀ a, a < 6 → ∀ b, b < 6 → a ≠ b → (TX4 a).2.1 ≠ (TX4 b).2.1 := by decide +kernel
theorem tyX4_ok : ∀ k, k < 6 → parseFieldDescriptor (TX4 k).2.2.1 = some (tyX4 k) := by decide +kernel
abbrev cX4_init : ByteArray := prog_6_method_1_code
def yX4_init : MethodName := ⟨RX4, "<init>", "()V"⟩
abbrev cX4_addLine : ByteArray := prog_6_method_2_code
def yX4_addLine : MethodName := ⟨RX4, "addLine", "(IIII)I"⟩
abbrev cX4_shorten : ByteArray := prog_6_method_3_code
def yX4_shorten : MethodName := ⟨RX4, "shorten", "(III)V"⟩
abbrev cX4_milesBetween : ByteArray := prog_6_method_4_code
def yX4_milesBetween : MethodName := ⟨RX4, "milesBetween", "(II)I"⟩
abbrev cX4_lineTowards : ByteArray := prog_6_method_5_code
def yX4_lineTowards : MethodName := ⟨RX4, "lineTowards", "(II)I"⟩
abbrev cX4_farEnd : ByteArray := prog_6_method_6_code
def yX4_farEnd : MethodName := ⟨RX4, "farEnd", "(II)I"⟩
def RX5 : String := "WagonClearing$Parting"
def TX5 : u_T := fun k => match k with
  | 0 => ("WagonClearing$Parting", "parts", "[I", true)
  | 1 => ("WagonClearing$Parting", "milesOf", "[I", true)
  | 2 => ("WagonClearing$Parting", "cutOff", "[I", true)
  | 3 => ("WagonClearing$Parting", "network", "LWagonClearing$Network;", true)
  | 4 => ("WagonClearing$Parting", "firstCompany", "I", false)
  | _ => ("WagonClearing$Parting", "lastCompany", "I", false)
def tyX5 : Nat → FieldType := fun k => match k with
  | 0 => .array .int
  | 1 => .array .int
  | 2 => .array .int
  | 3 => .object "WagonClearing$Network"
  | 4 => .int
  | _ => .int
abbrev wsX50 : List Cond := u_ws RX5 TX5 6
theorem nmX5 : ∀ a, a < 6 → ∀ b, b < 6 → a ≠ b → (TX5 a).2.1 ≠ (TX5 b).2.1 := by decide +kernel
theorem tyX5_ok : ∀ k, k < 6 → parseFieldDescriptor (TX5 k).2.2.1 = some (tyX5 k) := by decide +kernel
abbrev cX5_init : ByteArray := prog_7_method_1_code
def yX5_init : MethodName := ⟨RX5, "<init>", "(LWagonClearing$Network;)V"⟩
abbrev cX5_divide : ByteArray := prog_7_method_2_code
def yX5_divide : MethodName := ⟨RX5, "divide", "(III)Z"⟩
abbrev cX5_travel : ByteArray := prog_7_method_3_code
def yX5_travel : MethodName := ⟨RX5, "travel", "(II)Z"⟩
abbrev cX5_divideByMiles : ByteArray := prog_7_method_4_code
def yX5_divideByMiles : MethodName := ⟨RX5, "divideByMiles", "(I)Z"⟩
abbrev cX5_giveOneMore : ByteArray := prog_7_method_5_code
def yX5_giveOneMore : MethodName := ⟨RX5, "giveOneMore", "()V"⟩
def RX6 : String := "WagonClearing$Register"
def TX6 : u_T := fun k => match k with
  | 0 => ("WagonClearing$Register", "marks", "[I", true)
  | 1 => ("WagonClearing$Register", "owners", "[I", true)
  | 2 => ("WagonClearing$Register", "wagons", "I", false)
  | 3 => ("WagonClearing$Register", "written", "[I", true)
  | 4 => ("WagonClearing$Register", "junctions", "[I", true)
  | 5 => ("WagonClearing$Register", "days", "[I", true)
  | 6 => ("WagonClearing$Register", "companies", "[I", true)
  | _ => ("WagonClearing$Register", "sights", "I", false)
def tyX6 : Nat → FieldType := fun k => match k with
  | 0 => .array .int
  | 1 => .array .int
  | 2 => .int
  | 3 => .array .int
  | 4 => .array .int
  | 5 => .array .int
  | 6 => .array .int
  | _ => .int
abbrev wsX60 : List Cond := u_ws RX6 TX6 8
theorem nmX6 : ∀ a, a < 8 → ∀ b, b < 8 → a ≠ b → (TX6 a).2.1 ≠ (TX6 b).2.1 := by decide +kernel
theorem tyX6_ok : ∀ k, k < 8 → parseFieldDescriptor (TX6 k).2.2.1 = some (tyX6 k) := by decide +kernel
abbrev cX6_init : ByteArray := prog_8_method_1_code
def yX6_init : MethodName := ⟨RX6, "<init>", "()V"⟩
abbrev cX6_addWagon : ByteArray := prog_8_method_2_code
def yX6_addWagon : MethodName := ⟨RX6, "addWagon", "(II)I"⟩
abbrev cX6_addSight : ByteArray := prog_8_method_3_code
def yX6_addSight : MethodName := ⟨RX6, "addSight", "(IIII)I"⟩
abbrev cX6_hasWagon : ByteArray := prog_8_method_4_code
def yX6_hasWagon : MethodName := ⟨RX6, "hasWagon", "(I)Z"⟩
abbrev cX6_hasSight : ByteArray := prog_8_method_5_code
def yX6_hasSight : MethodName := ⟨RX6, "hasSight", "(I)Z"⟩
abbrev cX6_errorOf : ByteArray := prog_8_method_6_code
def yX6_errorOf : MethodName := ⟨RX6, "errorOf", "(II)I"⟩
abbrev cX6_difference : ByteArray := prog_8_method_7_code
def yX6_difference : MethodName := ⟨RX6, "difference", "(II)I"⟩
def RX7 : String := "WagonClearing"
def TX7 : u_T := fun k => match k with
  | 0 => ("WagonClearing", "network", "LWagonClearing$Network;", true)
  | 1 => ("WagonClearing", "parting", "LWagonClearing$Parting;", true)
  | 2 => ("WagonClearing", "register", "LWagonClearing$Register;", true)
  | 3 => ("WagonClearing", "joining", "LWagonClearing$Joining;", true)
  | 4 => ("WagonClearing", "charging", "LWagonClearing$Charging;", true)
  | 5 => ("WagonClearing", "grouping", "LWagonClearing$Grouping;", true)
  | 6 => ("WagonClearing", "leading", "LWagonClearing$Leading;", true)
  | 7 => ("WagonClearing", "booked", "[I", true)
  | 8 => ("WagonClearing", "balances", "[I", true)
  | _ => ("WagonClearing", "sums", "I", false)
def tyX7 : Nat → FieldType := fun k => match k with
  | 0 => .object "WagonClearing$Network"
  | 1 => .object "WagonClearing$Parting"
  | 2 => .object "WagonClearing$Register"
  | 3 => .object "WagonClearing$Joining"
  | 4 => .object "WagonClearing$Charging"
  | 5 => .object "WagonClearing$Grouping"
  | 6 => .object "WagonClearing$Leading"
  | 7 => .array .int
  | 8 => .array .int
  | _ => .int
abbrev wsX70 : List Cond := u_ws RX7 TX7 10
theorem nmX7 : ∀ a, a < 10 → ∀ b, b < 10 → a ≠ b → (TX7 a).2.1 ≠ (TX7 b).2.1 := by decide +kernel
theorem tyX7_ok : ∀ k, k < 10 → parseFieldDescriptor (TX7 k).2.2.1 = some (tyX7 k) := by decide +kernel
abbrev cX7_init : ByteArray := prog_1_method_1_code
def yX7_init : MethodName := ⟨RX7, "<init>", "()V"⟩
abbrev cX7_line : ByteArray := prog_1_method_2_code
def yX7_line : MethodName := ⟨RX7, "line", "(IIII)I"⟩
abbrev cX7_least : ByteArray := prog_1_method_3_code
def yX7_least : MethodName := ⟨RX7, "least", "(II)I"⟩
abbrev cX7_route : ByteArray := prog_1_method_4_code
def yX7_route : MethodName := ⟨RX7, "route", "(II)I"⟩
abbrev cX7_part : ByteArray := prog_1_method_5_code
def yX7_part : MethodName := ⟨RX7, "part", "(IIII)I"⟩
abbrev cX7_book : ByteArray := prog_1_method_6_code
def yX7_book : MethodName := ⟨RX7, "book", "(IIII)Z"⟩
abbrev cX7_wagon : ByteArray := prog_1_method_7_code
def yX7_wagon : MethodName := ⟨RX7, "wagon", "(II)I"⟩
abbrev cX7_see : ByteArray := prog_1_method_8_code
def yX7_see : MethodName := ⟨RX7, "see", "(IIII)I"⟩
abbrev cX7_close : ByteArray := prog_1_method_9_code
def yX7_close : MethodName := ⟨RX7, "close", "()I"⟩
abbrev cX7_error : ByteArray := prog_1_method_10_code
def yX7_error : MethodName := ⟨RX7, "error", "(II)I"⟩
abbrev cX7_whose : ByteArray := prog_1_method_11_code
def yX7_whose : MethodName := ⟨RX7, "whose", "(I)I"⟩
abbrev cX7_cost : ByteArray := prog_1_method_12_code
def yX7_cost : MethodName := ⟨RX7, "cost", "()I"⟩
abbrev cX7_terms : ByteArray := prog_1_method_13_code
def yX7_terms : MethodName := ⟨RX7, "terms", "(II)Z"⟩
abbrev cX7_charge : ByteArray := prog_1_method_14_code
def yX7_charge : MethodName := ⟨RX7, "charge", "(II)I"⟩
abbrev cX7_balance : ByteArray := prog_1_method_15_code
def yX7_balance : MethodName := ⟨RX7, "balance", "(I)I"⟩
abbrev cX7_fewest : ByteArray := prog_1_method_16_code
def yX7_fewest : MethodName := ⟨RX7, "fewest", "()I"⟩
abbrev cX7_group : ByteArray := prog_1_method_17_code
def yX7_group : MethodName := ⟨RX7, "group", "(I)I"⟩
abbrev cX7_empties : ByteArray := prog_1_method_18_code
def yX7_empties : MethodName := ⟨RX7, "empties", "(III)Z"⟩
abbrev cX7_met : ByteArray := prog_1_method_19_code
def yX7_met : MethodName := ⟨RX7, "met", "()I"⟩
abbrev cX7_led : ByteArray := prog_1_method_20_code
def yX7_led : MethodName := ⟨RX7, "led", "()I"⟩
abbrev cX7_count : ByteArray := prog_1_method_21_code
def yX7_count : MethodName := ⟨RX7, "count", "(I)I"⟩
abbrev cX7_strikeBalances : ByteArray := prog_1_method_22_code
def yX7_strikeBalances : MethodName := ⟨RX7, "strikeBalances", "()V"⟩
abbrev cX7_isWithin : ByteArray := prog_1_method_23_code
def yX7_isWithin : MethodName := ⟨RX7, "isWithin", "(III)Z"⟩
abbrev cX7_isCompany : ByteArray := prog_1_method_24_code
def yX7_isCompany : MethodName := ⟨RX7, "isCompany", "(I)Z"⟩
abbrev cX7_isJunction : ByteArray := prog_1_method_25_code
def yX7_isJunction : MethodName := ⟨RX7, "isJunction", "(I)Z"⟩
abbrev cX7_isMark : ByteArray := prog_1_method_26_code
def yX7_isMark : MethodName := ⟨RX7, "isMark", "(I)Z"⟩
abbrev cX7_sumOf : ByteArray := prog_1_method_27_code
def yX7_sumOf : MethodName := ⟨RX7, "sumOf", "([I)I"⟩
def RX8 : String := "WagonClearingModel"
def TX8 : u_T := fun k => match k with
  | 0 => ("WagonClearingModel", "lines", "I", false)
  | 1 => ("WagonClearingModel", "lineA", "[I", true)
  | 2 => ("WagonClearingModel", "lineB", "[I", true)
  | 3 => ("WagonClearingModel", "lineOf", "[I", true)
  | 4 => ("WagonClearingModel", "miles", "[I", true)
  | 5 => ("WagonClearingModel", "least", "[I", true)
  | 6 => ("WagonClearingModel", "wagons", "I", false)
  | 7 => ("WagonClearingModel", "mark", "[I", true)
  | 8 => ("WagonClearingModel", "owner", "[I", true)
  | 9 => ("WagonClearingModel", "sights", "I", false)
  | 10 => ("WagonClearingModel", "seenMark", "[I", true)
  | 11 => ("WagonClearingModel", "seenAt", "[I", true)
  | 12 => ("WagonClearingModel", "seenOn", "[I", true)
  | 13 => ("WagonClearingModel", "seenOf", "[I", true)
  | 14 => ("WagonClearingModel", "free", "I", false)
  | 15 => ("WagonClearingModel", "price", "I", false)
  | 16 => ("WagonClearingModel", "booked", "I", false)
  | 17 => ("WagonClearingModel", "balances", "[I", true)
  | 18 => ("WagonClearingModel", "there", "[I", true)
  | 19 => ("WagonClearingModel", "wanted", "[I", true)
  | 20 => ("WagonClearingModel", "parts", "[I", true)
  | 21 => ("WagonClearingModel", "run", "[I", true)
  | 22 => ("WagonClearingModel", "cut", "[J", true)
  | 23 => ("WagonClearingModel", "of", "[I", true)
  | 24 => ("WagonClearingModel", "best", "[I", true)
  | 25 => ("WagonClearingModel", "nowOf", "[I", true)
  | 26 => ("WagonClearingModel", "most", "[I", true)
  | 27 => ("WagonClearingModel", "led", "[I", true)
  | 28 => ("WagonClearingModel", "far", "[I", true)
  | 29 => ("WagonClearingModel", "by", "[I", true)
  | _ => ("WagonClearingModel", "sum", "I", false)
def tyX8 : Nat → FieldType := fun k => match k with
  | 0 => .int
  | 1 => .array .int
  | 2 => .array .int
  | 3 => .array .int
  | 4 => .array .int
  | 5 => .array .int
  | 6 => .int
  | 7 => .array .int
  | 8 => .array .int
  | 9 => .int
  | 10 => .array .int
  | 11 => .array .int
  | 12 => .array .int
  | 13 => .array .int
  | 14 => .int
  | 15 => .int
  | 16 => .int
  | 17 => .array .int
  | 18 => .array .int
  | 19 => .array .int
  | 20 => .array .int
  | 21 => .array .int
  | 22 => .array .long
  | 23 => .array .int
  | 24 => .array .int
  | 25 => .array .int
  | 26 => .array .int
  | 27 => .array .int
  | 28 => .array .int
  | 29 => .array .int
  | _ => .int
abbrev wsX80 : List Cond := u_ws RX8 TX8 31
theorem nmX8 : ∀ a, a < 31 → ∀ b, b < 31 → a ≠ b → (TX8 a).2.1 ≠ (TX8 b).2.1 := by decide +kernel
theorem tyX8_ok : ∀ k, k < 31 → parseFieldDescriptor (TX8 k).2.2.1 = some (tyX8 k) := by decide +kernel
abbrev cX8_init : ByteArray := prog_10_method_1_code
def yX8_init : MethodName := ⟨RX8, "<init>", "()V"⟩
abbrev cX8_in : ByteArray := prog_10_method_2_code
def yX8_in : MethodName := ⟨RX8, "in", "(III)Z"⟩
abbrev cX8_isJunction : ByteArray := prog_10_method_3_code
def yX8_isJunction : MethodName := ⟨RX8, "isJunction", "(I)Z"⟩
abbrev cX8_isCompany : ByteArray := prog_10_method_4_code
def yX8_isCompany : MethodName := ⟨RX8, "isCompany", "(I)Z"⟩
abbrev cX8_reckons : ByteArray := prog_10_method_5_code
def yX8_reckons : MethodName := ⟨RX8, "reckons", "()V"⟩
abbrev cX8_line : ByteArray := prog_10_method_6_code
def yX8_line : MethodName := ⟨RX8, "line", "(IIII)I"⟩
abbrev cX8_least : ByteArray := prog_10_method_7_code
def yX8_least : MethodName := ⟨RX8, "least", "(II)I"⟩
abbrev cX8_otherEnd : ByteArray := prog_10_method_8_code
def yX8_otherEnd : MethodName := ⟨RX8, "otherEnd", "(II)I"⟩
abbrev cX8_route : ByteArray := prog_10_method_9_code
def yX8_route : MethodName := ⟨RX8, "route", "(II)I"⟩
abbrev cX8_parts : ByteArray := prog_10_method_10_code
def yX8_parts : MethodName := ⟨RX8, "parts", "(III)Z"⟩
abbrev cX8_part : ByteArray := prog_10_method_11_code
def yX8_part : MethodName := ⟨RX8, "part", "(IIII)I"⟩
abbrev cX8_book : ByteArray := prog_10_method_12_code
def yX8_book : MethodName := ⟨RX8, "book", "(IIII)Z"⟩
abbrev cX8_wagon : ByteArray := prog_10_method_13_code
def yX8_wagon : MethodName := ⟨RX8, "wagon", "(II)I"⟩
abbrev cX8_see : ByteArray := prog_10_method_14_code
def yX8_see : MethodName := ⟨RX8, "see", "(IIII)I"⟩
abbrev cX8_digit : ByteArray := prog_10_method_15_code
def yX8_digit : MethodName := ⟨RX8, "digit", "(II)I"⟩
abbrev cX8_errorOf : ByteArray := prog_10_method_16_code
def yX8_errorOf : MethodName := ⟨RX8, "errorOf", "(II)I"⟩
abbrev cX8_error : ByteArray := prog_10_method_17_code
def yX8_error : MethodName := ⟨RX8, "error", "(II)I"⟩
abbrev cX8_canBe : ByteArray := prog_10_method_18_code
def yX8_canBe : MethodName := ⟨RX8, "canBe", "(I)Z"⟩
abbrev cX8_joins : ByteArray := prog_10_method_19_code
def yX8_joins : MethodName := ⟨RX8, "joins", "()I"⟩
abbrev cX8_whose : ByteArray := prog_10_method_20_code
def yX8_whose : MethodName := ⟨RX8, "whose", "(I)I"⟩
abbrev cX8_cost : ByteArray := prog_10_method_21_code
def yX8_cost : MethodName := ⟨RX8, "cost", "()I"⟩
abbrev cX8_terms : ByteArray := prog_10_method_22_code
def yX8_terms : MethodName := ⟨RX8, "terms", "(II)Z"⟩
abbrev cX8_owes : ByteArray := prog_10_method_23_code
def yX8_owes : MethodName := ⟨RX8, "owes", "(II)I"⟩
abbrev cX8_charge : ByteArray := prog_10_method_24_code
def yX8_charge : MethodName := ⟨RX8, "charge", "(II)I"⟩
abbrev cX8_close : ByteArray := prog_10_method_25_code
def yX8_close : MethodName := ⟨RX8, "close", "()I"⟩
abbrev cX8_balance : ByteArray := prog_10_method_26_code
def yX8_balance : MethodName := ⟨RX8, "balance", "(I)I"⟩
abbrev cX8_sumOf : ByteArray := prog_10_method_27_code
def yX8_sumOf : MethodName := ⟨RX8, "sumOf", "(I)J"⟩
abbrev cX8_groups : ByteArray := prog_10_method_28_code
def yX8_groups : MethodName := ⟨RX8, "groups", "()I"⟩
abbrev cX8_fewest : ByteArray := prog_10_method_29_code
def yX8_fewest : MethodName := ⟨RX8, "fewest", "()I"⟩
abbrev cX8_group : ByteArray := prog_10_method_30_code
def yX8_group : MethodName := ⟨RX8, "group", "(I)I"⟩
abbrev cX8_empties : ByteArray := prog_10_method_31_code
def yX8_empties : MethodName := ⟨RX8, "empties", "(III)Z"⟩
abbrev cX8_leads : ByteArray := prog_10_method_32_code
def yX8_leads : MethodName := ⟨RX8, "leads", "()I"⟩
abbrev cX8_left : ByteArray := prog_10_method_33_code
def yX8_left : MethodName := ⟨RX8, "left", "(I)I"⟩
abbrev cX8_lacks : ByteArray := prog_10_method_34_code
def yX8_lacks : MethodName := ⟨RX8, "lacks", "(I)I"⟩
abbrev cX8_seeks : ByteArray := prog_10_method_35_code
def yX8_seeks : MethodName := ⟨RX8, "seeks", "()I"⟩
abbrev cX8_met : ByteArray := prog_10_method_36_code
def yX8_met : MethodName := ⟨RX8, "met", "()I"⟩
abbrev cX8_led : ByteArray := prog_10_method_37_code
def yX8_led : MethodName := ⟨RX8, "led", "()I"⟩
abbrev cX8_count : ByteArray := prog_10_method_38_code
def yX8_count : MethodName := ⟨RX8, "count", "(I)I"⟩
def RJ6 : String := "java/lang/Integer"
def TJ6 : u_T := fun k => match k with
  | _ => ("", "", "", false)
def tyJ6 : Nat → FieldType := fun k => match k with
  | _ => .int
abbrev wsJ60 : List Cond := u_ws RJ6 TJ6 0
theorem nmJ6 : ∀ a, a < 0 → ∀ b, b < 0 → a ≠ b → (TJ6 a).2.1 ≠ (TJ6 b).2.1 := by decide +kernel
theorem tyJ6_ok : ∀ k, k < 0 → parseFieldDescriptor (TJ6 k).2.2.1 = some (tyJ6 k) := by decide +kernel
abbrev cJ6_bitCount_0f7a4 : ByteArray := prog_11_method_49_code
def yJ6_bitCount_0f7a4 : MethodName := ⟨RJ6, "bitCount", "(I)I"⟩
def RJ9 : String := "java/lang/Math"
def TJ9 : u_T := fun k => match k with
  | _ => ("", "", "", false)
def tyJ9 : Nat → FieldType := fun k => match k with
  | _ => .int
abbrev wsJ90 : List Cond := u_ws RJ9 TJ9 0
theorem nmJ9 : ∀ a, a < 0 → ∀ b, b < 0 → a ≠ b → (TJ9 a).2.1 ≠ (TJ9 b).2.1 := by decide +kernel
theorem tyJ9_ok : ∀ k, k < 0 → parseFieldDescriptor (TJ9 k).2.2.1 = some (tyJ9 k) := by decide +kernel
abbrev cJ9_max_7cf53 : ByteArray := prog_12_method_65_code
def yJ9_max_7cf53 : MethodName := ⟨RJ9, "max", "(II)I"⟩
abbrev cJ9_min_7cf53 : ByteArray := prog_12_method_69_code
def yJ9_min_7cf53 : MethodName := ⟨RJ9, "min", "(II)I"⟩
def RJ10 : String := "java/lang/System"
def TJ10 : u_T := fun k => match k with
  | _ => ("", "", "", false)
def tyJ10 : Nat → FieldType := fun k => match k with
  | _ => .int
abbrev wsJ100 : List Cond := u_ws RJ10 TJ10 0
theorem nmJ10 : ∀ a, a < 0 → ∀ b, b < 0 → a ≠ b → (TJ10 a).2.1 ≠ (TJ10 b).2.1 := by decide +kernel
theorem tyJ10_ok : ∀ k, k < 0 → parseFieldDescriptor (TJ10 k).2.2.1 = some (tyJ10 k) := by decide +kernel
def RJ7 : String := "java/util/Arrays"
def TJ7 : u_T := fun k => match k with
  | _ => ("", "", "", false)
def tyJ7 : Nat → FieldType := fun k => match k with
  | _ => .int
abbrev wsJ70 : List Cond := u_ws RJ7 TJ7 0
theorem nmJ7 : ∀ a, a < 0 → ∀ b, b < 0 → a ≠ b → (TJ7 a).2.1 ≠ (TJ7 b).2.1 := by decide +kernel
theorem tyJ7_ok : ∀ k, k < 0 → parseFieldDescriptor (TJ7 k).2.2.1 = some (tyJ7 k) := by decide +kernel
abbrev cJ7_fill_53178 : ByteArray := prog_14_method_103_code
def yJ7_fill_53178 : MethodName := ⟨RJ7, "fill", "([II)V"⟩
def RL : String := "WagonClearingLaw"
abbrev cL_law : ByteArray := code
def yL_law : MethodName := ⟨RL, "law", "([I)Z"⟩
abbrev vwCl : List vw_C := [(RX0, TX0, 4), (RX1, TX1, 3), (RX2, TX2, 9), (RX3, TX3, 10), (RX4, TX4, 6), (RX5, TX5, 6), (RX6, TX6, 8), (RX7, TX7, 10), (RX8, TX8, 31)]
end
section
theorem dX0_init_0 : decode cX0_init 0 = .ok (.aload_n 0, 1) := by decide +kernel
theorem dX0_init_1 : decode cX0_init 1 = .ok (.invokespecial 3, 3) := by decide +kernel
theorem dX0_init_4 : decode cX0_init 4 = .ok (.aload_n 0, 1) := by decide +kernel
theorem dX0_init_5 : decode cX0_init 5 = .ok (.iconst 2, 1) := by decide +kernel
theorem dX0_init_6 : decode cX0_init 6 = .ok (.putfield 9, 3) := by decide +kernel
theorem dX0_init_9 : decode cX0_init 9 = .ok (.aload_n 0, 1) := by decide +kernel
theorem dX0_init_10 : decode cX0_init 10 = .ok (.bipush 10, 2) := by decide +kernel
theorem dX0_init_12 : decode cX0_init 12 = .ok (.putfield 15, 3) := by decide +kernel
theorem dX0_init_15 : decode cX0_init 15 = .ok (.aload_n 0, 1) := by decide +kernel
theorem dX0_init_16 : decode cX0_init 16 = .ok (.aload_n 1, 1) := by decide +kernel
theorem dX0_init_17 : decode cX0_init 17 = .ok (.putfield 18, 3) := by decide +kernel
theorem dX0_init_20 : decode cX0_init 20 = .ok (.aload_n 0, 1) := by decide +kernel
theorem dX0_init_21 : decode cX0_init 21 = .ok (.aload_n 2, 1) := by decide +kernel
theorem dX0_init_22 : decode cX0_init 22 = .ok (.putfield 22, 3) := by decide +kernel
theorem dX0_init_25 : decode cX0_init 25 = .ok (.return_, 1) := by decide +kernel
theorem dX0_agree_0 : decode cX0_agree 0 = .ok (.iload_n 1, 1) := by decide +kernel
theorem dX0_agree_1 : decode cX0_agree 1 = .ok (.iconst 0, 1) := by decide +kernel
theorem dX0_agree_2 : decode cX0_agree 2 = .ok (.bipush 30, 2) := by decide +kernel
theorem dX0_agree_4 : decode cX0_agree 4 = .ok (.invokestatic 26, 3) := by decide +kernel
theorem dX0_agree_7 : decode cX0_agree 7 = .ok (.ifCond .eq 13, 3) := by decide +kernel
theorem dX0_agree_10 : decode cX0_agree 10 = .ok (.iload_n 2, 1) := by decide +kernel
theorem dX0_agree_11 : decode cX0_agree 11 = .ok (.iconst 0, 1) := by decide +kernel
theorem dX0_agree_12 : decode cX0_agree 12 = .ok (.bipush 100, 2) := by decide +kernel
theorem dX0_agree_14 : decode cX0_agree 14 = .ok (.invokestatic 26, 3) := by decide +kernel
theorem dX0_agree_17 : decode cX0_agree 17 = .ok (.ifCond .ne 5, 3) := by decide +kernel
theorem dX0_agree_20 : decode cX0_agree 20 = .ok (.iconst 0, 1) := by decide +kernel
theorem dX0_agree_21 : decode cX0_agree 21 = .ok (.ireturn, 1) := by decide +kernel
theorem dX0_agree_22 : decode cX0_agree 22 = .ok (.aload_n 0, 1) := by decide +kernel
theorem dX0_agree_23 : decode cX0_agree 23 = .ok (.iload_n 1, 1) := by decide +kernel
theorem dX0_agree_24 : decode cX0_agree 24 = .ok (.putfield 9, 3) := by decide +kernel
theorem dX0_agree_27 : decode cX0_agree 27 = .ok (.aload_n 0, 1) := by decide +kernel
theorem dX0_agree_28 : decode cX0_agree 28 = .ok (.iload_n 2, 1) := by decide +kernel
theorem dX0_agree_29 : decode cX0_agree 29 = .ok (.putfield 15, 3) := by decide +kernel
theorem dX0_agree_32 : decode cX0_agree 32 = .ok (.iconst 1, 1) := by decide +kernel
theorem dX0_agree_33 : decode cX0_agree 33 = .ok (.ireturn, 1) := by decide +kernel
theorem dX0_owed_0 : decode cX0_owed 0 = .ok (.aload_n 0, 1) := by decide +kernel
theorem dX0_owed_1 : decode cX0_owed 1 = .ok (.getfield 18, 3) := by decide +kernel
theorem dX0_owed_4 : decode cX0_owed 4 = .ok (.iload_n 1, 1) := by decide +kernel
theorem dX0_owed_5 : decode cX0_owed 5 = .ok (.invokevirtual 30, 3) := by decide +kernel
theorem dX0_owed_8 : decode cX0_owed 8 = .ok (.ifCond .eq 10, 3) := by decide +kernel
theorem dX0_owed_11 : decode cX0_owed 11 = .ok (.iload_n 2, 1) := by decide +kernel
theorem dX0_owed_12 : decode cX0_owed 12 = .ok (.invokestatic 36, 3) := by decide +kernel
theorem dX0_owed_15 : decode cX0_owed 15 = .ok (.ifCond .ne 5, 3) := by decide +kernel
theorem dX0_owed_18 : decode cX0_owed 18 = .ok (.iconst 0, 1) := by decide +kernel
theorem dX0_owed_19 : decode cX0_owed 19 = .ok (.ireturn, 1) := by decide +kernel
theorem dX0_owed_20 : decode cX0_owed 20 = .ok (.aload_n 0, 1) := by decide +kernel
theorem dX0_owed_21 : decode cX0_owed 21 = .ok (.getfield 22, 3) := by decide +kernel
theorem dX0_owed_24 : decode cX0_owed 24 = .ok (.invokevirtual 39, 3) := by decide +kernel
theorem dX0_owed_27 : decode cX0_owed 27 = .ok (.aload_n 0, 1) := by decide +kernel
theorem dX0_owed_28 : decode cX0_owed 28 = .ok (.iload_n 1, 1) := by decide +kernel
theorem dX0_owed_29 : decode cX0_owed 29 = .ok (.iload_n 2, 1) := by decide +kernel
theorem dX0_owed_30 : decode cX0_owed 30 = .ok (.invokevirtual 44, 3) := by decide +kernel
theorem dX0_owed_33 : decode cX0_owed 33 = .ok (.ireturn, 1) := by decide +kernel
theorem dX0_owedAsJoined_0 : decode cX0_owedAsJoined 0 = .ok (.aload_n 0, 1) := by decide +kernel
theorem dX0_owedAsJoined_1 : decode cX0_owedAsJoined 1 = .ok (.getfield 18, 3) := by decide +kernel
theorem dX0_owedAsJoined_4 : decode cX0_owedAsJoined 4 = .ok (.getfield 48, 3) := by decide +kernel
theorem dX0_owedAsJoined_7 : decode cX0_owedAsJoined 7 = .ok (.iload_n 1, 1) := by decide +kernel
theorem dX0_owedAsJoined_8 : decode cX0_owedAsJoined 8 = .ok (.iaload, 1) := by decide +kernel
theorem dX0_owedAsJoined_9 : decode cX0_owedAsJoined 9 = .ok (.iload_n 2, 1) := by decide +kernel
theorem dX0_owedAsJoined_10 : decode cX0_owedAsJoined 10 = .ok (.if_icmp .ne 5, 3) := by decide +kernel
theorem dX0_owedAsJoined_13 : decode cX0_owedAsJoined 13 = .ok (.iconst 0, 1) := by decide +kernel
theorem dX0_owedAsJoined_14 : decode cX0_owedAsJoined 14 = .ok (.ireturn, 1) := by decide +kernel
theorem dX0_owedAsJoined_15 : decode cX0_owedAsJoined 15 = .ok (.iconst 0, 1) := by decide +kernel
theorem dX0_owedAsJoined_16 : decode cX0_owedAsJoined 16 = .ok (.istore_n 3, 1) := by decide +kernel
theorem dX0_owedAsJoined_17 : decode cX0_owedAsJoined 17 = .ok (.iconst (-1), 1) := by decide +kernel
theorem dX0_owedAsJoined_18 : decode cX0_owedAsJoined 18 = .ok (.istore 4, 2) := by decide +kernel
theorem dX0_owedAsJoined_20 : decode cX0_owedAsJoined 20 = .ok (.iconst 0, 1) := by decide +kernel
theorem dX0_owedAsJoined_21 : decode cX0_owedAsJoined 21 = .ok (.istore 5, 2) := by decide +kernel
theorem dX0_owedAsJoined_23 : decode cX0_owedAsJoined 23 = .ok (.iload 5, 2) := by decide +kernel
theorem dX0_owedAsJoined_25 : decode cX0_owedAsJoined 25 = .ok (.aload_n 0, 1) := by decide +kernel
theorem dX0_owedAsJoined_26 : decode cX0_owedAsJoined 26 = .ok (.getfield 18, 3) := by decide +kernel
theorem dX0_owedAsJoined_29 : decode cX0_owedAsJoined 29 = .ok (.getfield 52, 3) := by decide +kernel
theorem dX0_owedAsJoined_32 : decode cX0_owedAsJoined 32 = .ok (.if_icmp .ge 75, 3) := by decide +kernel
theorem dX0_owedAsJoined_35 : decode cX0_owedAsJoined 35 = .ok (.aload_n 0, 1) := by decide +kernel
theorem dX0_owedAsJoined_36 : decode cX0_owedAsJoined 36 = .ok (.getfield 22, 3) := by decide +kernel
theorem dX0_owedAsJoined_39 : decode cX0_owedAsJoined 39 = .ok (.getfield 55, 3) := by decide +kernel
theorem dX0_owedAsJoined_42 : decode cX0_owedAsJoined 42 = .ok (.iload 5, 2) := by decide +kernel
theorem dX0_owedAsJoined_44 : decode cX0_owedAsJoined 44 = .ok (.iaload, 1) := by decide +kernel
theorem dX0_owedAsJoined_45 : decode cX0_owedAsJoined 45 = .ok (.iload_n 1, 1) := by decide +kernel
theorem dX0_owedAsJoined_46 : decode cX0_owedAsJoined 46 = .ok (.if_icmp .ne 55, 3) := by decide +kernel
theorem dX0_owedAsJoined_49 : decode cX0_owedAsJoined 49 = .ok (.iload 4, 2) := by decide +kernel
theorem dX0_owedAsJoined_51 : decode cX0_owedAsJoined 51 = .ok (.iconst (-1), 1) := by decide +kernel
theorem dX0_owedAsJoined_52 : decode cX0_owedAsJoined 52 = .ok (.if_icmp .eq 45, 3) := by decide +kernel
theorem dX0_owedAsJoined_55 : decode cX0_owedAsJoined 55 = .ok (.aload_n 0, 1) := by decide +kernel
theorem dX0_owedAsJoined_56 : decode cX0_owedAsJoined 56 = .ok (.getfield 18, 3) := by decide +kernel
theorem dX0_owedAsJoined_59 : decode cX0_owedAsJoined 59 = .ok (.getfield 58, 3) := by decide +kernel
theorem dX0_owedAsJoined_62 : decode cX0_owedAsJoined 62 = .ok (.iload 4, 2) := by decide +kernel
theorem dX0_owedAsJoined_64 : decode cX0_owedAsJoined 64 = .ok (.iaload, 1) := by decide +kernel
theorem dX0_owedAsJoined_65 : decode cX0_owedAsJoined 65 = .ok (.iload_n 2, 1) := by decide +kernel
theorem dX0_owedAsJoined_66 : decode cX0_owedAsJoined 66 = .ok (.if_icmp .ne 31, 3) := by decide +kernel
theorem dX0_owedAsJoined_69 : decode cX0_owedAsJoined 69 = .ok (.iload_n 3, 1) := by decide +kernel
theorem dX0_owedAsJoined_70 : decode cX0_owedAsJoined 70 = .ok (.aload_n 0, 1) := by decide +kernel
theorem dX0_owedAsJoined_71 : decode cX0_owedAsJoined 71 = .ok (.aload_n 0, 1) := by decide +kernel
theorem dX0_owedAsJoined_72 : decode cX0_owedAsJoined 72 = .ok (.getfield 18, 3) := by decide +kernel
theorem dX0_owedAsJoined_75 : decode cX0_owedAsJoined 75 = .ok (.getfield 61, 3) := by decide +kernel
theorem dX0_owedAsJoined_78 : decode cX0_owedAsJoined 78 = .ok (.iload 5, 2) := by decide +kernel
theorem dX0_owedAsJoined_80 : decode cX0_owedAsJoined 80 = .ok (.iaload, 1) := by decide +kernel
theorem dX0_owedAsJoined_81 : decode cX0_owedAsJoined 81 = .ok (.aload_n 0, 1) := by decide +kernel
theorem dX0_owedAsJoined_82 : decode cX0_owedAsJoined 82 = .ok (.getfield 18, 3) := by decide +kernel
theorem dX0_owedAsJoined_85 : decode cX0_owedAsJoined 85 = .ok (.getfield 61, 3) := by decide +kernel
theorem dX0_owedAsJoined_88 : decode cX0_owedAsJoined 88 = .ok (.iload 4, 2) := by decide +kernel
theorem dX0_owedAsJoined_90 : decode cX0_owedAsJoined 90 = .ok (.iaload, 1) := by decide +kernel
theorem dX0_owedAsJoined_91 : decode cX0_owedAsJoined 91 = .ok (.isub, 1) := by decide +kernel
theorem dX0_owedAsJoined_92 : decode cX0_owedAsJoined 92 = .ok (.invokevirtual 64, 3) := by decide +kernel
theorem dX0_owedAsJoined_95 : decode cX0_owedAsJoined 95 = .ok (.iadd, 1) := by decide +kernel
theorem dX0_owedAsJoined_96 : decode cX0_owedAsJoined 96 = .ok (.istore_n 3, 1) := by decide +kernel
theorem dX0_owedAsJoined_97 : decode cX0_owedAsJoined 97 = .ok (.iload 5, 2) := by decide +kernel
theorem dX0_owedAsJoined_99 : decode cX0_owedAsJoined 99 = .ok (.istore 4, 2) := by decide +kernel
theorem dX0_owedAsJoined_101 : decode cX0_owedAsJoined 101 = .ok (.iinc 5 1, 3) := by decide +kernel
theorem dX0_owedAsJoined_104 : decode cX0_owedAsJoined 104 = .ok (.goto (-81), 3) := by decide +kernel
theorem dX0_owedAsJoined_107 : decode cX0_owedAsJoined 107 = .ok (.iload_n 3, 1) := by decide +kernel
theorem dX0_owedAsJoined_108 : decode cX0_owedAsJoined 108 = .ok (.ireturn, 1) := by decide +kernel
theorem dX0_priceOf_0 : decode cX0_priceOf 0 = .ok (.iconst 0, 1) := by decide +kernel
theorem dX0_priceOf_1 : decode cX0_priceOf 1 = .ok (.iload_n 1, 1) := by decide +kernel
theorem dX0_priceOf_2 : decode cX0_priceOf 2 = .ok (.aload_n 0, 1) := by decide +kernel
theorem dX0_priceOf_3 : decode cX0_priceOf 3 = .ok (.getfield 9, 3) := by decide +kernel
theorem dX0_priceOf_6 : decode cX0_priceOf 6 = .ok (.isub, 1) := by decide +kernel
theorem dX0_priceOf_7 : decode cX0_priceOf 7 = .ok (.invokestatic 68, 3) := by decide +kernel
theorem dX0_priceOf_10 : decode cX0_priceOf 10 = .ok (.aload_n 0, 1) := by decide +kernel
theorem dX0_priceOf_11 : decode cX0_priceOf 11 = .ok (.getfield 15, 3) := by decide +kernel
theorem dX0_priceOf_14 : decode cX0_priceOf 14 = .ok (.imul, 1) := by decide +kernel
theorem dX0_priceOf_15 : decode cX0_priceOf 15 = .ok (.ireturn, 1) := by decide +kernel
theorem dX0_addCharges_0 : decode cX0_addCharges 0 = .ok (.aload_n 1, 1) := by decide +kernel
theorem dX0_addCharges_1 : decode cX0_addCharges 1 = .ok (.arraylength, 1) := by decide +kernel
theorem dX0_addCharges_2 : decode cX0_addCharges 2 = .ok (.bipush 8, 2) := by decide +kernel
theorem dX0_addCharges_4 : decode cX0_addCharges 4 = .ok (.if_icmp .ge 4, 3) := by decide +kernel
theorem dX0_addCharges_7 : decode cX0_addCharges 7 = .ok (.return_, 1) := by decide +kernel
theorem dX0_addCharges_8 : decode cX0_addCharges 8 = .ok (.aload_n 0, 1) := by decide +kernel
theorem dX0_addCharges_9 : decode cX0_addCharges 9 = .ok (.getfield 22, 3) := by decide +kernel
theorem dX0_addCharges_12 : decode cX0_addCharges 12 = .ok (.invokevirtual 39, 3) := by decide +kernel
theorem dX0_addCharges_15 : decode cX0_addCharges 15 = .ok (.iconst 0, 1) := by decide +kernel
theorem dX0_addCharges_16 : decode cX0_addCharges 16 = .ok (.istore_n 2, 1) := by decide +kernel
theorem dX0_addCharges_17 : decode cX0_addCharges 17 = .ok (.iload_n 2, 1) := by decide +kernel
theorem dX0_addCharges_18 : decode cX0_addCharges 18 = .ok (.aload_n 0, 1) := by decide +kernel
theorem dX0_addCharges_19 : decode cX0_addCharges 19 = .ok (.getfield 18, 3) := by decide +kernel
theorem dX0_addCharges_22 : decode cX0_addCharges 22 = .ok (.getfield 73, 3) := by decide +kernel
theorem dX0_addCharges_25 : decode cX0_addCharges 25 = .ok (.if_icmp .ge 55, 3) := by decide +kernel
theorem dX0_addCharges_28 : decode cX0_addCharges 28 = .ok (.iconst 0, 1) := by decide +kernel
theorem dX0_addCharges_29 : decode cX0_addCharges 29 = .ok (.istore_n 3, 1) := by decide +kernel
theorem dX0_addCharges_30 : decode cX0_addCharges 30 = .ok (.iload_n 3, 1) := by decide +kernel
theorem dX0_addCharges_31 : decode cX0_addCharges 31 = .ok (.bipush 8, 2) := by decide +kernel
theorem dX0_addCharges_33 : decode cX0_addCharges 33 = .ok (.if_icmp .ge 41, 3) := by decide +kernel
theorem dX0_addCharges_36 : decode cX0_addCharges 36 = .ok (.aload_n 0, 1) := by decide +kernel
theorem dX0_addCharges_37 : decode cX0_addCharges 37 = .ok (.iload_n 2, 1) := by decide +kernel
theorem dX0_addCharges_38 : decode cX0_addCharges 38 = .ok (.iload_n 3, 1) := by decide +kernel
theorem dX0_addCharges_39 : decode cX0_addCharges 39 = .ok (.invokevirtual 44, 3) := by decide +kernel
theorem dX0_addCharges_42 : decode cX0_addCharges 42 = .ok (.istore 4, 2) := by decide +kernel
theorem dX0_addCharges_44 : decode cX0_addCharges 44 = .ok (.aload_n 1, 1) := by decide +kernel
theorem dX0_addCharges_45 : decode cX0_addCharges 45 = .ok (.iload_n 3, 1) := by decide +kernel
theorem dX0_addCharges_46 : decode cX0_addCharges 46 = .ok (.dup2, 1) := by decide +kernel
theorem dX0_addCharges_47 : decode cX0_addCharges 47 = .ok (.iaload, 1) := by decide +kernel
theorem dX0_addCharges_48 : decode cX0_addCharges 48 = .ok (.iload 4, 2) := by decide +kernel
theorem dX0_addCharges_50 : decode cX0_addCharges 50 = .ok (.isub, 1) := by decide +kernel
theorem dX0_addCharges_51 : decode cX0_addCharges 51 = .ok (.iastore, 1) := by decide +kernel
theorem dX0_addCharges_52 : decode cX0_addCharges 52 = .ok (.aload_n 1, 1) := by decide +kernel
theorem dX0_addCharges_53 : decode cX0_addCharges 53 = .ok (.aload_n 0, 1) := by decide +kernel
theorem dX0_addCharges_54 : decode cX0_addCharges 54 = .ok (.getfield 18, 3) := by decide +kernel
theorem dX0_addCharges_57 : decode cX0_addCharges 57 = .ok (.getfield 48, 3) := by decide +kernel
theorem dX0_addCharges_60 : decode cX0_addCharges 60 = .ok (.iload_n 2, 1) := by decide +kernel
theorem dX0_addCharges_61 : decode cX0_addCharges 61 = .ok (.iaload, 1) := by decide +kernel
theorem dX0_addCharges_62 : decode cX0_addCharges 62 = .ok (.dup2, 1) := by decide +kernel
theorem dX0_addCharges_63 : decode cX0_addCharges 63 = .ok (.iaload, 1) := by decide +kernel
theorem dX0_addCharges_64 : decode cX0_addCharges 64 = .ok (.iload 4, 2) := by decide +kernel
theorem dX0_addCharges_66 : decode cX0_addCharges 66 = .ok (.iadd, 1) := by decide +kernel
theorem dX0_addCharges_67 : decode cX0_addCharges 67 = .ok (.iastore, 1) := by decide +kernel
theorem dX0_addCharges_68 : decode cX0_addCharges 68 = .ok (.iinc 3 1, 3) := by decide +kernel
theorem dX0_addCharges_71 : decode cX0_addCharges 71 = .ok (.goto (-41), 3) := by decide +kernel
theorem dX0_addCharges_74 : decode cX0_addCharges 74 = .ok (.iinc 2 1, 3) := by decide +kernel
theorem dX0_addCharges_77 : decode cX0_addCharges 77 = .ok (.goto (-60), 3) := by decide +kernel
theorem dX0_addCharges_80 : decode cX0_addCharges 80 = .ok (.return_, 1) := by decide +kernel
theorem dX1_init_0 : decode cX1_init 0 = .ok (.aload_n 0, 1) := by decide +kernel
theorem dX1_init_1 : decode cX1_init 1 = .ok (.invokespecial 3, 3) := by decide +kernel
theorem dX1_init_4 : decode cX1_init 4 = .ok (.aload_n 0, 1) := by decide +kernel
theorem dX1_init_5 : decode cX1_init 5 = .ok (.sipush 256, 3) := by decide +kernel
theorem dX1_init_8 : decode cX1_init 8 = .ok (.newarray .int, 2) := by decide +kernel
theorem dX1_init_10 : decode cX1_init 10 = .ok (.putfield 11, 3) := by decide +kernel
theorem dX1_init_13 : decode cX1_init 13 = .ok (.aload_n 0, 1) := by decide +kernel
theorem dX1_init_14 : decode cX1_init 14 = .ok (.sipush 256, 3) := by decide +kernel
theorem dX1_init_17 : decode cX1_init 17 = .ok (.newarray .int, 2) := by decide +kernel
theorem dX1_init_19 : decode cX1_init 19 = .ok (.putfield 15, 3) := by decide +kernel
theorem dX1_init_22 : decode cX1_init 22 = .ok (.aload_n 0, 1) := by decide +kernel
theorem dX1_init_23 : decode cX1_init 23 = .ok (.iconst 0, 1) := by decide +kernel
theorem dX1_init_24 : decode cX1_init 24 = .ok (.putfield 18, 3) := by decide +kernel
theorem dX1_init_27 : decode cX1_init 27 = .ok (.return_, 1) := by decide +kernel
theorem dX1_weigh_0 : decode cX1_weigh 0 = .ok (.aload_n 1, 1) := by decide +kernel
theorem dX1_weigh_1 : decode cX1_weigh 1 = .ok (.arraylength, 1) := by decide +kernel
theorem dX1_weigh_2 : decode cX1_weigh 2 = .ok (.bipush 8, 2) := by decide +kernel
theorem dX1_weigh_4 : decode cX1_weigh 4 = .ok (.if_icmp .ge 4, 3) := by decide +kernel
theorem dX1_weigh_7 : decode cX1_weigh 7 = .ok (.return_, 1) := by decide +kernel
theorem dX1_weigh_8 : decode cX1_weigh 8 = .ok (.aload_n 0, 1) := by decide +kernel
theorem dX1_weigh_9 : decode cX1_weigh 9 = .ok (.iconst 0, 1) := by decide +kernel
theorem dX1_weigh_10 : decode cX1_weigh 10 = .ok (.putfield 18, 3) := by decide +kernel
theorem dX1_weigh_13 : decode cX1_weigh 13 = .ok (.iconst 0, 1) := by decide +kernel
theorem dX1_weigh_14 : decode cX1_weigh 14 = .ok (.istore_n 2, 1) := by decide +kernel
theorem dX1_weigh_15 : decode cX1_weigh 15 = .ok (.iload_n 2, 1) := by decide +kernel
theorem dX1_weigh_16 : decode cX1_weigh 16 = .ok (.bipush 8, 2) := by decide +kernel
theorem dX1_weigh_18 : decode cX1_weigh 18 = .ok (.if_icmp .ge 27, 3) := by decide +kernel
theorem dX1_weigh_21 : decode cX1_weigh 21 = .ok (.aload_n 1, 1) := by decide +kernel
theorem dX1_weigh_22 : decode cX1_weigh 22 = .ok (.iload_n 2, 1) := by decide +kernel
theorem dX1_weigh_23 : decode cX1_weigh 23 = .ok (.iaload, 1) := by decide +kernel
theorem dX1_weigh_24 : decode cX1_weigh 24 = .ok (.ifCond .eq 15, 3) := by decide +kernel
theorem dX1_weigh_27 : decode cX1_weigh 27 = .ok (.aload_n 0, 1) := by decide +kernel
theorem dX1_weigh_28 : decode cX1_weigh 28 = .ok (.dup, 1) := by decide +kernel
theorem dX1_weigh_29 : decode cX1_weigh 29 = .ok (.getfield 18, 3) := by decide +kernel
theorem dX1_weigh_32 : decode cX1_weigh 32 = .ok (.iconst 1, 1) := by decide +kernel
theorem dX1_weigh_33 : decode cX1_weigh 33 = .ok (.iload_n 2, 1) := by decide +kernel
theorem dX1_weigh_34 : decode cX1_weigh 34 = .ok (.ishl, 1) := by decide +kernel
theorem dX1_weigh_35 : decode cX1_weigh 35 = .ok (.ior, 1) := by decide +kernel
theorem dX1_weigh_36 : decode cX1_weigh 36 = .ok (.putfield 18, 3) := by decide +kernel
theorem dX1_weigh_39 : decode cX1_weigh 39 = .ok (.iinc 2 1, 3) := by decide +kernel
theorem dX1_weigh_42 : decode cX1_weigh 42 = .ok (.goto (-27), 3) := by decide +kernel
theorem dX1_weigh_45 : decode cX1_weigh 45 = .ok (.iconst 1, 1) := by decide +kernel
theorem dX1_weigh_46 : decode cX1_weigh 46 = .ok (.istore_n 2, 1) := by decide +kernel
theorem dX1_weigh_47 : decode cX1_weigh 47 = .ok (.iload_n 2, 1) := by decide +kernel
theorem dX1_weigh_48 : decode cX1_weigh 48 = .ok (.sipush 256, 3) := by decide +kernel
theorem dX1_weigh_51 : decode cX1_weigh 51 = .ok (.if_icmp .ge 26, 3) := by decide +kernel
theorem dX1_weigh_54 : decode cX1_weigh 54 = .ok (.iload_n 2, 1) := by decide +kernel
theorem dX1_weigh_55 : decode cX1_weigh 55 = .ok (.aload_n 0, 1) := by decide +kernel
theorem dX1_weigh_56 : decode cX1_weigh 56 = .ok (.getfield 18, 3) := by decide +kernel
theorem dX1_weigh_59 : decode cX1_weigh 59 = .ok (.iconst (-1), 1) := by decide +kernel
theorem dX1_weigh_60 : decode cX1_weigh 60 = .ok (.ixor, 1) := by decide +kernel
theorem dX1_weigh_61 : decode cX1_weigh 61 = .ok (.iand, 1) := by decide +kernel
theorem dX1_weigh_62 : decode cX1_weigh 62 = .ok (.ifCond .ne 9, 3) := by decide +kernel
theorem dX1_weigh_65 : decode cX1_weigh 65 = .ok (.aload_n 0, 1) := by decide +kernel
theorem dX1_weigh_66 : decode cX1_weigh 66 = .ok (.iload_n 2, 1) := by decide +kernel
theorem dX1_weigh_67 : decode cX1_weigh 67 = .ok (.aload_n 1, 1) := by decide +kernel
theorem dX1_weigh_68 : decode cX1_weigh 68 = .ok (.invokevirtual 22, 3) := by decide +kernel
theorem dX1_weigh_71 : decode cX1_weigh 71 = .ok (.iinc 2 1, 3) := by decide +kernel
theorem dX1_weigh_74 : decode cX1_weigh 74 = .ok (.goto (-27), 3) := by decide +kernel
theorem dX1_weigh_77 : decode cX1_weigh 77 = .ok (.return_, 1) := by decide +kernel
theorem dX1_weighSet_0 : decode cX1_weighSet 0 = .ok (.iconst 0, 1) := by decide +kernel
theorem dX1_weighSet_1 : decode cX1_weighSet 1 = .ok (.istore_n 3, 1) := by decide +kernel
theorem dX1_weighSet_2 : decode cX1_weighSet 2 = .ok (.iconst 0, 1) := by decide +kernel
theorem dX1_weighSet_3 : decode cX1_weighSet 3 = .ok (.istore 4, 2) := by decide +kernel
theorem dX1_weighSet_5 : decode cX1_weighSet 5 = .ok (.iconst 0, 1) := by decide +kernel
theorem dX1_weighSet_6 : decode cX1_weighSet 6 = .ok (.istore 5, 2) := by decide +kernel
theorem dX1_weighSet_8 : decode cX1_weighSet 8 = .ok (.iload 5, 2) := by decide +kernel
theorem dX1_weighSet_10 : decode cX1_weighSet 10 = .ok (.bipush 8, 2) := by decide +kernel
theorem dX1_weighSet_12 : decode cX1_weighSet 12 = .ok (.if_icmp .ge 45, 3) := by decide +kernel
theorem dX1_weighSet_15 : decode cX1_weighSet 15 = .ok (.iconst 1, 1) := by decide +kernel
theorem dX1_weighSet_16 : decode cX1_weighSet 16 = .ok (.iload 5, 2) := by decide +kernel
theorem dX1_weighSet_18 : decode cX1_weighSet 18 = .ok (.ishl, 1) := by decide +kernel
theorem dX1_weighSet_19 : decode cX1_weighSet 19 = .ok (.istore 6, 2) := by decide +kernel
theorem dX1_weighSet_21 : decode cX1_weighSet 21 = .ok (.iload_n 1, 1) := by decide +kernel
theorem dX1_weighSet_22 : decode cX1_weighSet 22 = .ok (.iload 6, 2) := by decide +kernel
theorem dX1_weighSet_24 : decode cX1_weighSet 24 = .ok (.iand, 1) := by decide +kernel
theorem dX1_weighSet_25 : decode cX1_weighSet 25 = .ok (.ifCond .eq 26, 3) := by decide +kernel
theorem dX1_weighSet_28 : decode cX1_weighSet 28 = .ok (.iload_n 3, 1) := by decide +kernel
theorem dX1_weighSet_29 : decode cX1_weighSet 29 = .ok (.aload_n 2, 1) := by decide +kernel
theorem dX1_weighSet_30 : decode cX1_weighSet 30 = .ok (.iload 5, 2) := by decide +kernel
theorem dX1_weighSet_32 : decode cX1_weighSet 32 = .ok (.iaload, 1) := by decide +kernel
theorem dX1_weighSet_33 : decode cX1_weighSet 33 = .ok (.iadd, 1) := by decide +kernel
theorem dX1_weighSet_34 : decode cX1_weighSet 34 = .ok (.istore_n 3, 1) := by decide +kernel
theorem dX1_weighSet_35 : decode cX1_weighSet 35 = .ok (.iload 4, 2) := by decide +kernel
theorem dX1_weighSet_37 : decode cX1_weighSet 37 = .ok (.aload_n 0, 1) := by decide +kernel
theorem dX1_weighSet_38 : decode cX1_weighSet 38 = .ok (.getfield 15, 3) := by decide +kernel
theorem dX1_weighSet_41 : decode cX1_weighSet 41 = .ok (.iload_n 1, 1) := by decide +kernel
theorem dX1_weighSet_42 : decode cX1_weighSet 42 = .ok (.iload 6, 2) := by decide +kernel
theorem dX1_weighSet_44 : decode cX1_weighSet 44 = .ok (.ixor, 1) := by decide +kernel
theorem dX1_weighSet_45 : decode cX1_weighSet 45 = .ok (.iaload, 1) := by decide +kernel
theorem dX1_weighSet_46 : decode cX1_weighSet 46 = .ok (.invokestatic 26, 3) := by decide +kernel
theorem dX1_weighSet_49 : decode cX1_weighSet 49 = .ok (.istore 4, 2) := by decide +kernel
theorem dX1_weighSet_51 : decode cX1_weighSet 51 = .ok (.iinc 5 1, 3) := by decide +kernel
theorem dX1_weighSet_54 : decode cX1_weighSet 54 = .ok (.goto (-46), 3) := by decide +kernel
theorem dX1_weighSet_57 : decode cX1_weighSet 57 = .ok (.aload_n 0, 1) := by decide +kernel
theorem dX1_weighSet_58 : decode cX1_weighSet 58 = .ok (.getfield 11, 3) := by decide +kernel
theorem dX1_weighSet_61 : decode cX1_weighSet 61 = .ok (.iload_n 1, 1) := by decide +kernel
theorem dX1_weighSet_62 : decode cX1_weighSet 62 = .ok (.iload_n 3, 1) := by decide +kernel
theorem dX1_weighSet_63 : decode cX1_weighSet 63 = .ok (.iastore, 1) := by decide +kernel
theorem dX1_weighSet_64 : decode cX1_weighSet 64 = .ok (.aload_n 0, 1) := by decide +kernel
theorem dX1_weighSet_65 : decode cX1_weighSet 65 = .ok (.getfield 15, 3) := by decide +kernel
theorem dX1_weighSet_68 : decode cX1_weighSet 68 = .ok (.iload_n 1, 1) := by decide +kernel
theorem dX1_weighSet_69 : decode cX1_weighSet 69 = .ok (.iload_n 3, 1) := by decide +kernel
theorem dX1_weighSet_70 : decode cX1_weighSet 70 = .ok (.ifCond .ne 10, 3) := by decide +kernel
theorem dX1_weighSet_73 : decode cX1_weighSet 73 = .ok (.iload 4, 2) := by decide +kernel
theorem dX1_weighSet_75 : decode cX1_weighSet 75 = .ok (.iconst 1, 1) := by decide +kernel
theorem dX1_weighSet_76 : decode cX1_weighSet 76 = .ok (.iadd, 1) := by decide +kernel
theorem dX1_weighSet_77 : decode cX1_weighSet 77 = .ok (.goto 5, 3) := by decide +kernel
theorem dX1_weighSet_80 : decode cX1_weighSet 80 = .ok (.iload 4, 2) := by decide +kernel
theorem dX1_weighSet_82 : decode cX1_weighSet 82 = .ok (.iastore, 1) := by decide +kernel
theorem dX1_weighSet_83 : decode cX1_weighSet 83 = .ok (.return_, 1) := by decide +kernel
theorem dX1_payments_0 : decode cX1_payments 0 = .ok (.aload_n 0, 1) := by decide +kernel
theorem dX1_payments_1 : decode cX1_payments 1 = .ok (.getfield 18, 3) := by decide +kernel
theorem dX1_payments_4 : decode cX1_payments 4 = .ok (.invokestatic 32, 3) := by decide +kernel
theorem dX1_payments_7 : decode cX1_payments 7 = .ok (.aload_n 0, 1) := by decide +kernel
theorem dX1_payments_8 : decode cX1_payments 8 = .ok (.getfield 15, 3) := by decide +kernel
theorem dX1_payments_11 : decode cX1_payments 11 = .ok (.aload_n 0, 1) := by decide +kernel
theorem dX1_payments_12 : decode cX1_payments 12 = .ok (.getfield 18, 3) := by decide +kernel
theorem dX1_payments_15 : decode cX1_payments 15 = .ok (.iaload, 1) := by decide +kernel
theorem dX1_payments_16 : decode cX1_payments 16 = .ok (.isub, 1) := by decide +kernel
theorem dX1_payments_17 : decode cX1_payments 17 = .ok (.ireturn, 1) := by decide +kernel
theorem dX1_groupWith_0 : decode cX1_groupWith 0 = .ok (.iconst 1, 1) := by decide +kernel
theorem dX1_groupWith_1 : decode cX1_groupWith 1 = .ok (.iload_n 1, 1) := by decide +kernel
theorem dX1_groupWith_2 : decode cX1_groupWith 2 = .ok (.ishl, 1) := by decide +kernel
theorem dX1_groupWith_3 : decode cX1_groupWith 3 = .ok (.istore_n 2, 1) := by decide +kernel
theorem dX1_groupWith_4 : decode cX1_groupWith 4 = .ok (.aload_n 0, 1) := by decide +kernel
theorem dX1_groupWith_5 : decode cX1_groupWith 5 = .ok (.getfield 18, 3) := by decide +kernel
theorem dX1_groupWith_8 : decode cX1_groupWith 8 = .ok (.istore_n 3, 1) := by decide +kernel
theorem dX1_groupWith_9 : decode cX1_groupWith 9 = .ok (.iconst 0, 1) := by decide +kernel
theorem dX1_groupWith_10 : decode cX1_groupWith 10 = .ok (.istore 4, 2) := by decide +kernel
theorem dX1_groupWith_12 : decode cX1_groupWith 12 = .ok (.iload 4, 2) := by decide +kernel
theorem dX1_groupWith_14 : decode cX1_groupWith 14 = .ok (.bipush 8, 2) := by decide +kernel
theorem dX1_groupWith_16 : decode cX1_groupWith 16 = .ok (.if_icmp .ge 37, 3) := by decide +kernel
theorem dX1_groupWith_19 : decode cX1_groupWith 19 = .ok (.iload_n 3, 1) := by decide +kernel
theorem dX1_groupWith_20 : decode cX1_groupWith 20 = .ok (.ifCond .eq 33, 3) := by decide +kernel
theorem dX1_groupWith_23 : decode cX1_groupWith 23 = .ok (.aload_n 0, 1) := by decide +kernel
theorem dX1_groupWith_24 : decode cX1_groupWith 24 = .ok (.iload_n 3, 1) := by decide +kernel
theorem dX1_groupWith_25 : decode cX1_groupWith 25 = .ok (.invokevirtual 38, 3) := by decide +kernel
theorem dX1_groupWith_28 : decode cX1_groupWith 28 = .ok (.istore 5, 2) := by decide +kernel
theorem dX1_groupWith_30 : decode cX1_groupWith 30 = .ok (.iload 5, 2) := by decide +kernel
theorem dX1_groupWith_32 : decode cX1_groupWith 32 = .ok (.iload_n 2, 1) := by decide +kernel
theorem dX1_groupWith_33 : decode cX1_groupWith 33 = .ok (.iand, 1) := by decide +kernel
theorem dX1_groupWith_34 : decode cX1_groupWith 34 = .ok (.ifCond .eq 6, 3) := by decide +kernel
theorem dX1_groupWith_37 : decode cX1_groupWith 37 = .ok (.iload 5, 2) := by decide +kernel
theorem dX1_groupWith_39 : decode cX1_groupWith 39 = .ok (.ireturn, 1) := by decide +kernel
theorem dX1_groupWith_40 : decode cX1_groupWith 40 = .ok (.iload_n 3, 1) := by decide +kernel
theorem dX1_groupWith_41 : decode cX1_groupWith 41 = .ok (.iload 5, 2) := by decide +kernel
theorem dX1_groupWith_43 : decode cX1_groupWith 43 = .ok (.iconst (-1), 1) := by decide +kernel
theorem dX1_groupWith_44 : decode cX1_groupWith 44 = .ok (.ixor, 1) := by decide +kernel
theorem dX1_groupWith_45 : decode cX1_groupWith 45 = .ok (.iand, 1) := by decide +kernel
theorem dX1_groupWith_46 : decode cX1_groupWith 46 = .ok (.istore_n 3, 1) := by decide +kernel
theorem dX1_groupWith_47 : decode cX1_groupWith 47 = .ok (.iinc 4 1, 3) := by decide +kernel
theorem dX1_groupWith_50 : decode cX1_groupWith 50 = .ok (.goto (-38), 3) := by decide +kernel
theorem dX1_groupWith_53 : decode cX1_groupWith 53 = .ok (.iconst 0, 1) := by decide +kernel
theorem dX1_groupWith_54 : decode cX1_groupWith 54 = .ok (.ireturn, 1) := by decide +kernel
theorem dX1_firstGroup_0 : decode cX1_firstGroup 0 = .ok (.iload_n 1, 1) := by decide +kernel
theorem dX1_firstGroup_1 : decode cX1_firstGroup 1 = .ok (.iload_n 1, 1) := by decide +kernel
theorem dX1_firstGroup_2 : decode cX1_firstGroup 2 = .ok (.ineg, 1) := by decide +kernel
theorem dX1_firstGroup_3 : decode cX1_firstGroup 3 = .ok (.iand, 1) := by decide +kernel
theorem dX1_firstGroup_4 : decode cX1_firstGroup 4 = .ok (.istore_n 2, 1) := by decide +kernel
theorem dX1_firstGroup_5 : decode cX1_firstGroup 5 = .ok (.iload_n 2, 1) := by decide +kernel
theorem dX1_firstGroup_6 : decode cX1_firstGroup 6 = .ok (.istore_n 3, 1) := by decide +kernel
theorem dX1_firstGroup_7 : decode cX1_firstGroup 7 = .ok (.iload_n 3, 1) := by decide +kernel
theorem dX1_firstGroup_8 : decode cX1_firstGroup 8 = .ok (.iload_n 1, 1) := by decide +kernel
theorem dX1_firstGroup_9 : decode cX1_firstGroup 9 = .ok (.if_icmp .ge 65, 3) := by decide +kernel
theorem dX1_firstGroup_12 : decode cX1_firstGroup 12 = .ok (.iload_n 3, 1) := by decide +kernel
theorem dX1_firstGroup_13 : decode cX1_firstGroup 13 = .ok (.iload_n 1, 1) := by decide +kernel
theorem dX1_firstGroup_14 : decode cX1_firstGroup 14 = .ok (.iconst (-1), 1) := by decide +kernel
theorem dX1_firstGroup_15 : decode cX1_firstGroup 15 = .ok (.ixor, 1) := by decide +kernel
theorem dX1_firstGroup_16 : decode cX1_firstGroup 16 = .ok (.iand, 1) := by decide +kernel
theorem dX1_firstGroup_17 : decode cX1_firstGroup 17 = .ok (.ifCond .ne 13, 3) := by decide +kernel
theorem dX1_firstGroup_20 : decode cX1_firstGroup 20 = .ok (.iload_n 3, 1) := by decide +kernel
theorem dX1_firstGroup_21 : decode cX1_firstGroup 21 = .ok (.iload_n 2, 1) := by decide +kernel
theorem dX1_firstGroup_22 : decode cX1_firstGroup 22 = .ok (.iand, 1) := by decide +kernel
theorem dX1_firstGroup_23 : decode cX1_firstGroup 23 = .ok (.ifCond .eq 7, 3) := by decide +kernel
theorem dX1_firstGroup_26 : decode cX1_firstGroup 26 = .ok (.iconst 1, 1) := by decide +kernel
theorem dX1_firstGroup_27 : decode cX1_firstGroup 27 = .ok (.goto 4, 3) := by decide +kernel
theorem dX1_firstGroup_30 : decode cX1_firstGroup 30 = .ok (.iconst 0, 1) := by decide +kernel
theorem dX1_firstGroup_31 : decode cX1_firstGroup 31 = .ok (.istore 4, 2) := by decide +kernel
theorem dX1_firstGroup_33 : decode cX1_firstGroup 33 = .ok (.iload 4, 2) := by decide +kernel
theorem dX1_firstGroup_35 : decode cX1_firstGroup 35 = .ok (.ifCond .eq 33, 3) := by decide +kernel
theorem dX1_firstGroup_38 : decode cX1_firstGroup 38 = .ok (.aload_n 0, 1) := by decide +kernel
theorem dX1_firstGroup_39 : decode cX1_firstGroup 39 = .ok (.getfield 11, 3) := by decide +kernel
theorem dX1_firstGroup_42 : decode cX1_firstGroup 42 = .ok (.iload_n 3, 1) := by decide +kernel
theorem dX1_firstGroup_43 : decode cX1_firstGroup 43 = .ok (.iaload, 1) := by decide +kernel
theorem dX1_firstGroup_44 : decode cX1_firstGroup 44 = .ok (.ifCond .ne 24, 3) := by decide +kernel
theorem dX1_firstGroup_47 : decode cX1_firstGroup 47 = .ok (.aload_n 0, 1) := by decide +kernel
theorem dX1_firstGroup_48 : decode cX1_firstGroup 48 = .ok (.getfield 15, 3) := by decide +kernel
theorem dX1_firstGroup_51 : decode cX1_firstGroup 51 = .ok (.iload_n 1, 1) := by decide +kernel
theorem dX1_firstGroup_52 : decode cX1_firstGroup 52 = .ok (.iload_n 3, 1) := by decide +kernel
theorem dX1_firstGroup_53 : decode cX1_firstGroup 53 = .ok (.ixor, 1) := by decide +kernel
theorem dX1_firstGroup_54 : decode cX1_firstGroup 54 = .ok (.iaload, 1) := by decide +kernel
theorem dX1_firstGroup_55 : decode cX1_firstGroup 55 = .ok (.iconst 1, 1) := by decide +kernel
theorem dX1_firstGroup_56 : decode cX1_firstGroup 56 = .ok (.iadd, 1) := by decide +kernel
theorem dX1_firstGroup_57 : decode cX1_firstGroup 57 = .ok (.aload_n 0, 1) := by decide +kernel
theorem dX1_firstGroup_58 : decode cX1_firstGroup 58 = .ok (.getfield 15, 3) := by decide +kernel
theorem dX1_firstGroup_61 : decode cX1_firstGroup 61 = .ok (.iload_n 1, 1) := by decide +kernel
theorem dX1_firstGroup_62 : decode cX1_firstGroup 62 = .ok (.iaload, 1) := by decide +kernel
theorem dX1_firstGroup_63 : decode cX1_firstGroup 63 = .ok (.if_icmp .ne 5, 3) := by decide +kernel
theorem dX1_firstGroup_66 : decode cX1_firstGroup 66 = .ok (.iload_n 3, 1) := by decide +kernel
theorem dX1_firstGroup_67 : decode cX1_firstGroup 67 = .ok (.ireturn, 1) := by decide +kernel
theorem dX1_firstGroup_68 : decode cX1_firstGroup 68 = .ok (.iinc 3 1, 3) := by decide +kernel
theorem dX1_firstGroup_71 : decode cX1_firstGroup 71 = .ok (.goto (-64), 3) := by decide +kernel
theorem dX1_firstGroup_74 : decode cX1_firstGroup 74 = .ok (.iload_n 1, 1) := by decide +kernel
theorem dX1_firstGroup_75 : decode cX1_firstGroup 75 = .ok (.ireturn, 1) := by decide +kernel
theorem dX2_init_0 : decode cX2_init 0 = .ok (.aload_n 0, 1) := by decide +kernel
theorem dX2_init_1 : decode cX2_init 1 = .ok (.invokespecial 3, 3) := by decide +kernel
theorem dX2_init_4 : decode cX2_init 4 = .ok (.aload_n 0, 1) := by decide +kernel
theorem dX2_init_5 : decode cX2_init 5 = .ok (.bipush 28, 2) := by decide +kernel
theorem dX2_init_7 : decode cX2_init 7 = .ok (.newarray .int, 2) := by decide +kernel
theorem dX2_init_9 : decode cX2_init 9 = .ok (.putfield 9, 3) := by decide +kernel
theorem dX2_init_12 : decode cX2_init 12 = .ok (.aload_n 0, 1) := by decide +kernel
theorem dX2_init_13 : decode cX2_init 13 = .ok (.bipush 8, 2) := by decide +kernel
theorem dX2_init_15 : decode cX2_init 15 = .ok (.newarray .int, 2) := by decide +kernel
theorem dX2_init_17 : decode cX2_init 17 = .ok (.putfield 15, 3) := by decide +kernel
theorem dX2_init_20 : decode cX2_init 20 = .ok (.aload_n 0, 1) := by decide +kernel
theorem dX2_init_21 : decode cX2_init 21 = .ok (.bipush 7, 2) := by decide +kernel
theorem dX2_init_23 : decode cX2_init 23 = .ok (.newarray .int, 2) := by decide +kernel
theorem dX2_init_25 : decode cX2_init 25 = .ok (.putfield 18, 3) := by decide +kernel
theorem dX2_init_28 : decode cX2_init 28 = .ok (.aload_n 0, 1) := by decide +kernel
theorem dX2_init_29 : decode cX2_init 29 = .ok (.iconst 4, 1) := by decide +kernel
theorem dX2_init_30 : decode cX2_init 30 = .ok (.newarray .int, 2) := by decide +kernel
theorem dX2_init_32 : decode cX2_init 32 = .ok (.putfield 21, 3) := by decide +kernel
theorem dX2_init_35 : decode cX2_init 35 = .ok (.aload_n 0, 1) := by decide +kernel
theorem dX2_init_36 : decode cX2_init 36 = .ok (.bipush 7, 2) := by decide +kernel
theorem dX2_init_38 : decode cX2_init 38 = .ok (.newarray .int, 2) := by decide +kernel
theorem dX2_init_40 : decode cX2_init 40 = .ok (.putfield 24, 3) := by decide +kernel
theorem dX2_init_43 : decode cX2_init 43 = .ok (.aload_n 0, 1) := by decide +kernel
theorem dX2_init_44 : decode cX2_init 44 = .ok (.iconst 0, 1) := by decide +kernel
theorem dX2_init_45 : decode cX2_init 45 = .ok (.putfield 27, 3) := by decide +kernel
theorem dX2_init_48 : decode cX2_init 48 = .ok (.aload_n 0, 1) := by decide +kernel
theorem dX2_init_49 : decode cX2_init 49 = .ok (.iconst 0, 1) := by decide +kernel
theorem dX2_init_50 : decode cX2_init 50 = .ok (.putfield 31, 3) := by decide +kernel
theorem dX2_init_53 : decode cX2_init 53 = .ok (.aload_n 0, 1) := by decide +kernel
theorem dX2_init_54 : decode cX2_init 54 = .ok (.aload_n 1, 1) := by decide +kernel
theorem dX2_init_55 : decode cX2_init 55 = .ok (.putfield 35, 3) := by decide +kernel
theorem dX2_init_58 : decode cX2_init 58 = .ok (.aload_n 0, 1) := by decide +kernel
theorem dX2_init_59 : decode cX2_init 59 = .ok (.aload_n 2, 1) := by decide +kernel
theorem dX2_init_60 : decode cX2_init 60 = .ok (.putfield 39, 3) := by decide +kernel
theorem dX2_init_63 : decode cX2_init 63 = .ok (.return_, 1) := by decide +kernel
theorem dX2_forget_0 : decode cX2_forget 0 = .ok (.aload_n 0, 1) := by decide +kernel
theorem dX2_forget_1 : decode cX2_forget 1 = .ok (.iconst 0, 1) := by decide +kernel
theorem dX2_forget_2 : decode cX2_forget 2 = .ok (.putfield 31, 3) := by decide +kernel
theorem dX2_forget_5 : decode cX2_forget 5 = .ok (.return_, 1) := by decide +kernel
theorem dX2_wagonOf_0 : decode cX2_wagonOf 0 = .ok (.aload_n 0, 1) := by decide +kernel
theorem dX2_wagonOf_1 : decode cX2_wagonOf 1 = .ok (.getfield 39, 3) := by decide +kernel
theorem dX2_wagonOf_4 : decode cX2_wagonOf 4 = .ok (.iload_n 1, 1) := by decide +kernel
theorem dX2_wagonOf_5 : decode cX2_wagonOf 5 = .ok (.invokevirtual 43, 3) := by decide +kernel
theorem dX2_wagonOf_8 : decode cX2_wagonOf 8 = .ok (.ifCond .ne 5, 3) := by decide +kernel
theorem dX2_wagonOf_11 : decode cX2_wagonOf 11 = .ok (.iconst (-1), 1) := by decide +kernel
theorem dX2_wagonOf_12 : decode cX2_wagonOf 12 = .ok (.ireturn, 1) := by decide +kernel
theorem dX2_wagonOf_13 : decode cX2_wagonOf 13 = .ok (.aload_n 0, 1) := by decide +kernel
theorem dX2_wagonOf_14 : decode cX2_wagonOf 14 = .ok (.invokevirtual 49, 3) := by decide +kernel
theorem dX2_wagonOf_17 : decode cX2_wagonOf 17 = .ok (.aload_n 0, 1) := by decide +kernel
theorem dX2_wagonOf_18 : decode cX2_wagonOf 18 = .ok (.getfield 24, 3) := by decide +kernel
theorem dX2_wagonOf_21 : decode cX2_wagonOf 21 = .ok (.iload_n 1, 1) := by decide +kernel
theorem dX2_wagonOf_22 : decode cX2_wagonOf 22 = .ok (.iaload, 1) := by decide +kernel
theorem dX2_wagonOf_23 : decode cX2_wagonOf 23 = .ok (.ireturn, 1) := by decide +kernel
theorem dX2_lowestCost_0 : decode cX2_lowestCost 0 = .ok (.aload_n 0, 1) := by decide +kernel
theorem dX2_lowestCost_1 : decode cX2_lowestCost 1 = .ok (.invokevirtual 49, 3) := by decide +kernel
theorem dX2_lowestCost_4 : decode cX2_lowestCost 4 = .ok (.aload_n 0, 1) := by decide +kernel
theorem dX2_lowestCost_5 : decode cX2_lowestCost 5 = .ok (.getfield 27, 3) := by decide +kernel
theorem dX2_lowestCost_8 : decode cX2_lowestCost 8 = .ok (.ireturn, 1) := by decide +kernel
theorem dX2_solve_0 : decode cX2_solve 0 = .ok (.aload_n 0, 1) := by decide +kernel
theorem dX2_solve_1 : decode cX2_solve 1 = .ok (.getfield 31, 3) := by decide +kernel
theorem dX2_solve_4 : decode cX2_solve 4 = .ok (.ifCond .eq 4, 3) := by decide +kernel
theorem dX2_solve_7 : decode cX2_solve 7 = .ok (.return_, 1) := by decide +kernel
theorem dX2_solve_8 : decode cX2_solve 8 = .ok (.aload_n 0, 1) := by decide +kernel
theorem dX2_solve_9 : decode cX2_solve 9 = .ok (.invokevirtual 52, 3) := by decide +kernel
theorem dX2_solve_12 : decode cX2_solve 12 = .ok (.aload_n 0, 1) := by decide +kernel
theorem dX2_solve_13 : decode cX2_solve 13 = .ok (.getfield 21, 3) := by decide +kernel
theorem dX2_solve_16 : decode cX2_solve 16 = .ok (.iconst (-1), 1) := by decide +kernel
theorem dX2_solve_17 : decode cX2_solve 17 = .ok (.invokestatic 55, 3) := by decide +kernel
theorem dX2_solve_20 : decode cX2_solve 20 = .ok (.aload_n 0, 1) := by decide +kernel
theorem dX2_solve_21 : decode cX2_solve 21 = .ok (.aload_n 0, 1) := by decide +kernel
theorem dX2_solve_22 : decode cX2_solve 22 = .ok (.getfield 39, 3) := by decide +kernel
theorem dX2_solve_25 : decode cX2_solve 25 = .ok (.getfield 61, 3) := by decide +kernel
theorem dX2_solve_28 : decode cX2_solve 28 = .ok (.iconst 3, 1) := by decide +kernel
theorem dX2_solve_29 : decode cX2_solve 29 = .ok (.imul, 1) := by decide +kernel
theorem dX2_solve_30 : decode cX2_solve 30 = .ok (.iconst 1, 1) := by decide +kernel
theorem dX2_solve_31 : decode cX2_solve 31 = .ok (.iadd, 1) := by decide +kernel
theorem dX2_solve_32 : decode cX2_solve 32 = .ok (.putfield 27, 3) := by decide +kernel
theorem dX2_solve_35 : decode cX2_solve 35 = .ok (.aload_n 0, 1) := by decide +kernel
theorem dX2_solve_36 : decode cX2_solve 36 = .ok (.iconst 0, 1) := by decide +kernel
theorem dX2_solve_37 : decode cX2_solve 37 = .ok (.iconst 0, 1) := by decide +kernel
theorem dX2_solve_38 : decode cX2_solve 38 = .ok (.invokestatic 64, 3) := by decide +kernel
theorem dX2_solve_41 : decode cX2_solve 41 = .ok (.aload_n 0, 1) := by decide +kernel
theorem dX2_solve_42 : decode cX2_solve 42 = .ok (.iconst 1, 1) := by decide +kernel
theorem dX2_solve_43 : decode cX2_solve 43 = .ok (.putfield 31, 3) := by decide +kernel
theorem dX2_solve_46 : decode cX2_solve 46 = .ok (.return_, 1) := by decide +kernel
theorem dX2_measureErrors_0 : decode cX2_measureErrors 0 = .ok (.aload_n 0, 1) := by decide +kernel
theorem dX2_measureErrors_1 : decode cX2_measureErrors 1 = .ok (.getfield 15, 3) := by decide +kernel
theorem dX2_measureErrors_4 : decode cX2_measureErrors 4 = .ok (.aload_n 0, 1) := by decide +kernel
theorem dX2_measureErrors_5 : decode cX2_measureErrors 5 = .ok (.getfield 39, 3) := by decide +kernel
theorem dX2_measureErrors_8 : decode cX2_measureErrors 8 = .ok (.getfield 61, 3) := by decide +kernel
theorem dX2_measureErrors_11 : decode cX2_measureErrors 11 = .ok (.iconst 0, 1) := by decide +kernel
theorem dX2_measureErrors_12 : decode cX2_measureErrors 12 = .ok (.iastore, 1) := by decide +kernel
theorem dX2_measureErrors_13 : decode cX2_measureErrors 13 = .ok (.aload_n 0, 1) := by decide +kernel
theorem dX2_measureErrors_14 : decode cX2_measureErrors 14 = .ok (.getfield 39, 3) := by decide +kernel
theorem dX2_measureErrors_17 : decode cX2_measureErrors 17 = .ok (.getfield 61, 3) := by decide +kernel
theorem dX2_measureErrors_20 : decode cX2_measureErrors 20 = .ok (.iconst 1, 1) := by decide +kernel
theorem dX2_measureErrors_21 : decode cX2_measureErrors 21 = .ok (.isub, 1) := by decide +kernel
theorem dX2_measureErrors_22 : decode cX2_measureErrors 22 = .ok (.istore_n 1, 1) := by decide +kernel
theorem dX2_measureErrors_23 : decode cX2_measureErrors 23 = .ok (.iload_n 1, 1) := by decide +kernel
theorem dX2_measureErrors_24 : decode cX2_measureErrors 24 = .ok (.ifCond .lt 88, 3) := by decide +kernel
theorem dX2_measureErrors_27 : decode cX2_measureErrors 27 = .ok (.iconst 3, 1) := by decide +kernel
theorem dX2_measureErrors_28 : decode cX2_measureErrors 28 = .ok (.istore_n 2, 1) := by decide +kernel
theorem dX2_measureErrors_29 : decode cX2_measureErrors 29 = .ok (.iconst 0, 1) := by decide +kernel
theorem dX2_measureErrors_30 : decode cX2_measureErrors 30 = .ok (.istore_n 3, 1) := by decide +kernel
theorem dX2_measureErrors_31 : decode cX2_measureErrors 31 = .ok (.iload_n 3, 1) := by decide +kernel
theorem dX2_measureErrors_32 : decode cX2_measureErrors 32 = .ok (.aload_n 0, 1) := by decide +kernel
theorem dX2_measureErrors_33 : decode cX2_measureErrors 33 = .ok (.getfield 39, 3) := by decide +kernel
theorem dX2_measureErrors_36 : decode cX2_measureErrors 36 = .ok (.getfield 68, 3) := by decide +kernel
theorem dX2_measureErrors_39 : decode cX2_measureErrors 39 = .ok (.if_icmp .ge 51, 3) := by decide +kernel
theorem dX2_measureErrors_42 : decode cX2_measureErrors 42 = .ok (.aload_n 0, 1) := by decide +kernel
theorem dX2_measureErrors_43 : decode cX2_measureErrors 43 = .ok (.getfield 39, 3) := by decide +kernel
theorem dX2_measureErrors_46 : decode cX2_measureErrors 46 = .ok (.getfield 71, 3) := by decide +kernel
theorem dX2_measureErrors_49 : decode cX2_measureErrors 49 = .ok (.iload_n 1, 1) := by decide +kernel
theorem dX2_measureErrors_50 : decode cX2_measureErrors 50 = .ok (.iaload, 1) := by decide +kernel
theorem dX2_measureErrors_51 : decode cX2_measureErrors 51 = .ok (.aload_n 0, 1) := by decide +kernel
theorem dX2_measureErrors_52 : decode cX2_measureErrors 52 = .ok (.getfield 39, 3) := by decide +kernel
theorem dX2_measureErrors_55 : decode cX2_measureErrors 55 = .ok (.getfield 74, 3) := by decide +kernel
theorem dX2_measureErrors_58 : decode cX2_measureErrors 58 = .ok (.iload_n 3, 1) := by decide +kernel
theorem dX2_measureErrors_59 : decode cX2_measureErrors 59 = .ok (.iaload, 1) := by decide +kernel
theorem dX2_measureErrors_60 : decode cX2_measureErrors 60 = .ok (.invokestatic 77, 3) := by decide +kernel
theorem dX2_measureErrors_63 : decode cX2_measureErrors 63 = .ok (.istore 4, 2) := by decide +kernel
theorem dX2_measureErrors_65 : decode cX2_measureErrors 65 = .ok (.aload_n 0, 1) := by decide +kernel
theorem dX2_measureErrors_66 : decode cX2_measureErrors 66 = .ok (.getfield 9, 3) := by decide +kernel
theorem dX2_measureErrors_69 : decode cX2_measureErrors 69 = .ok (.iload_n 1, 1) := by decide +kernel
theorem dX2_measureErrors_70 : decode cX2_measureErrors 70 = .ok (.iconst 4, 1) := by decide +kernel
theorem dX2_measureErrors_71 : decode cX2_measureErrors 71 = .ok (.imul, 1) := by decide +kernel
theorem dX2_measureErrors_72 : decode cX2_measureErrors 72 = .ok (.iload_n 3, 1) := by decide +kernel
theorem dX2_measureErrors_73 : decode cX2_measureErrors 73 = .ok (.iadd, 1) := by decide +kernel
theorem dX2_measureErrors_74 : decode cX2_measureErrors 74 = .ok (.iload 4, 2) := by decide +kernel
theorem dX2_measureErrors_76 : decode cX2_measureErrors 76 = .ok (.iastore, 1) := by decide +kernel
theorem dX2_measureErrors_77 : decode cX2_measureErrors 77 = .ok (.iload_n 2, 1) := by decide +kernel
theorem dX2_measureErrors_78 : decode cX2_measureErrors 78 = .ok (.iload 4, 2) := by decide +kernel
theorem dX2_measureErrors_80 : decode cX2_measureErrors 80 = .ok (.invokestatic 81, 3) := by decide +kernel
theorem dX2_measureErrors_83 : decode cX2_measureErrors 83 = .ok (.istore_n 2, 1) := by decide +kernel
theorem dX2_measureErrors_84 : decode cX2_measureErrors 84 = .ok (.iinc 3 1, 3) := by decide +kernel
theorem dX2_measureErrors_87 : decode cX2_measureErrors 87 = .ok (.goto (-56), 3) := by decide +kernel
theorem dX2_measureErrors_90 : decode cX2_measureErrors 90 = .ok (.aload_n 0, 1) := by decide +kernel
theorem dX2_measureErrors_91 : decode cX2_measureErrors 91 = .ok (.getfield 15, 3) := by decide +kernel
theorem dX2_measureErrors_94 : decode cX2_measureErrors 94 = .ok (.iload_n 1, 1) := by decide +kernel
theorem dX2_measureErrors_95 : decode cX2_measureErrors 95 = .ok (.aload_n 0, 1) := by decide +kernel
theorem dX2_measureErrors_96 : decode cX2_measureErrors 96 = .ok (.getfield 15, 3) := by decide +kernel
theorem dX2_measureErrors_99 : decode cX2_measureErrors 99 = .ok (.iload_n 1, 1) := by decide +kernel
theorem dX2_measureErrors_100 : decode cX2_measureErrors 100 = .ok (.iconst 1, 1) := by decide +kernel
theorem dX2_measureErrors_101 : decode cX2_measureErrors 101 = .ok (.iadd, 1) := by decide +kernel
theorem dX2_measureErrors_102 : decode cX2_measureErrors 102 = .ok (.iaload, 1) := by decide +kernel
theorem dX2_measureErrors_103 : decode cX2_measureErrors 103 = .ok (.iload_n 2, 1) := by decide +kernel
theorem dX2_measureErrors_104 : decode cX2_measureErrors 104 = .ok (.iadd, 1) := by decide +kernel
theorem dX2_measureErrors_105 : decode cX2_measureErrors 105 = .ok (.iastore, 1) := by decide +kernel
theorem dX2_measureErrors_106 : decode cX2_measureErrors 106 = .ok (.iinc 1 (-1), 3) := by decide +kernel
theorem dX2_measureErrors_109 : decode cX2_measureErrors 109 = .ok (.goto (-86), 3) := by decide +kernel
theorem dX2_measureErrors_112 : decode cX2_measureErrors 112 = .ok (.return_, 1) := by decide +kernel
theorem dX2_searchFrom_0 : decode cX2_searchFrom 0 = .ok (.iload_n 1, 1) := by decide +kernel
theorem dX2_searchFrom_1 : decode cX2_searchFrom 1 = .ok (.aload_n 0, 1) := by decide +kernel
theorem dX2_searchFrom_2 : decode cX2_searchFrom 2 = .ok (.getfield 39, 3) := by decide +kernel
theorem dX2_searchFrom_5 : decode cX2_searchFrom 5 = .ok (.getfield 61, 3) := by decide +kernel
theorem dX2_searchFrom_8 : decode cX2_searchFrom 8 = .ok (.if_icmp .gt 18, 3) := by decide +kernel
theorem dX2_searchFrom_11 : decode cX2_searchFrom 11 = .ok (.iload_n 2, 1) := by decide +kernel
theorem dX2_searchFrom_12 : decode cX2_searchFrom 12 = .ok (.aload_n 0, 1) := by decide +kernel
theorem dX2_searchFrom_13 : decode cX2_searchFrom 13 = .ok (.getfield 15, 3) := by decide +kernel
theorem dX2_searchFrom_16 : decode cX2_searchFrom 16 = .ok (.iload_n 1, 1) := by decide +kernel
theorem dX2_searchFrom_17 : decode cX2_searchFrom 17 = .ok (.iaload, 1) := by decide +kernel
theorem dX2_searchFrom_18 : decode cX2_searchFrom 18 = .ok (.iadd, 1) := by decide +kernel
theorem dX2_searchFrom_19 : decode cX2_searchFrom 19 = .ok (.aload_n 0, 1) := by decide +kernel
theorem dX2_searchFrom_20 : decode cX2_searchFrom 20 = .ok (.getfield 27, 3) := by decide +kernel
theorem dX2_searchFrom_23 : decode cX2_searchFrom 23 = .ok (.if_icmp .lt 4, 3) := by decide +kernel
theorem dX2_searchFrom_26 : decode cX2_searchFrom 26 = .ok (.return_, 1) := by decide +kernel
theorem dX2_searchFrom_27 : decode cX2_searchFrom 27 = .ok (.iload_n 1, 1) := by decide +kernel
theorem dX2_searchFrom_28 : decode cX2_searchFrom 28 = .ok (.aload_n 0, 1) := by decide +kernel
theorem dX2_searchFrom_29 : decode cX2_searchFrom 29 = .ok (.getfield 39, 3) := by decide +kernel
theorem dX2_searchFrom_32 : decode cX2_searchFrom 32 = .ok (.getfield 61, 3) := by decide +kernel
theorem dX2_searchFrom_35 : decode cX2_searchFrom 35 = .ok (.if_icmp .ne 9, 3) := by decide +kernel
theorem dX2_searchFrom_38 : decode cX2_searchFrom 38 = .ok (.aload_n 0, 1) := by decide +kernel
theorem dX2_searchFrom_39 : decode cX2_searchFrom 39 = .ok (.iload_n 2, 1) := by decide +kernel
theorem dX2_searchFrom_40 : decode cX2_searchFrom 40 = .ok (.invokevirtual 86, 3) := by decide +kernel
theorem dX2_searchFrom_43 : decode cX2_searchFrom 43 = .ok (.return_, 1) := by decide +kernel
theorem dX2_searchFrom_44 : decode cX2_searchFrom 44 = .ok (.iconst 0, 1) := by decide +kernel
theorem dX2_searchFrom_45 : decode cX2_searchFrom 45 = .ok (.istore_n 3, 1) := by decide +kernel
theorem dX2_searchFrom_46 : decode cX2_searchFrom 46 = .ok (.iload_n 3, 1) := by decide +kernel
theorem dX2_searchFrom_47 : decode cX2_searchFrom 47 = .ok (.aload_n 0, 1) := by decide +kernel
theorem dX2_searchFrom_48 : decode cX2_searchFrom 48 = .ok (.getfield 39, 3) := by decide +kernel
theorem dX2_searchFrom_51 : decode cX2_searchFrom 51 = .ok (.getfield 68, 3) := by decide +kernel
theorem dX2_searchFrom_54 : decode cX2_searchFrom 54 = .ok (.if_icmp .ge 82, 3) := by decide +kernel
theorem dX2_searchFrom_57 : decode cX2_searchFrom 57 = .ok (.aload_n 0, 1) := by decide +kernel
theorem dX2_searchFrom_58 : decode cX2_searchFrom 58 = .ok (.getfield 9, 3) := by decide +kernel
theorem dX2_searchFrom_61 : decode cX2_searchFrom 61 = .ok (.iload_n 1, 1) := by decide +kernel
theorem dX2_searchFrom_62 : decode cX2_searchFrom 62 = .ok (.iconst 4, 1) := by decide +kernel
theorem dX2_searchFrom_63 : decode cX2_searchFrom 63 = .ok (.imul, 1) := by decide +kernel
theorem dX2_searchFrom_64 : decode cX2_searchFrom 64 = .ok (.iload_n 3, 1) := by decide +kernel
theorem dX2_searchFrom_65 : decode cX2_searchFrom 65 = .ok (.iadd, 1) := by decide +kernel
theorem dX2_searchFrom_66 : decode cX2_searchFrom 66 = .ok (.iaload, 1) := by decide +kernel
theorem dX2_searchFrom_67 : decode cX2_searchFrom 67 = .ok (.istore 4, 2) := by decide +kernel
theorem dX2_searchFrom_69 : decode cX2_searchFrom 69 = .ok (.iload 4, 2) := by decide +kernel
theorem dX2_searchFrom_71 : decode cX2_searchFrom 71 = .ok (.iconst 2, 1) := by decide +kernel
theorem dX2_searchFrom_72 : decode cX2_searchFrom 72 = .ok (.if_icmp .gt 58, 3) := by decide +kernel
theorem dX2_searchFrom_75 : decode cX2_searchFrom 75 = .ok (.aload_n 0, 1) := by decide +kernel
theorem dX2_searchFrom_76 : decode cX2_searchFrom 76 = .ok (.aload_n 0, 1) := by decide +kernel
theorem dX2_searchFrom_77 : decode cX2_searchFrom 77 = .ok (.getfield 21, 3) := by decide +kernel
theorem dX2_searchFrom_80 : decode cX2_searchFrom 80 = .ok (.iload_n 3, 1) := by decide +kernel
theorem dX2_searchFrom_81 : decode cX2_searchFrom 81 = .ok (.iaload, 1) := by decide +kernel
theorem dX2_searchFrom_82 : decode cX2_searchFrom 82 = .ok (.iload_n 1, 1) := by decide +kernel
theorem dX2_searchFrom_83 : decode cX2_searchFrom 83 = .ok (.invokevirtual 90, 3) := by decide +kernel
theorem dX2_searchFrom_86 : decode cX2_searchFrom 86 = .ok (.ifCond .eq 44, 3) := by decide +kernel
theorem dX2_searchFrom_89 : decode cX2_searchFrom 89 = .ok (.aload_n 0, 1) := by decide +kernel
theorem dX2_searchFrom_90 : decode cX2_searchFrom 90 = .ok (.getfield 21, 3) := by decide +kernel
theorem dX2_searchFrom_93 : decode cX2_searchFrom 93 = .ok (.iload_n 3, 1) := by decide +kernel
theorem dX2_searchFrom_94 : decode cX2_searchFrom 94 = .ok (.iaload, 1) := by decide +kernel
theorem dX2_searchFrom_95 : decode cX2_searchFrom 95 = .ok (.istore 5, 2) := by decide +kernel
theorem dX2_searchFrom_97 : decode cX2_searchFrom 97 = .ok (.aload_n 0, 1) := by decide +kernel
theorem dX2_searchFrom_98 : decode cX2_searchFrom 98 = .ok (.getfield 21, 3) := by decide +kernel
theorem dX2_searchFrom_101 : decode cX2_searchFrom 101 = .ok (.iload_n 3, 1) := by decide +kernel
theorem dX2_searchFrom_102 : decode cX2_searchFrom 102 = .ok (.iload_n 1, 1) := by decide +kernel
theorem dX2_searchFrom_103 : decode cX2_searchFrom 103 = .ok (.iastore, 1) := by decide +kernel
theorem dX2_searchFrom_104 : decode cX2_searchFrom 104 = .ok (.aload_n 0, 1) := by decide +kernel
theorem dX2_searchFrom_105 : decode cX2_searchFrom 105 = .ok (.getfield 18, 3) := by decide +kernel
theorem dX2_searchFrom_108 : decode cX2_searchFrom 108 = .ok (.iload_n 1, 1) := by decide +kernel
theorem dX2_searchFrom_109 : decode cX2_searchFrom 109 = .ok (.iload_n 3, 1) := by decide +kernel
theorem dX2_searchFrom_110 : decode cX2_searchFrom 110 = .ok (.iastore, 1) := by decide +kernel
theorem dX2_searchFrom_111 : decode cX2_searchFrom 111 = .ok (.aload_n 0, 1) := by decide +kernel
theorem dX2_searchFrom_112 : decode cX2_searchFrom 112 = .ok (.iload_n 1, 1) := by decide +kernel
theorem dX2_searchFrom_113 : decode cX2_searchFrom 113 = .ok (.iconst 1, 1) := by decide +kernel
theorem dX2_searchFrom_114 : decode cX2_searchFrom 114 = .ok (.iadd, 1) := by decide +kernel
theorem dX2_searchFrom_115 : decode cX2_searchFrom 115 = .ok (.iload_n 2, 1) := by decide +kernel
theorem dX2_searchFrom_116 : decode cX2_searchFrom 116 = .ok (.iload 4, 2) := by decide +kernel
theorem dX2_searchFrom_118 : decode cX2_searchFrom 118 = .ok (.iadd, 1) := by decide +kernel
theorem dX2_searchFrom_119 : decode cX2_searchFrom 119 = .ok (.invokestatic 64, 3) := by decide +kernel
theorem dX2_searchFrom_122 : decode cX2_searchFrom 122 = .ok (.aload_n 0, 1) := by decide +kernel
theorem dX2_searchFrom_123 : decode cX2_searchFrom 123 = .ok (.getfield 21, 3) := by decide +kernel
theorem dX2_searchFrom_126 : decode cX2_searchFrom 126 = .ok (.iload_n 3, 1) := by decide +kernel
theorem dX2_searchFrom_127 : decode cX2_searchFrom 127 = .ok (.iload 5, 2) := by decide +kernel
theorem dX2_searchFrom_129 : decode cX2_searchFrom 129 = .ok (.iastore, 1) := by decide +kernel
theorem dX2_searchFrom_130 : decode cX2_searchFrom 130 = .ok (.iinc 3 1, 3) := by decide +kernel
theorem dX2_searchFrom_133 : decode cX2_searchFrom 133 = .ok (.goto (-87), 3) := by decide +kernel
theorem dX2_searchFrom_136 : decode cX2_searchFrom 136 = .ok (.aload_n 0, 1) := by decide +kernel
theorem dX2_searchFrom_137 : decode cX2_searchFrom 137 = .ok (.getfield 18, 3) := by decide +kernel
theorem dX2_searchFrom_140 : decode cX2_searchFrom 140 = .ok (.iload_n 1, 1) := by decide +kernel
theorem dX2_searchFrom_141 : decode cX2_searchFrom 141 = .ok (.iconst (-1), 1) := by decide +kernel
theorem dX2_searchFrom_142 : decode cX2_searchFrom 142 = .ok (.iastore, 1) := by decide +kernel
theorem dX2_searchFrom_143 : decode cX2_searchFrom 143 = .ok (.aload_n 0, 1) := by decide +kernel
theorem dX2_searchFrom_144 : decode cX2_searchFrom 144 = .ok (.iload_n 1, 1) := by decide +kernel
theorem dX2_searchFrom_145 : decode cX2_searchFrom 145 = .ok (.iconst 1, 1) := by decide +kernel
theorem dX2_searchFrom_146 : decode cX2_searchFrom 146 = .ok (.iadd, 1) := by decide +kernel
theorem dX2_searchFrom_147 : decode cX2_searchFrom 147 = .ok (.iload_n 2, 1) := by decide +kernel
theorem dX2_searchFrom_148 : decode cX2_searchFrom 148 = .ok (.iconst 3, 1) := by decide +kernel
theorem dX2_searchFrom_149 : decode cX2_searchFrom 149 = .ok (.iadd, 1) := by decide +kernel
theorem dX2_searchFrom_150 : decode cX2_searchFrom 150 = .ok (.invokestatic 64, 3) := by decide +kernel
theorem dX2_searchFrom_153 : decode cX2_searchFrom 153 = .ok (.return_, 1) := by decide +kernel
theorem dX2_isInTime_0 : decode cX2_isInTime 0 = .ok (.iload_n 1, 1) := by decide +kernel
theorem dX2_isInTime_1 : decode cX2_isInTime 1 = .ok (.iconst (-1), 1) := by decide +kernel
theorem dX2_isInTime_2 : decode cX2_isInTime 2 = .ok (.if_icmp .ne 5, 3) := by decide +kernel
theorem dX2_isInTime_5 : decode cX2_isInTime 5 = .ok (.iconst 1, 1) := by decide +kernel
theorem dX2_isInTime_6 : decode cX2_isInTime 6 = .ok (.ireturn, 1) := by decide +kernel
theorem dX2_isInTime_7 : decode cX2_isInTime 7 = .ok (.aload_n 0, 1) := by decide +kernel
theorem dX2_isInTime_8 : decode cX2_isInTime 8 = .ok (.getfield 39, 3) := by decide +kernel
theorem dX2_isInTime_11 : decode cX2_isInTime 11 = .ok (.getfield 94, 3) := by decide +kernel
theorem dX2_isInTime_14 : decode cX2_isInTime 14 = .ok (.iload_n 1, 1) := by decide +kernel
theorem dX2_isInTime_15 : decode cX2_isInTime 15 = .ok (.iaload, 1) := by decide +kernel
theorem dX2_isInTime_16 : decode cX2_isInTime 16 = .ok (.istore_n 3, 1) := by decide +kernel
theorem dX2_isInTime_17 : decode cX2_isInTime 17 = .ok (.aload_n 0, 1) := by decide +kernel
theorem dX2_isInTime_18 : decode cX2_isInTime 18 = .ok (.getfield 35, 3) := by decide +kernel
theorem dX2_isInTime_21 : decode cX2_isInTime 21 = .ok (.getfield 97, 3) := by decide +kernel
theorem dX2_isInTime_24 : decode cX2_isInTime 24 = .ok (.iload_n 3, 1) := by decide +kernel
theorem dX2_isInTime_25 : decode cX2_isInTime 25 = .ok (.bipush 12, 2) := by decide +kernel
theorem dX2_isInTime_27 : decode cX2_isInTime 27 = .ok (.imul, 1) := by decide +kernel
theorem dX2_isInTime_28 : decode cX2_isInTime 28 = .ok (.aload_n 0, 1) := by decide +kernel
theorem dX2_isInTime_29 : decode cX2_isInTime 29 = .ok (.getfield 39, 3) := by decide +kernel
theorem dX2_isInTime_32 : decode cX2_isInTime 32 = .ok (.getfield 94, 3) := by decide +kernel
theorem dX2_isInTime_35 : decode cX2_isInTime 35 = .ok (.iload_n 2, 1) := by decide +kernel
theorem dX2_isInTime_36 : decode cX2_isInTime 36 = .ok (.iaload, 1) := by decide +kernel
theorem dX2_isInTime_37 : decode cX2_isInTime 37 = .ok (.iadd, 1) := by decide +kernel
theorem dX2_isInTime_38 : decode cX2_isInTime 38 = .ok (.iaload, 1) := by decide +kernel
theorem dX2_isInTime_39 : decode cX2_isInTime 39 = .ok (.istore 4, 2) := by decide +kernel
theorem dX2_isInTime_41 : decode cX2_isInTime 41 = .ok (.iload 4, 2) := by decide +kernel
theorem dX2_isInTime_43 : decode cX2_isInTime 43 = .ok (.ldc 102, 2) := by decide +kernel
theorem dX2_isInTime_45 : decode cX2_isInTime 45 = .ok (.if_icmp .lt 5, 3) := by decide +kernel
theorem dX2_isInTime_48 : decode cX2_isInTime 48 = .ok (.iconst 0, 1) := by decide +kernel
theorem dX2_isInTime_49 : decode cX2_isInTime 49 = .ok (.ireturn, 1) := by decide +kernel
theorem dX2_isInTime_50 : decode cX2_isInTime 50 = .ok (.iload 4, 2) := by decide +kernel
theorem dX2_isInTime_52 : decode cX2_isInTime 52 = .ok (.bipush 100, 2) := by decide +kernel
theorem dX2_isInTime_54 : decode cX2_isInTime 54 = .ok (.iadd, 1) := by decide +kernel
theorem dX2_isInTime_55 : decode cX2_isInTime 55 = .ok (.iconst 1, 1) := by decide +kernel
theorem dX2_isInTime_56 : decode cX2_isInTime 56 = .ok (.isub, 1) := by decide +kernel
theorem dX2_isInTime_57 : decode cX2_isInTime 57 = .ok (.bipush 100, 2) := by decide +kernel
theorem dX2_isInTime_59 : decode cX2_isInTime 59 = .ok (.idiv, 1) := by decide +kernel
theorem dX2_isInTime_60 : decode cX2_isInTime 60 = .ok (.istore 5, 2) := by decide +kernel
theorem dX2_isInTime_62 : decode cX2_isInTime 62 = .ok (.aload_n 0, 1) := by decide +kernel
theorem dX2_isInTime_63 : decode cX2_isInTime 63 = .ok (.getfield 39, 3) := by decide +kernel
theorem dX2_isInTime_66 : decode cX2_isInTime 66 = .ok (.getfield 103, 3) := by decide +kernel
theorem dX2_isInTime_69 : decode cX2_isInTime 69 = .ok (.iload_n 2, 1) := by decide +kernel
theorem dX2_isInTime_70 : decode cX2_isInTime 70 = .ok (.iaload, 1) := by decide +kernel
theorem dX2_isInTime_71 : decode cX2_isInTime 71 = .ok (.aload_n 0, 1) := by decide +kernel
theorem dX2_isInTime_72 : decode cX2_isInTime 72 = .ok (.getfield 39, 3) := by decide +kernel
theorem dX2_isInTime_75 : decode cX2_isInTime 75 = .ok (.getfield 103, 3) := by decide +kernel
theorem dX2_isInTime_78 : decode cX2_isInTime 78 = .ok (.iload_n 1, 1) := by decide +kernel
theorem dX2_isInTime_79 : decode cX2_isInTime 79 = .ok (.iaload, 1) := by decide +kernel
theorem dX2_isInTime_80 : decode cX2_isInTime 80 = .ok (.isub, 1) := by decide +kernel
theorem dX2_isInTime_81 : decode cX2_isInTime 81 = .ok (.iload 5, 2) := by decide +kernel
theorem dX2_isInTime_83 : decode cX2_isInTime 83 = .ok (.if_icmp .lt 7, 3) := by decide +kernel
theorem dX2_isInTime_86 : decode cX2_isInTime 86 = .ok (.iconst 1, 1) := by decide +kernel
theorem dX2_isInTime_87 : decode cX2_isInTime 87 = .ok (.goto 4, 3) := by decide +kernel
theorem dX2_isInTime_90 : decode cX2_isInTime 90 = .ok (.iconst 0, 1) := by decide +kernel
theorem dX2_isInTime_91 : decode cX2_isInTime 91 = .ok (.ireturn, 1) := by decide +kernel
theorem dX2_keep_0 : decode cX2_keep 0 = .ok (.aload_n 0, 1) := by decide +kernel
theorem dX2_keep_1 : decode cX2_keep 1 = .ok (.getfield 18, 3) := by decide +kernel
theorem dX2_keep_4 : decode cX2_keep 4 = .ok (.iconst 0, 1) := by decide +kernel
theorem dX2_keep_5 : decode cX2_keep 5 = .ok (.aload_n 0, 1) := by decide +kernel
theorem dX2_keep_6 : decode cX2_keep 6 = .ok (.getfield 24, 3) := by decide +kernel
theorem dX2_keep_9 : decode cX2_keep 9 = .ok (.iconst 0, 1) := by decide +kernel
theorem dX2_keep_10 : decode cX2_keep 10 = .ok (.bipush 7, 2) := by decide +kernel
theorem dX2_keep_12 : decode cX2_keep 12 = .ok (.invokestatic 106, 3) := by decide +kernel
theorem dX2_keep_15 : decode cX2_keep 15 = .ok (.aload_n 0, 1) := by decide +kernel
theorem dX2_keep_16 : decode cX2_keep 16 = .ok (.iload_n 1, 1) := by decide +kernel
theorem dX2_keep_17 : decode cX2_keep 17 = .ok (.putfield 27, 3) := by decide +kernel
theorem dX2_keep_20 : decode cX2_keep 20 = .ok (.return_, 1) := by decide +kernel
theorem dX3_init_0 : decode cX3_init 0 = .ok (.aload_n 0, 1) := by decide +kernel
theorem dX3_init_1 : decode cX3_init 1 = .ok (.invokespecial 3, 3) := by decide +kernel
theorem dX3_init_4 : decode cX3_init 4 = .ok (.aload_n 0, 1) := by decide +kernel
theorem dX3_init_5 : decode cX3_init 5 = .ok (.bipush 12, 2) := by decide +kernel
theorem dX3_init_7 : decode cX3_init 7 = .ok (.newarray .int, 2) := by decide +kernel
theorem dX3_init_9 : decode cX3_init 9 = .ok (.putfield 9, 3) := by decide +kernel
theorem dX3_init_12 : decode cX3_init 12 = .ok (.aload_n 0, 1) := by decide +kernel
theorem dX3_init_13 : decode cX3_init 13 = .ok (.bipush 12, 2) := by decide +kernel
theorem dX3_init_15 : decode cX3_init 15 = .ok (.newarray .int, 2) := by decide +kernel
theorem dX3_init_17 : decode cX3_init 17 = .ok (.putfield 15, 3) := by decide +kernel
theorem dX3_init_20 : decode cX3_init 20 = .ok (.aload_n 0, 1) := by decide +kernel
theorem dX3_init_21 : decode cX3_init 21 = .ok (.iconst 0, 1) := by decide +kernel
theorem dX3_init_22 : decode cX3_init 22 = .ok (.putfield 18, 3) := by decide +kernel
theorem dX3_init_25 : decode cX3_init 25 = .ok (.aload_n 0, 1) := by decide +kernel
theorem dX3_init_26 : decode cX3_init 26 = .ok (.iconst 0, 1) := by decide +kernel
theorem dX3_init_27 : decode cX3_init 27 = .ok (.putfield 22, 3) := by decide +kernel
theorem dX3_init_30 : decode cX3_init 30 = .ok (.aload_n 0, 1) := by decide +kernel
theorem dX3_init_31 : decode cX3_init 31 = .ok (.bipush 12, 2) := by decide +kernel
theorem dX3_init_33 : decode cX3_init 33 = .ok (.newarray .int, 2) := by decide +kernel
theorem dX3_init_35 : decode cX3_init 35 = .ok (.putfield 25, 3) := by decide +kernel
theorem dX3_init_38 : decode cX3_init 38 = .ok (.aload_n 0, 1) := by decide +kernel
theorem dX3_init_39 : decode cX3_init 39 = .ok (.sipush 144, 3) := by decide +kernel
theorem dX3_init_42 : decode cX3_init 42 = .ok (.newarray .int, 2) := by decide +kernel
theorem dX3_init_44 : decode cX3_init 44 = .ok (.putfield 28, 3) := by decide +kernel
theorem dX3_init_47 : decode cX3_init 47 = .ok (.aload_n 0, 1) := by decide +kernel
theorem dX3_init_48 : decode cX3_init 48 = .ok (.bipush 12, 2) := by decide +kernel
theorem dX3_init_50 : decode cX3_init 50 = .ok (.newarray .int, 2) := by decide +kernel
theorem dX3_init_52 : decode cX3_init 52 = .ok (.putfield 31, 3) := by decide +kernel
theorem dX3_init_55 : decode cX3_init 55 = .ok (.aload_n 0, 1) := by decide +kernel
theorem dX3_init_56 : decode cX3_init 56 = .ok (.bipush 12, 2) := by decide +kernel
theorem dX3_init_58 : decode cX3_init 58 = .ok (.newarray .int, 2) := by decide +kernel
theorem dX3_init_60 : decode cX3_init 60 = .ok (.putfield 34, 3) := by decide +kernel
theorem dX3_init_63 : decode cX3_init 63 = .ok (.aload_n 0, 1) := by decide +kernel
theorem dX3_init_64 : decode cX3_init 64 = .ok (.iconst 1, 1) := by decide +kernel
theorem dX3_init_65 : decode cX3_init 65 = .ok (.putfield 37, 3) := by decide +kernel
theorem dX3_init_68 : decode cX3_init 68 = .ok (.aload_n 0, 1) := by decide +kernel
theorem dX3_init_69 : decode cX3_init 69 = .ok (.aload_n 1, 1) := by decide +kernel
theorem dX3_init_70 : decode cX3_init 70 = .ok (.putfield 41, 3) := by decide +kernel
theorem dX3_init_73 : decode cX3_init 73 = .ok (.return_, 1) := by decide +kernel
theorem dX3_forget_0 : decode cX3_forget 0 = .ok (.aload_n 0, 1) := by decide +kernel
theorem dX3_forget_1 : decode cX3_forget 1 = .ok (.iconst 0, 1) := by decide +kernel
theorem dX3_forget_2 : decode cX3_forget 2 = .ok (.putfield 37, 3) := by decide +kernel
theorem dX3_forget_5 : decode cX3_forget 5 = .ok (.return_, 1) := by decide +kernel
theorem dX3_place_0 : decode cX3_place 0 = .ok (.iload_n 1, 1) := by decide +kernel
theorem dX3_place_1 : decode cX3_place 1 = .ok (.invokestatic 45, 3) := by decide +kernel
theorem dX3_place_4 : decode cX3_place 4 = .ok (.ifCond .eq 23, 3) := by decide +kernel
theorem dX3_place_7 : decode cX3_place 7 = .ok (.iload_n 2, 1) := by decide +kernel
theorem dX3_place_8 : decode cX3_place 8 = .ok (.iconst 0, 1) := by decide +kernel
theorem dX3_place_9 : decode cX3_place 9 = .ok (.bipush 9, 2) := by decide +kernel
theorem dX3_place_11 : decode cX3_place 11 = .ok (.invokestatic 49, 3) := by decide +kernel
theorem dX3_place_14 : decode cX3_place 14 = .ok (.ifCond .eq 13, 3) := by decide +kernel
theorem dX3_place_17 : decode cX3_place 17 = .ok (.iload_n 3, 1) := by decide +kernel
theorem dX3_place_18 : decode cX3_place 18 = .ok (.iconst 0, 1) := by decide +kernel
theorem dX3_place_19 : decode cX3_place 19 = .ok (.bipush 9, 2) := by decide +kernel
theorem dX3_place_21 : decode cX3_place 21 = .ok (.invokestatic 49, 3) := by decide +kernel
theorem dX3_place_24 : decode cX3_place 24 = .ok (.ifCond .ne 5, 3) := by decide +kernel
theorem dX3_place_27 : decode cX3_place 27 = .ok (.iconst 0, 1) := by decide +kernel
theorem dX3_place_28 : decode cX3_place 28 = .ok (.ireturn, 1) := by decide +kernel
theorem dX3_place_29 : decode cX3_place 29 = .ok (.aload_n 0, 1) := by decide +kernel
theorem dX3_place_30 : decode cX3_place 30 = .ok (.getfield 9, 3) := by decide +kernel
theorem dX3_place_33 : decode cX3_place 33 = .ok (.iload_n 1, 1) := by decide +kernel
theorem dX3_place_34 : decode cX3_place 34 = .ok (.iload_n 2, 1) := by decide +kernel
theorem dX3_place_35 : decode cX3_place 35 = .ok (.iastore, 1) := by decide +kernel
theorem dX3_place_36 : decode cX3_place 36 = .ok (.aload_n 0, 1) := by decide +kernel
theorem dX3_place_37 : decode cX3_place 37 = .ok (.getfield 15, 3) := by decide +kernel
theorem dX3_place_40 : decode cX3_place 40 = .ok (.iload_n 1, 1) := by decide +kernel
theorem dX3_place_41 : decode cX3_place 41 = .ok (.iload_n 3, 1) := by decide +kernel
theorem dX3_place_42 : decode cX3_place 42 = .ok (.iastore, 1) := by decide +kernel
theorem dX3_place_43 : decode cX3_place 43 = .ok (.aload_n 0, 1) := by decide +kernel
theorem dX3_place_44 : decode cX3_place 44 = .ok (.invokevirtual 53, 3) := by decide +kernel
theorem dX3_place_47 : decode cX3_place 47 = .ok (.iconst 1, 1) := by decide +kernel
theorem dX3_place_48 : decode cX3_place 48 = .ok (.ireturn, 1) := by decide +kernel
theorem dX3_solve_0 : decode cX3_solve 0 = .ok (.aload_n 0, 1) := by decide +kernel
theorem dX3_solve_1 : decode cX3_solve 1 = .ok (.getfield 37, 3) := by decide +kernel
theorem dX3_solve_4 : decode cX3_solve 4 = .ok (.ifCond .eq 4, 3) := by decide +kernel
theorem dX3_solve_7 : decode cX3_solve 7 = .ok (.return_, 1) := by decide +kernel
theorem dX3_solve_8 : decode cX3_solve 8 = .ok (.aload_n 0, 1) := by decide +kernel
theorem dX3_solve_9 : decode cX3_solve 9 = .ok (.invokevirtual 56, 3) := by decide +kernel
theorem dX3_solve_12 : decode cX3_solve 12 = .ok (.iconst 0, 1) := by decide +kernel
theorem dX3_solve_13 : decode cX3_solve 13 = .ok (.istore_n 1, 1) := by decide +kernel
theorem dX3_solve_14 : decode cX3_solve 14 = .ok (.iload_n 1, 1) := by decide +kernel
theorem dX3_solve_15 : decode cX3_solve 15 = .ok (.bipush 108, 2) := by decide +kernel
theorem dX3_solve_17 : decode cX3_solve 17 = .ok (.if_icmp .ge 16, 3) := by decide +kernel
theorem dX3_solve_20 : decode cX3_solve 20 = .ok (.aload_n 0, 1) := by decide +kernel
theorem dX3_solve_21 : decode cX3_solve 21 = .ok (.invokevirtual 59, 3) := by decide +kernel
theorem dX3_solve_24 : decode cX3_solve 24 = .ok (.ifCond .eq 9, 3) := by decide +kernel
theorem dX3_solve_27 : decode cX3_solve 27 = .ok (.iinc 1 1, 3) := by decide +kernel
theorem dX3_solve_30 : decode cX3_solve 30 = .ok (.goto (-16), 3) := by decide +kernel
theorem dX3_solve_33 : decode cX3_solve 33 = .ok (.aload_n 0, 1) := by decide +kernel
theorem dX3_solve_34 : decode cX3_solve 34 = .ok (.iconst 1, 1) := by decide +kernel
theorem dX3_solve_35 : decode cX3_solve 35 = .ok (.putfield 37, 3) := by decide +kernel
theorem dX3_solve_38 : decode cX3_solve 38 = .ok (.return_, 1) := by decide +kernel
theorem dX3_stayAtHome_0 : decode cX3_stayAtHome 0 = .ok (.aload_n 0, 1) := by decide +kernel
theorem dX3_stayAtHome_1 : decode cX3_stayAtHome 1 = .ok (.getfield 28, 3) := by decide +kernel
theorem dX3_stayAtHome_4 : decode cX3_stayAtHome 4 = .ok (.iconst 0, 1) := by decide +kernel
theorem dX3_stayAtHome_5 : decode cX3_stayAtHome 5 = .ok (.invokestatic 63, 3) := by decide +kernel
theorem dX3_stayAtHome_8 : decode cX3_stayAtHome 8 = .ok (.aload_n 0, 1) := by decide +kernel
theorem dX3_stayAtHome_9 : decode cX3_stayAtHome 9 = .ok (.iconst 0, 1) := by decide +kernel
theorem dX3_stayAtHome_10 : decode cX3_stayAtHome 10 = .ok (.putfield 18, 3) := by decide +kernel
theorem dX3_stayAtHome_13 : decode cX3_stayAtHome 13 = .ok (.aload_n 0, 1) := by decide +kernel
theorem dX3_stayAtHome_14 : decode cX3_stayAtHome 14 = .ok (.iconst 0, 1) := by decide +kernel
theorem dX3_stayAtHome_15 : decode cX3_stayAtHome 15 = .ok (.putfield 22, 3) := by decide +kernel
theorem dX3_stayAtHome_18 : decode cX3_stayAtHome 18 = .ok (.iconst 0, 1) := by decide +kernel
theorem dX3_stayAtHome_19 : decode cX3_stayAtHome 19 = .ok (.istore_n 1, 1) := by decide +kernel
theorem dX3_stayAtHome_20 : decode cX3_stayAtHome 20 = .ok (.iload_n 1, 1) := by decide +kernel
theorem dX3_stayAtHome_21 : decode cX3_stayAtHome 21 = .ok (.bipush 12, 2) := by decide +kernel
theorem dX3_stayAtHome_23 : decode cX3_stayAtHome 23 = .ok (.if_icmp .ge 52, 3) := by decide +kernel
theorem dX3_stayAtHome_26 : decode cX3_stayAtHome 26 = .ok (.aload_n 0, 1) := by decide +kernel
theorem dX3_stayAtHome_27 : decode cX3_stayAtHome 27 = .ok (.dup, 1) := by decide +kernel
theorem dX3_stayAtHome_28 : decode cX3_stayAtHome 28 = .ok (.getfield 18, 3) := by decide +kernel
theorem dX3_stayAtHome_31 : decode cX3_stayAtHome 31 = .ok (.aload_n 0, 1) := by decide +kernel
theorem dX3_stayAtHome_32 : decode cX3_stayAtHome 32 = .ok (.getfield 9, 3) := by decide +kernel
theorem dX3_stayAtHome_35 : decode cX3_stayAtHome 35 = .ok (.iload_n 1, 1) := by decide +kernel
theorem dX3_stayAtHome_36 : decode cX3_stayAtHome 36 = .ok (.iaload, 1) := by decide +kernel
theorem dX3_stayAtHome_37 : decode cX3_stayAtHome 37 = .ok (.aload_n 0, 1) := by decide +kernel
theorem dX3_stayAtHome_38 : decode cX3_stayAtHome 38 = .ok (.getfield 15, 3) := by decide +kernel
theorem dX3_stayAtHome_41 : decode cX3_stayAtHome 41 = .ok (.iload_n 1, 1) := by decide +kernel
theorem dX3_stayAtHome_42 : decode cX3_stayAtHome 42 = .ok (.iaload, 1) := by decide +kernel
theorem dX3_stayAtHome_43 : decode cX3_stayAtHome 43 = .ok (.invokestatic 69, 3) := by decide +kernel
theorem dX3_stayAtHome_46 : decode cX3_stayAtHome 46 = .ok (.iadd, 1) := by decide +kernel
theorem dX3_stayAtHome_47 : decode cX3_stayAtHome 47 = .ok (.putfield 18, 3) := by decide +kernel
theorem dX3_stayAtHome_50 : decode cX3_stayAtHome 50 = .ok (.aload_n 0, 1) := by decide +kernel
theorem dX3_stayAtHome_51 : decode cX3_stayAtHome 51 = .ok (.getfield 25, 3) := by decide +kernel
theorem dX3_stayAtHome_54 : decode cX3_stayAtHome 54 = .ok (.iload_n 1, 1) := by decide +kernel
theorem dX3_stayAtHome_55 : decode cX3_stayAtHome 55 = .ok (.aload_n 0, 1) := by decide +kernel
theorem dX3_stayAtHome_56 : decode cX3_stayAtHome 56 = .ok (.getfield 9, 3) := by decide +kernel
theorem dX3_stayAtHome_59 : decode cX3_stayAtHome 59 = .ok (.iload_n 1, 1) := by decide +kernel
theorem dX3_stayAtHome_60 : decode cX3_stayAtHome 60 = .ok (.iaload, 1) := by decide +kernel
theorem dX3_stayAtHome_61 : decode cX3_stayAtHome 61 = .ok (.aload_n 0, 1) := by decide +kernel
theorem dX3_stayAtHome_62 : decode cX3_stayAtHome 62 = .ok (.getfield 15, 3) := by decide +kernel
theorem dX3_stayAtHome_65 : decode cX3_stayAtHome 65 = .ok (.iload_n 1, 1) := by decide +kernel
theorem dX3_stayAtHome_66 : decode cX3_stayAtHome 66 = .ok (.iaload, 1) := by decide +kernel
theorem dX3_stayAtHome_67 : decode cX3_stayAtHome 67 = .ok (.isub, 1) := by decide +kernel
theorem dX3_stayAtHome_68 : decode cX3_stayAtHome 68 = .ok (.iastore, 1) := by decide +kernel
theorem dX3_stayAtHome_69 : decode cX3_stayAtHome 69 = .ok (.iinc 1 1, 3) := by decide +kernel
theorem dX3_stayAtHome_72 : decode cX3_stayAtHome 72 = .ok (.goto (-52), 3) := by decide +kernel
theorem dX3_stayAtHome_75 : decode cX3_stayAtHome 75 = .ok (.return_, 1) := by decide +kernel
theorem dX3_leadMore_0 : decode cX3_leadMore 0 = .ok (.aload_n 0, 1) := by decide +kernel
theorem dX3_leadMore_1 : decode cX3_leadMore 1 = .ok (.invokevirtual 75, 3) := by decide +kernel
theorem dX3_leadMore_4 : decode cX3_leadMore 4 = .ok (.aload_n 0, 1) := by decide +kernel
theorem dX3_leadMore_5 : decode cX3_leadMore 5 = .ok (.invokevirtual 78, 3) := by decide +kernel
theorem dX3_leadMore_8 : decode cX3_leadMore 8 = .ok (.istore_n 1, 1) := by decide +kernel
theorem dX3_leadMore_9 : decode cX3_leadMore 9 = .ok (.iload_n 1, 1) := by decide +kernel
theorem dX3_leadMore_10 : decode cX3_leadMore 10 = .ok (.iconst (-1), 1) := by decide +kernel
theorem dX3_leadMore_11 : decode cX3_leadMore 11 = .ok (.if_icmp .ne 5, 3) := by decide +kernel
theorem dX3_leadMore_14 : decode cX3_leadMore 14 = .ok (.iconst 0, 1) := by decide +kernel
theorem dX3_leadMore_15 : decode cX3_leadMore 15 = .ok (.ireturn, 1) := by decide +kernel
theorem dX3_leadMore_16 : decode cX3_leadMore 16 = .ok (.aload_n 0, 1) := by decide +kernel
theorem dX3_leadMore_17 : decode cX3_leadMore 17 = .ok (.iload_n 1, 1) := by decide +kernel
theorem dX3_leadMore_18 : decode cX3_leadMore 18 = .ok (.invokevirtual 82, 3) := by decide +kernel
theorem dX3_leadMore_21 : decode cX3_leadMore 21 = .ok (.istore_n 2, 1) := by decide +kernel
theorem dX3_leadMore_22 : decode cX3_leadMore 22 = .ok (.iload_n 2, 1) := by decide +kernel
theorem dX3_leadMore_23 : decode cX3_leadMore 23 = .ok (.ifCond .gt 5, 3) := by decide +kernel
theorem dX3_leadMore_26 : decode cX3_leadMore 26 = .ok (.iconst 0, 1) := by decide +kernel
theorem dX3_leadMore_27 : decode cX3_leadMore 27 = .ok (.ireturn, 1) := by decide +kernel
theorem dX3_leadMore_28 : decode cX3_leadMore 28 = .ok (.aload_n 0, 1) := by decide +kernel
theorem dX3_leadMore_29 : decode cX3_leadMore 29 = .ok (.iload_n 1, 1) := by decide +kernel
theorem dX3_leadMore_30 : decode cX3_leadMore 30 = .ok (.iload_n 2, 1) := by decide +kernel
theorem dX3_leadMore_31 : decode cX3_leadMore 31 = .ok (.invokevirtual 86, 3) := by decide +kernel
theorem dX3_leadMore_34 : decode cX3_leadMore 34 = .ok (.aload_n 0, 1) := by decide +kernel
theorem dX3_leadMore_35 : decode cX3_leadMore 35 = .ok (.dup, 1) := by decide +kernel
theorem dX3_leadMore_36 : decode cX3_leadMore 36 = .ok (.getfield 18, 3) := by decide +kernel
theorem dX3_leadMore_39 : decode cX3_leadMore 39 = .ok (.iload_n 2, 1) := by decide +kernel
theorem dX3_leadMore_40 : decode cX3_leadMore 40 = .ok (.iadd, 1) := by decide +kernel
theorem dX3_leadMore_41 : decode cX3_leadMore 41 = .ok (.putfield 18, 3) := by decide +kernel
theorem dX3_leadMore_44 : decode cX3_leadMore 44 = .ok (.aload_n 0, 1) := by decide +kernel
theorem dX3_leadMore_45 : decode cX3_leadMore 45 = .ok (.dup, 1) := by decide +kernel
theorem dX3_leadMore_46 : decode cX3_leadMore 46 = .ok (.getfield 22, 3) := by decide +kernel
theorem dX3_leadMore_49 : decode cX3_leadMore 49 = .ok (.iload_n 2, 1) := by decide +kernel
theorem dX3_leadMore_50 : decode cX3_leadMore 50 = .ok (.aload_n 0, 1) := by decide +kernel
theorem dX3_leadMore_51 : decode cX3_leadMore 51 = .ok (.getfield 31, 3) := by decide +kernel
theorem dX3_leadMore_54 : decode cX3_leadMore 54 = .ok (.iload_n 1, 1) := by decide +kernel
theorem dX3_leadMore_55 : decode cX3_leadMore 55 = .ok (.iaload, 1) := by decide +kernel
theorem dX3_leadMore_56 : decode cX3_leadMore 56 = .ok (.imul, 1) := by decide +kernel
theorem dX3_leadMore_57 : decode cX3_leadMore 57 = .ok (.iadd, 1) := by decide +kernel
theorem dX3_leadMore_58 : decode cX3_leadMore 58 = .ok (.putfield 22, 3) := by decide +kernel
theorem dX3_leadMore_61 : decode cX3_leadMore 61 = .ok (.iconst 1, 1) := by decide +kernel
theorem dX3_leadMore_62 : decode cX3_leadMore 62 = .ok (.ireturn, 1) := by decide +kernel
theorem dX3_measureReach_0 : decode cX3_measureReach 0 = .ok (.iconst 0, 1) := by decide +kernel
theorem dX3_measureReach_1 : decode cX3_measureReach 1 = .ok (.istore_n 1, 1) := by decide +kernel
theorem dX3_measureReach_2 : decode cX3_measureReach 2 = .ok (.iload_n 1, 1) := by decide +kernel
theorem dX3_measureReach_3 : decode cX3_measureReach 3 = .ok (.bipush 12, 2) := by decide +kernel
theorem dX3_measureReach_5 : decode cX3_measureReach 5 = .ok (.if_icmp .ge 37, 3) := by decide +kernel
theorem dX3_measureReach_8 : decode cX3_measureReach 8 = .ok (.aload_n 0, 1) := by decide +kernel
theorem dX3_measureReach_9 : decode cX3_measureReach 9 = .ok (.getfield 31, 3) := by decide +kernel
theorem dX3_measureReach_12 : decode cX3_measureReach 12 = .ok (.iload_n 1, 1) := by decide +kernel
theorem dX3_measureReach_13 : decode cX3_measureReach 13 = .ok (.aload_n 0, 1) := by decide +kernel
theorem dX3_measureReach_14 : decode cX3_measureReach 14 = .ok (.getfield 25, 3) := by decide +kernel
theorem dX3_measureReach_17 : decode cX3_measureReach 17 = .ok (.iload_n 1, 1) := by decide +kernel
theorem dX3_measureReach_18 : decode cX3_measureReach 18 = .ok (.iaload, 1) := by decide +kernel
theorem dX3_measureReach_19 : decode cX3_measureReach 19 = .ok (.ifCond .le 7, 3) := by decide +kernel
theorem dX3_measureReach_22 : decode cX3_measureReach 22 = .ok (.iconst 0, 1) := by decide +kernel
theorem dX3_measureReach_23 : decode cX3_measureReach 23 = .ok (.goto 5, 3) := by decide +kernel
theorem dX3_measureReach_26 : decode cX3_measureReach 26 = .ok (.ldc 90, 2) := by decide +kernel
theorem dX3_measureReach_28 : decode cX3_measureReach 28 = .ok (.iastore, 1) := by decide +kernel
theorem dX3_measureReach_29 : decode cX3_measureReach 29 = .ok (.aload_n 0, 1) := by decide +kernel
theorem dX3_measureReach_30 : decode cX3_measureReach 30 = .ok (.getfield 34, 3) := by decide +kernel
theorem dX3_measureReach_33 : decode cX3_measureReach 33 = .ok (.iload_n 1, 1) := by decide +kernel
theorem dX3_measureReach_34 : decode cX3_measureReach 34 = .ok (.iconst (-1), 1) := by decide +kernel
theorem dX3_measureReach_35 : decode cX3_measureReach 35 = .ok (.iastore, 1) := by decide +kernel
theorem dX3_measureReach_36 : decode cX3_measureReach 36 = .ok (.iinc 1 1, 3) := by decide +kernel
theorem dX3_measureReach_39 : decode cX3_measureReach 39 = .ok (.goto (-37), 3) := by decide +kernel
theorem dX3_measureReach_42 : decode cX3_measureReach 42 = .ok (.iconst 1, 1) := by decide +kernel
theorem dX3_measureReach_43 : decode cX3_measureReach 43 = .ok (.istore_n 1, 1) := by decide +kernel
theorem dX3_measureReach_44 : decode cX3_measureReach 44 = .ok (.iconst 0, 1) := by decide +kernel
theorem dX3_measureReach_45 : decode cX3_measureReach 45 = .ok (.istore_n 2, 1) := by decide +kernel
theorem dX3_measureReach_46 : decode cX3_measureReach 46 = .ok (.iload_n 2, 1) := by decide +kernel
theorem dX3_measureReach_47 : decode cX3_measureReach 47 = .ok (.bipush 12, 2) := by decide +kernel
theorem dX3_measureReach_49 : decode cX3_measureReach 49 = .ok (.if_icmp .ge 50, 3) := by decide +kernel
theorem dX3_measureReach_52 : decode cX3_measureReach 52 = .ok (.iload_n 1, 1) := by decide +kernel
theorem dX3_measureReach_53 : decode cX3_measureReach 53 = .ok (.ifCond .eq 46, 3) := by decide +kernel
theorem dX3_measureReach_56 : decode cX3_measureReach 56 = .ok (.iconst 0, 1) := by decide +kernel
theorem dX3_measureReach_57 : decode cX3_measureReach 57 = .ok (.istore_n 1, 1) := by decide +kernel
theorem dX3_measureReach_58 : decode cX3_measureReach 58 = .ok (.iconst 0, 1) := by decide +kernel
theorem dX3_measureReach_59 : decode cX3_measureReach 59 = .ok (.istore_n 3, 1) := by decide +kernel
theorem dX3_measureReach_60 : decode cX3_measureReach 60 = .ok (.iload_n 3, 1) := by decide +kernel
theorem dX3_measureReach_61 : decode cX3_measureReach 61 = .ok (.bipush 12, 2) := by decide +kernel
theorem dX3_measureReach_63 : decode cX3_measureReach 63 = .ok (.if_icmp .ge 30, 3) := by decide +kernel
theorem dX3_measureReach_66 : decode cX3_measureReach 66 = .ok (.aload_n 0, 1) := by decide +kernel
theorem dX3_measureReach_67 : decode cX3_measureReach 67 = .ok (.getfield 31, 3) := by decide +kernel
theorem dX3_measureReach_70 : decode cX3_measureReach 70 = .ok (.iload_n 3, 1) := by decide +kernel
theorem dX3_measureReach_71 : decode cX3_measureReach 71 = .ok (.iaload, 1) := by decide +kernel
theorem dX3_measureReach_72 : decode cX3_measureReach 72 = .ok (.ldc 90, 2) := by decide +kernel
theorem dX3_measureReach_74 : decode cX3_measureReach 74 = .ok (.if_icmp .ge 13, 3) := by decide +kernel
theorem dX3_measureReach_77 : decode cX3_measureReach 77 = .ok (.aload_n 0, 1) := by decide +kernel
theorem dX3_measureReach_78 : decode cX3_measureReach 78 = .ok (.iload_n 3, 1) := by decide +kernel
theorem dX3_measureReach_79 : decode cX3_measureReach 79 = .ok (.invokevirtual 91, 3) := by decide +kernel
theorem dX3_measureReach_82 : decode cX3_measureReach 82 = .ok (.ifCond .eq 5, 3) := by decide +kernel
theorem dX3_measureReach_85 : decode cX3_measureReach 85 = .ok (.iconst 1, 1) := by decide +kernel
theorem dX3_measureReach_86 : decode cX3_measureReach 86 = .ok (.istore_n 1, 1) := by decide +kernel
theorem dX3_measureReach_87 : decode cX3_measureReach 87 = .ok (.iinc 3 1, 3) := by decide +kernel
theorem dX3_measureReach_90 : decode cX3_measureReach 90 = .ok (.goto (-30), 3) := by decide +kernel
theorem dX3_measureReach_93 : decode cX3_measureReach 93 = .ok (.iinc 2 1, 3) := by decide +kernel
theorem dX3_measureReach_96 : decode cX3_measureReach 96 = .ok (.goto (-50), 3) := by decide +kernel
theorem dX3_measureReach_99 : decode cX3_measureReach 99 = .ok (.return_, 1) := by decide +kernel
theorem dX3_stepFrom_0 : decode cX3_stepFrom 0 = .ok (.iconst 0, 1) := by decide +kernel
theorem dX3_stepFrom_1 : decode cX3_stepFrom 1 = .ok (.istore_n 2, 1) := by decide +kernel
theorem dX3_stepFrom_2 : decode cX3_stepFrom 2 = .ok (.iconst 0, 1) := by decide +kernel
theorem dX3_stepFrom_3 : decode cX3_stepFrom 3 = .ok (.istore_n 3, 1) := by decide +kernel
theorem dX3_stepFrom_4 : decode cX3_stepFrom 4 = .ok (.iload_n 3, 1) := by decide +kernel
theorem dX3_stepFrom_5 : decode cX3_stepFrom 5 = .ok (.bipush 12, 2) := by decide +kernel
theorem dX3_stepFrom_7 : decode cX3_stepFrom 7 = .ok (.if_icmp .ge 66, 3) := by decide +kernel
theorem dX3_stepFrom_10 : decode cX3_stepFrom 10 = .ok (.aload_n 0, 1) := by decide +kernel
theorem dX3_stepFrom_11 : decode cX3_stepFrom 11 = .ok (.iload_n 1, 1) := by decide +kernel
theorem dX3_stepFrom_12 : decode cX3_stepFrom 12 = .ok (.iload_n 3, 1) := by decide +kernel
theorem dX3_stepFrom_13 : decode cX3_stepFrom 13 = .ok (.invokevirtual 94, 3) := by decide +kernel
theorem dX3_stepFrom_16 : decode cX3_stepFrom 16 = .ok (.istore 4, 2) := by decide +kernel
theorem dX3_stepFrom_18 : decode cX3_stepFrom 18 = .ok (.iload 4, 2) := by decide +kernel
theorem dX3_stepFrom_20 : decode cX3_stepFrom 20 = .ok (.ldc 90, 2) := by decide +kernel
theorem dX3_stepFrom_22 : decode cX3_stepFrom 22 = .ok (.if_icmp .ge 45, 3) := by decide +kernel
theorem dX3_stepFrom_25 : decode cX3_stepFrom 25 = .ok (.aload_n 0, 1) := by decide +kernel
theorem dX3_stepFrom_26 : decode cX3_stepFrom 26 = .ok (.getfield 31, 3) := by decide +kernel
theorem dX3_stepFrom_29 : decode cX3_stepFrom 29 = .ok (.iload_n 1, 1) := by decide +kernel
theorem dX3_stepFrom_30 : decode cX3_stepFrom 30 = .ok (.iaload, 1) := by decide +kernel
theorem dX3_stepFrom_31 : decode cX3_stepFrom 31 = .ok (.iload 4, 2) := by decide +kernel
theorem dX3_stepFrom_33 : decode cX3_stepFrom 33 = .ok (.iadd, 1) := by decide +kernel
theorem dX3_stepFrom_34 : decode cX3_stepFrom 34 = .ok (.aload_n 0, 1) := by decide +kernel
theorem dX3_stepFrom_35 : decode cX3_stepFrom 35 = .ok (.getfield 31, 3) := by decide +kernel
theorem dX3_stepFrom_38 : decode cX3_stepFrom 38 = .ok (.iload_n 3, 1) := by decide +kernel
theorem dX3_stepFrom_39 : decode cX3_stepFrom 39 = .ok (.iaload, 1) := by decide +kernel
theorem dX3_stepFrom_40 : decode cX3_stepFrom 40 = .ok (.if_icmp .ge 27, 3) := by decide +kernel
theorem dX3_stepFrom_43 : decode cX3_stepFrom 43 = .ok (.aload_n 0, 1) := by decide +kernel
theorem dX3_stepFrom_44 : decode cX3_stepFrom 44 = .ok (.getfield 31, 3) := by decide +kernel
theorem dX3_stepFrom_47 : decode cX3_stepFrom 47 = .ok (.iload_n 3, 1) := by decide +kernel
theorem dX3_stepFrom_48 : decode cX3_stepFrom 48 = .ok (.aload_n 0, 1) := by decide +kernel
theorem dX3_stepFrom_49 : decode cX3_stepFrom 49 = .ok (.getfield 31, 3) := by decide +kernel
theorem dX3_stepFrom_52 : decode cX3_stepFrom 52 = .ok (.iload_n 1, 1) := by decide +kernel
theorem dX3_stepFrom_53 : decode cX3_stepFrom 53 = .ok (.iaload, 1) := by decide +kernel
theorem dX3_stepFrom_54 : decode cX3_stepFrom 54 = .ok (.iload 4, 2) := by decide +kernel
theorem dX3_stepFrom_56 : decode cX3_stepFrom 56 = .ok (.iadd, 1) := by decide +kernel
theorem dX3_stepFrom_57 : decode cX3_stepFrom 57 = .ok (.iastore, 1) := by decide +kernel
theorem dX3_stepFrom_58 : decode cX3_stepFrom 58 = .ok (.aload_n 0, 1) := by decide +kernel
theorem dX3_stepFrom_59 : decode cX3_stepFrom 59 = .ok (.getfield 34, 3) := by decide +kernel
theorem dX3_stepFrom_62 : decode cX3_stepFrom 62 = .ok (.iload_n 3, 1) := by decide +kernel
theorem dX3_stepFrom_63 : decode cX3_stepFrom 63 = .ok (.iload_n 1, 1) := by decide +kernel
theorem dX3_stepFrom_64 : decode cX3_stepFrom 64 = .ok (.iastore, 1) := by decide +kernel
theorem dX3_stepFrom_65 : decode cX3_stepFrom 65 = .ok (.iconst 1, 1) := by decide +kernel
theorem dX3_stepFrom_66 : decode cX3_stepFrom 66 = .ok (.istore_n 2, 1) := by decide +kernel
theorem dX3_stepFrom_67 : decode cX3_stepFrom 67 = .ok (.iinc 3 1, 3) := by decide +kernel
theorem dX3_stepFrom_70 : decode cX3_stepFrom 70 = .ok (.goto (-66), 3) := by decide +kernel
theorem dX3_stepFrom_73 : decode cX3_stepFrom 73 = .ok (.iload_n 2, 1) := by decide +kernel
theorem dX3_stepFrom_74 : decode cX3_stepFrom 74 = .ok (.ireturn, 1) := by decide +kernel
theorem dX3_stepMiles_0 : decode cX3_stepMiles 0 = .ok (.aload_n 0, 1) := by decide +kernel
theorem dX3_stepMiles_1 : decode cX3_stepMiles 1 = .ok (.getfield 41, 3) := by decide +kernel
theorem dX3_stepMiles_4 : decode cX3_stepMiles 4 = .ok (.getfield 97, 3) := by decide +kernel
theorem dX3_stepMiles_7 : decode cX3_stepMiles 7 = .ok (.iload_n 1, 1) := by decide +kernel
theorem dX3_stepMiles_8 : decode cX3_stepMiles 8 = .ok (.bipush 12, 2) := by decide +kernel
theorem dX3_stepMiles_10 : decode cX3_stepMiles 10 = .ok (.imul, 1) := by decide +kernel
theorem dX3_stepMiles_11 : decode cX3_stepMiles 11 = .ok (.iload_n 2, 1) := by decide +kernel
theorem dX3_stepMiles_12 : decode cX3_stepMiles 12 = .ok (.iadd, 1) := by decide +kernel
theorem dX3_stepMiles_13 : decode cX3_stepMiles 13 = .ok (.iaload, 1) := by decide +kernel
theorem dX3_stepMiles_14 : decode cX3_stepMiles 14 = .ok (.istore_n 3, 1) := by decide +kernel
theorem dX3_stepMiles_15 : decode cX3_stepMiles 15 = .ok (.aload_n 0, 1) := by decide +kernel
theorem dX3_stepMiles_16 : decode cX3_stepMiles 16 = .ok (.iload_n 1, 1) := by decide +kernel
theorem dX3_stepMiles_17 : decode cX3_stepMiles 17 = .ok (.invokevirtual 102, 3) := by decide +kernel
theorem dX3_stepMiles_20 : decode cX3_stepMiles 20 = .ok (.ifCond .eq 13, 3) := by decide +kernel
theorem dX3_stepMiles_23 : decode cX3_stepMiles 23 = .ok (.aload_n 0, 1) := by decide +kernel
theorem dX3_stepMiles_24 : decode cX3_stepMiles 24 = .ok (.iload_n 2, 1) := by decide +kernel
theorem dX3_stepMiles_25 : decode cX3_stepMiles 25 = .ok (.invokevirtual 105, 3) := by decide +kernel
theorem dX3_stepMiles_28 : decode cX3_stepMiles 28 = .ok (.ifCond .eq 5, 3) := by decide +kernel
theorem dX3_stepMiles_31 : decode cX3_stepMiles 31 = .ok (.iload_n 3, 1) := by decide +kernel
theorem dX3_stepMiles_32 : decode cX3_stepMiles 32 = .ok (.ireturn, 1) := by decide +kernel
theorem dX3_stepMiles_33 : decode cX3_stepMiles 33 = .ok (.aload_n 0, 1) := by decide +kernel
theorem dX3_stepMiles_34 : decode cX3_stepMiles 34 = .ok (.iload_n 1, 1) := by decide +kernel
theorem dX3_stepMiles_35 : decode cX3_stepMiles 35 = .ok (.invokevirtual 105, 3) := by decide +kernel
theorem dX3_stepMiles_38 : decode cX3_stepMiles 38 = .ok (.ifCond .eq 28, 3) := by decide +kernel
theorem dX3_stepMiles_41 : decode cX3_stepMiles 41 = .ok (.aload_n 0, 1) := by decide +kernel
theorem dX3_stepMiles_42 : decode cX3_stepMiles 42 = .ok (.iload_n 2, 1) := by decide +kernel
theorem dX3_stepMiles_43 : decode cX3_stepMiles 43 = .ok (.invokevirtual 102, 3) := by decide +kernel
theorem dX3_stepMiles_46 : decode cX3_stepMiles 46 = .ok (.ifCond .eq 20, 3) := by decide +kernel
theorem dX3_stepMiles_49 : decode cX3_stepMiles 49 = .ok (.aload_n 0, 1) := by decide +kernel
theorem dX3_stepMiles_50 : decode cX3_stepMiles 50 = .ok (.getfield 28, 3) := by decide +kernel
theorem dX3_stepMiles_53 : decode cX3_stepMiles 53 = .ok (.iload_n 2, 1) := by decide +kernel
theorem dX3_stepMiles_54 : decode cX3_stepMiles 54 = .ok (.bipush 12, 2) := by decide +kernel
theorem dX3_stepMiles_56 : decode cX3_stepMiles 56 = .ok (.imul, 1) := by decide +kernel
theorem dX3_stepMiles_57 : decode cX3_stepMiles 57 = .ok (.iload_n 1, 1) := by decide +kernel
theorem dX3_stepMiles_58 : decode cX3_stepMiles 58 = .ok (.iadd, 1) := by decide +kernel
theorem dX3_stepMiles_59 : decode cX3_stepMiles 59 = .ok (.iaload, 1) := by decide +kernel
theorem dX3_stepMiles_60 : decode cX3_stepMiles 60 = .ok (.ifCond .le 6, 3) := by decide +kernel
theorem dX3_stepMiles_63 : decode cX3_stepMiles 63 = .ok (.iload_n 3, 1) := by decide +kernel
theorem dX3_stepMiles_64 : decode cX3_stepMiles 64 = .ok (.ineg, 1) := by decide +kernel
theorem dX3_stepMiles_65 : decode cX3_stepMiles 65 = .ok (.ireturn, 1) := by decide +kernel
theorem dX3_stepMiles_66 : decode cX3_stepMiles 66 = .ok (.ldc 90, 2) := by decide +kernel
theorem dX3_stepMiles_68 : decode cX3_stepMiles 68 = .ok (.ireturn, 1) := by decide +kernel
theorem dX3_isGiver_0 : decode cX3_isGiver 0 = .ok (.aload_n 0, 1) := by decide +kernel
theorem dX3_isGiver_1 : decode cX3_isGiver 1 = .ok (.getfield 9, 3) := by decide +kernel
theorem dX3_isGiver_4 : decode cX3_isGiver 4 = .ok (.iload_n 1, 1) := by decide +kernel
theorem dX3_isGiver_5 : decode cX3_isGiver 5 = .ok (.iaload, 1) := by decide +kernel
theorem dX3_isGiver_6 : decode cX3_isGiver 6 = .ok (.aload_n 0, 1) := by decide +kernel
theorem dX3_isGiver_7 : decode cX3_isGiver 7 = .ok (.getfield 15, 3) := by decide +kernel
theorem dX3_isGiver_10 : decode cX3_isGiver 10 = .ok (.iload_n 1, 1) := by decide +kernel
theorem dX3_isGiver_11 : decode cX3_isGiver 11 = .ok (.iaload, 1) := by decide +kernel
theorem dX3_isGiver_12 : decode cX3_isGiver 12 = .ok (.if_icmp .le 7, 3) := by decide +kernel
theorem dX3_isGiver_15 : decode cX3_isGiver 15 = .ok (.iconst 1, 1) := by decide +kernel
theorem dX3_isGiver_16 : decode cX3_isGiver 16 = .ok (.goto 4, 3) := by decide +kernel
theorem dX3_isGiver_19 : decode cX3_isGiver 19 = .ok (.iconst 0, 1) := by decide +kernel
theorem dX3_isGiver_20 : decode cX3_isGiver 20 = .ok (.ireturn, 1) := by decide +kernel
theorem dX3_isTaker_0 : decode cX3_isTaker 0 = .ok (.aload_n 0, 1) := by decide +kernel
theorem dX3_isTaker_1 : decode cX3_isTaker 1 = .ok (.getfield 9, 3) := by decide +kernel
theorem dX3_isTaker_4 : decode cX3_isTaker 4 = .ok (.iload_n 1, 1) := by decide +kernel
theorem dX3_isTaker_5 : decode cX3_isTaker 5 = .ok (.iaload, 1) := by decide +kernel
theorem dX3_isTaker_6 : decode cX3_isTaker 6 = .ok (.aload_n 0, 1) := by decide +kernel
theorem dX3_isTaker_7 : decode cX3_isTaker 7 = .ok (.getfield 15, 3) := by decide +kernel
theorem dX3_isTaker_10 : decode cX3_isTaker 10 = .ok (.iload_n 1, 1) := by decide +kernel
theorem dX3_isTaker_11 : decode cX3_isTaker 11 = .ok (.iaload, 1) := by decide +kernel
theorem dX3_isTaker_12 : decode cX3_isTaker 12 = .ok (.if_icmp .ge 7, 3) := by decide +kernel
theorem dX3_isTaker_15 : decode cX3_isTaker 15 = .ok (.iconst 1, 1) := by decide +kernel
theorem dX3_isTaker_16 : decode cX3_isTaker 16 = .ok (.goto 4, 3) := by decide +kernel
theorem dX3_isTaker_19 : decode cX3_isTaker 19 = .ok (.iconst 0, 1) := by decide +kernel
theorem dX3_isTaker_20 : decode cX3_isTaker 20 = .ok (.ireturn, 1) := by decide +kernel
theorem dX3_nearestGoal_0 : decode cX3_nearestGoal 0 = .ok (.iconst (-1), 1) := by decide +kernel
theorem dX3_nearestGoal_1 : decode cX3_nearestGoal 1 = .ok (.istore_n 1, 1) := by decide +kernel
theorem dX3_nearestGoal_2 : decode cX3_nearestGoal 2 = .ok (.ldc 90, 2) := by decide +kernel
theorem dX3_nearestGoal_4 : decode cX3_nearestGoal 4 = .ok (.istore_n 2, 1) := by decide +kernel
theorem dX3_nearestGoal_5 : decode cX3_nearestGoal 5 = .ok (.iconst 0, 1) := by decide +kernel
theorem dX3_nearestGoal_6 : decode cX3_nearestGoal 6 = .ok (.istore_n 3, 1) := by decide +kernel
theorem dX3_nearestGoal_7 : decode cX3_nearestGoal 7 = .ok (.iload_n 3, 1) := by decide +kernel
theorem dX3_nearestGoal_8 : decode cX3_nearestGoal 8 = .ok (.bipush 12, 2) := by decide +kernel
theorem dX3_nearestGoal_10 : decode cX3_nearestGoal 10 = .ok (.if_icmp .ge 37, 3) := by decide +kernel
theorem dX3_nearestGoal_13 : decode cX3_nearestGoal 13 = .ok (.aload_n 0, 1) := by decide +kernel
theorem dX3_nearestGoal_14 : decode cX3_nearestGoal 14 = .ok (.getfield 25, 3) := by decide +kernel
theorem dX3_nearestGoal_17 : decode cX3_nearestGoal 17 = .ok (.iload_n 3, 1) := by decide +kernel
theorem dX3_nearestGoal_18 : decode cX3_nearestGoal 18 = .ok (.iaload, 1) := by decide +kernel
theorem dX3_nearestGoal_19 : decode cX3_nearestGoal 19 = .ok (.ifCond .ge 22, 3) := by decide +kernel
theorem dX3_nearestGoal_22 : decode cX3_nearestGoal 22 = .ok (.aload_n 0, 1) := by decide +kernel
theorem dX3_nearestGoal_23 : decode cX3_nearestGoal 23 = .ok (.getfield 31, 3) := by decide +kernel
theorem dX3_nearestGoal_26 : decode cX3_nearestGoal 26 = .ok (.iload_n 3, 1) := by decide +kernel
theorem dX3_nearestGoal_27 : decode cX3_nearestGoal 27 = .ok (.iaload, 1) := by decide +kernel
theorem dX3_nearestGoal_28 : decode cX3_nearestGoal 28 = .ok (.iload_n 2, 1) := by decide +kernel
theorem dX3_nearestGoal_29 : decode cX3_nearestGoal 29 = .ok (.if_icmp .ge 12, 3) := by decide +kernel
theorem dX3_nearestGoal_32 : decode cX3_nearestGoal 32 = .ok (.iload_n 3, 1) := by decide +kernel
theorem dX3_nearestGoal_33 : decode cX3_nearestGoal 33 = .ok (.istore_n 1, 1) := by decide +kernel
theorem dX3_nearestGoal_34 : decode cX3_nearestGoal 34 = .ok (.aload_n 0, 1) := by decide +kernel
theorem dX3_nearestGoal_35 : decode cX3_nearestGoal 35 = .ok (.getfield 31, 3) := by decide +kernel
theorem dX3_nearestGoal_38 : decode cX3_nearestGoal 38 = .ok (.iload_n 3, 1) := by decide +kernel
theorem dX3_nearestGoal_39 : decode cX3_nearestGoal 39 = .ok (.iaload, 1) := by decide +kernel
theorem dX3_nearestGoal_40 : decode cX3_nearestGoal 40 = .ok (.istore_n 2, 1) := by decide +kernel
theorem dX3_nearestGoal_41 : decode cX3_nearestGoal 41 = .ok (.iinc 3 1, 3) := by decide +kernel
theorem dX3_nearestGoal_44 : decode cX3_nearestGoal 44 = .ok (.goto (-37), 3) := by decide +kernel
theorem dX3_nearestGoal_47 : decode cX3_nearestGoal 47 = .ok (.iload_n 1, 1) := by decide +kernel
theorem dX3_nearestGoal_48 : decode cX3_nearestGoal 48 = .ok (.ireturn, 1) := by decide +kernel
theorem dX3_amountTo_0 : decode cX3_amountTo 0 = .ok (.aload_n 0, 1) := by decide +kernel
theorem dX3_amountTo_1 : decode cX3_amountTo 1 = .ok (.getfield 25, 3) := by decide +kernel
theorem dX3_amountTo_4 : decode cX3_amountTo 4 = .ok (.iload_n 1, 1) := by decide +kernel
theorem dX3_amountTo_5 : decode cX3_amountTo 5 = .ok (.iaload, 1) := by decide +kernel
theorem dX3_amountTo_6 : decode cX3_amountTo 6 = .ok (.ineg, 1) := by decide +kernel
theorem dX3_amountTo_7 : decode cX3_amountTo 7 = .ok (.istore_n 2, 1) := by decide +kernel
theorem dX3_amountTo_8 : decode cX3_amountTo 8 = .ok (.iload_n 1, 1) := by decide +kernel
theorem dX3_amountTo_9 : decode cX3_amountTo 9 = .ok (.istore_n 3, 1) := by decide +kernel
theorem dX3_amountTo_10 : decode cX3_amountTo 10 = .ok (.iconst 0, 1) := by decide +kernel
theorem dX3_amountTo_11 : decode cX3_amountTo 11 = .ok (.istore 4, 2) := by decide +kernel
theorem dX3_amountTo_13 : decode cX3_amountTo 13 = .ok (.iload 4, 2) := by decide +kernel
theorem dX3_amountTo_15 : decode cX3_amountTo 15 = .ok (.bipush 12, 2) := by decide +kernel
theorem dX3_amountTo_17 : decode cX3_amountTo 17 = .ok (.if_icmp .ge 55, 3) := by decide +kernel
theorem dX3_amountTo_20 : decode cX3_amountTo 20 = .ok (.aload_n 0, 1) := by decide +kernel
theorem dX3_amountTo_21 : decode cX3_amountTo 21 = .ok (.getfield 34, 3) := by decide +kernel
theorem dX3_amountTo_24 : decode cX3_amountTo 24 = .ok (.iload_n 3, 1) := by decide +kernel
theorem dX3_amountTo_25 : decode cX3_amountTo 25 = .ok (.iaload, 1) := by decide +kernel
theorem dX3_amountTo_26 : decode cX3_amountTo 26 = .ok (.iconst (-1), 1) := by decide +kernel
theorem dX3_amountTo_27 : decode cX3_amountTo 27 = .ok (.if_icmp .eq 45, 3) := by decide +kernel
theorem dX3_amountTo_30 : decode cX3_amountTo 30 = .ok (.aload_n 0, 1) := by decide +kernel
theorem dX3_amountTo_31 : decode cX3_amountTo 31 = .ok (.iload_n 3, 1) := by decide +kernel
theorem dX3_amountTo_32 : decode cX3_amountTo 32 = .ok (.invokevirtual 102, 3) := by decide +kernel
theorem dX3_amountTo_35 : decode cX3_amountTo 35 = .ok (.ifCond .eq 24, 3) := by decide +kernel
theorem dX3_amountTo_38 : decode cX3_amountTo 38 = .ok (.iload_n 2, 1) := by decide +kernel
theorem dX3_amountTo_39 : decode cX3_amountTo 39 = .ok (.aload_n 0, 1) := by decide +kernel
theorem dX3_amountTo_40 : decode cX3_amountTo 40 = .ok (.getfield 28, 3) := by decide +kernel
theorem dX3_amountTo_43 : decode cX3_amountTo 43 = .ok (.iload_n 3, 1) := by decide +kernel
theorem dX3_amountTo_44 : decode cX3_amountTo 44 = .ok (.bipush 12, 2) := by decide +kernel
theorem dX3_amountTo_46 : decode cX3_amountTo 46 = .ok (.imul, 1) := by decide +kernel
theorem dX3_amountTo_47 : decode cX3_amountTo 47 = .ok (.aload_n 0, 1) := by decide +kernel
theorem dX3_amountTo_48 : decode cX3_amountTo 48 = .ok (.getfield 34, 3) := by decide +kernel
theorem dX3_amountTo_51 : decode cX3_amountTo 51 = .ok (.iload_n 3, 1) := by decide +kernel
theorem dX3_amountTo_52 : decode cX3_amountTo 52 = .ok (.iaload, 1) := by decide +kernel
theorem dX3_amountTo_53 : decode cX3_amountTo 53 = .ok (.iadd, 1) := by decide +kernel
theorem dX3_amountTo_54 : decode cX3_amountTo 54 = .ok (.iaload, 1) := by decide +kernel
theorem dX3_amountTo_55 : decode cX3_amountTo 55 = .ok (.invokestatic 69, 3) := by decide +kernel
theorem dX3_amountTo_58 : decode cX3_amountTo 58 = .ok (.istore_n 2, 1) := by decide +kernel
theorem dX3_amountTo_59 : decode cX3_amountTo 59 = .ok (.aload_n 0, 1) := by decide +kernel
theorem dX3_amountTo_60 : decode cX3_amountTo 60 = .ok (.getfield 34, 3) := by decide +kernel
theorem dX3_amountTo_63 : decode cX3_amountTo 63 = .ok (.iload_n 3, 1) := by decide +kernel
theorem dX3_amountTo_64 : decode cX3_amountTo 64 = .ok (.iaload, 1) := by decide +kernel
theorem dX3_amountTo_65 : decode cX3_amountTo 65 = .ok (.istore_n 3, 1) := by decide +kernel
theorem dX3_amountTo_66 : decode cX3_amountTo 66 = .ok (.iinc 4 1, 3) := by decide +kernel
theorem dX3_amountTo_69 : decode cX3_amountTo 69 = .ok (.goto (-56), 3) := by decide +kernel
theorem dX3_amountTo_72 : decode cX3_amountTo 72 = .ok (.iload_n 2, 1) := by decide +kernel
theorem dX3_amountTo_73 : decode cX3_amountTo 73 = .ok (.aload_n 0, 1) := by decide +kernel
theorem dX3_amountTo_74 : decode cX3_amountTo 74 = .ok (.getfield 25, 3) := by decide +kernel
theorem dX3_amountTo_77 : decode cX3_amountTo 77 = .ok (.iload_n 3, 1) := by decide +kernel
theorem dX3_amountTo_78 : decode cX3_amountTo 78 = .ok (.iaload, 1) := by decide +kernel
theorem dX3_amountTo_79 : decode cX3_amountTo 79 = .ok (.invokestatic 69, 3) := by decide +kernel
theorem dX3_amountTo_82 : decode cX3_amountTo 82 = .ok (.ireturn, 1) := by decide +kernel
theorem dX3_moveTo_0 : decode cX3_moveTo 0 = .ok (.iload_n 1, 1) := by decide +kernel
theorem dX3_moveTo_1 : decode cX3_moveTo 1 = .ok (.istore_n 3, 1) := by decide +kernel
theorem dX3_moveTo_2 : decode cX3_moveTo 2 = .ok (.iconst 0, 1) := by decide +kernel
theorem dX3_moveTo_3 : decode cX3_moveTo 3 = .ok (.istore 4, 2) := by decide +kernel
theorem dX3_moveTo_5 : decode cX3_moveTo 5 = .ok (.iload 4, 2) := by decide +kernel
theorem dX3_moveTo_7 : decode cX3_moveTo 7 = .ok (.bipush 12, 2) := by decide +kernel
theorem dX3_moveTo_9 : decode cX3_moveTo 9 = .ok (.if_icmp .ge 73, 3) := by decide +kernel
theorem dX3_moveTo_12 : decode cX3_moveTo 12 = .ok (.aload_n 0, 1) := by decide +kernel
theorem dX3_moveTo_13 : decode cX3_moveTo 13 = .ok (.getfield 34, 3) := by decide +kernel
theorem dX3_moveTo_16 : decode cX3_moveTo 16 = .ok (.iload_n 3, 1) := by decide +kernel
theorem dX3_moveTo_17 : decode cX3_moveTo 17 = .ok (.iaload, 1) := by decide +kernel
theorem dX3_moveTo_18 : decode cX3_moveTo 18 = .ok (.iconst (-1), 1) := by decide +kernel
theorem dX3_moveTo_19 : decode cX3_moveTo 19 = .ok (.if_icmp .eq 63, 3) := by decide +kernel
theorem dX3_moveTo_22 : decode cX3_moveTo 22 = .ok (.aload_n 0, 1) := by decide +kernel
theorem dX3_moveTo_23 : decode cX3_moveTo 23 = .ok (.getfield 34, 3) := by decide +kernel
theorem dX3_moveTo_26 : decode cX3_moveTo 26 = .ok (.iload_n 3, 1) := by decide +kernel
theorem dX3_moveTo_27 : decode cX3_moveTo 27 = .ok (.iaload, 1) := by decide +kernel
theorem dX3_moveTo_28 : decode cX3_moveTo 28 = .ok (.istore 5, 2) := by decide +kernel
theorem dX3_moveTo_30 : decode cX3_moveTo 30 = .ok (.aload_n 0, 1) := by decide +kernel
theorem dX3_moveTo_31 : decode cX3_moveTo 31 = .ok (.iload_n 3, 1) := by decide +kernel
theorem dX3_moveTo_32 : decode cX3_moveTo 32 = .ok (.invokevirtual 102, 3) := by decide +kernel
theorem dX3_moveTo_35 : decode cX3_moveTo 35 = .ok (.ifCond .eq 22, 3) := by decide +kernel
theorem dX3_moveTo_38 : decode cX3_moveTo 38 = .ok (.aload_n 0, 1) := by decide +kernel
theorem dX3_moveTo_39 : decode cX3_moveTo 39 = .ok (.getfield 28, 3) := by decide +kernel
theorem dX3_moveTo_42 : decode cX3_moveTo 42 = .ok (.iload_n 3, 1) := by decide +kernel
theorem dX3_moveTo_43 : decode cX3_moveTo 43 = .ok (.bipush 12, 2) := by decide +kernel
theorem dX3_moveTo_45 : decode cX3_moveTo 45 = .ok (.imul, 1) := by decide +kernel
theorem dX3_moveTo_46 : decode cX3_moveTo 46 = .ok (.iload 5, 2) := by decide +kernel
theorem dX3_moveTo_48 : decode cX3_moveTo 48 = .ok (.iadd, 1) := by decide +kernel
theorem dX3_moveTo_49 : decode cX3_moveTo 49 = .ok (.dup2, 1) := by decide +kernel
theorem dX3_moveTo_50 : decode cX3_moveTo 50 = .ok (.iaload, 1) := by decide +kernel
theorem dX3_moveTo_51 : decode cX3_moveTo 51 = .ok (.iload_n 2, 1) := by decide +kernel
theorem dX3_moveTo_52 : decode cX3_moveTo 52 = .ok (.isub, 1) := by decide +kernel
theorem dX3_moveTo_53 : decode cX3_moveTo 53 = .ok (.iastore, 1) := by decide +kernel
theorem dX3_moveTo_54 : decode cX3_moveTo 54 = .ok (.goto 19, 3) := by decide +kernel
theorem dX3_moveTo_57 : decode cX3_moveTo 57 = .ok (.aload_n 0, 1) := by decide +kernel
theorem dX3_moveTo_58 : decode cX3_moveTo 58 = .ok (.getfield 28, 3) := by decide +kernel
theorem dX3_moveTo_61 : decode cX3_moveTo 61 = .ok (.iload 5, 2) := by decide +kernel
theorem dX3_moveTo_63 : decode cX3_moveTo 63 = .ok (.bipush 12, 2) := by decide +kernel
theorem dX3_moveTo_65 : decode cX3_moveTo 65 = .ok (.imul, 1) := by decide +kernel
theorem dX3_moveTo_66 : decode cX3_moveTo 66 = .ok (.iload_n 3, 1) := by decide +kernel
theorem dX3_moveTo_67 : decode cX3_moveTo 67 = .ok (.iadd, 1) := by decide +kernel
theorem dX3_moveTo_68 : decode cX3_moveTo 68 = .ok (.dup2, 1) := by decide +kernel
theorem dX3_moveTo_69 : decode cX3_moveTo 69 = .ok (.iaload, 1) := by decide +kernel
theorem dX3_moveTo_70 : decode cX3_moveTo 70 = .ok (.iload_n 2, 1) := by decide +kernel
theorem dX3_moveTo_71 : decode cX3_moveTo 71 = .ok (.iadd, 1) := by decide +kernel
theorem dX3_moveTo_72 : decode cX3_moveTo 72 = .ok (.iastore, 1) := by decide +kernel
theorem dX3_moveTo_73 : decode cX3_moveTo 73 = .ok (.iload 5, 2) := by decide +kernel
theorem dX3_moveTo_75 : decode cX3_moveTo 75 = .ok (.istore_n 3, 1) := by decide +kernel
theorem dX3_moveTo_76 : decode cX3_moveTo 76 = .ok (.iinc 4 1, 3) := by decide +kernel
theorem dX3_moveTo_79 : decode cX3_moveTo 79 = .ok (.goto (-74), 3) := by decide +kernel
theorem dX3_moveTo_82 : decode cX3_moveTo 82 = .ok (.aload_n 0, 1) := by decide +kernel
theorem dX3_moveTo_83 : decode cX3_moveTo 83 = .ok (.getfield 25, 3) := by decide +kernel
theorem dX3_moveTo_86 : decode cX3_moveTo 86 = .ok (.iload_n 3, 1) := by decide +kernel
theorem dX3_moveTo_87 : decode cX3_moveTo 87 = .ok (.dup2, 1) := by decide +kernel
theorem dX3_moveTo_88 : decode cX3_moveTo 88 = .ok (.iaload, 1) := by decide +kernel
theorem dX3_moveTo_89 : decode cX3_moveTo 89 = .ok (.iload_n 2, 1) := by decide +kernel
theorem dX3_moveTo_90 : decode cX3_moveTo 90 = .ok (.isub, 1) := by decide +kernel
theorem dX3_moveTo_91 : decode cX3_moveTo 91 = .ok (.iastore, 1) := by decide +kernel
theorem dX3_moveTo_92 : decode cX3_moveTo 92 = .ok (.aload_n 0, 1) := by decide +kernel
theorem dX3_moveTo_93 : decode cX3_moveTo 93 = .ok (.getfield 25, 3) := by decide +kernel
theorem dX3_moveTo_96 : decode cX3_moveTo 96 = .ok (.iload_n 1, 1) := by decide +kernel
theorem dX3_moveTo_97 : decode cX3_moveTo 97 = .ok (.dup2, 1) := by decide +kernel
theorem dX3_moveTo_98 : decode cX3_moveTo 98 = .ok (.iaload, 1) := by decide +kernel
theorem dX3_moveTo_99 : decode cX3_moveTo 99 = .ok (.iload_n 2, 1) := by decide +kernel
theorem dX3_moveTo_100 : decode cX3_moveTo 100 = .ok (.iadd, 1) := by decide +kernel
theorem dX3_moveTo_101 : decode cX3_moveTo 101 = .ok (.iastore, 1) := by decide +kernel
theorem dX3_moveTo_102 : decode cX3_moveTo 102 = .ok (.return_, 1) := by decide +kernel
theorem dX4_init_0 : decode cX4_init 0 = .ok (.aload_n 0, 1) := by decide +kernel
theorem dX4_init_1 : decode cX4_init 1 = .ok (.invokespecial 3, 3) := by decide +kernel
theorem dX4_init_4 : decode cX4_init 4 = .ok (.aload_n 0, 1) := by decide +kernel
theorem dX4_init_5 : decode cX4_init 5 = .ok (.bipush 24, 2) := by decide +kernel
theorem dX4_init_7 : decode cX4_init 7 = .ok (.newarray .int, 2) := by decide +kernel
theorem dX4_init_9 : decode cX4_init 9 = .ok (.putfield 9, 3) := by decide +kernel
theorem dX4_init_12 : decode cX4_init 12 = .ok (.aload_n 0, 1) := by decide +kernel
theorem dX4_init_13 : decode cX4_init 13 = .ok (.bipush 24, 2) := by decide +kernel
theorem dX4_init_15 : decode cX4_init 15 = .ok (.newarray .int, 2) := by decide +kernel
theorem dX4_init_17 : decode cX4_init 17 = .ok (.putfield 15, 3) := by decide +kernel
theorem dX4_init_20 : decode cX4_init 20 = .ok (.aload_n 0, 1) := by decide +kernel
theorem dX4_init_21 : decode cX4_init 21 = .ok (.bipush 24, 2) := by decide +kernel
theorem dX4_init_23 : decode cX4_init 23 = .ok (.newarray .int, 2) := by decide +kernel
theorem dX4_init_25 : decode cX4_init 25 = .ok (.putfield 18, 3) := by decide +kernel
theorem dX4_init_28 : decode cX4_init 28 = .ok (.aload_n 0, 1) := by decide +kernel
theorem dX4_init_29 : decode cX4_init 29 = .ok (.bipush 24, 2) := by decide +kernel
theorem dX4_init_31 : decode cX4_init 31 = .ok (.newarray .int, 2) := by decide +kernel
theorem dX4_init_33 : decode cX4_init 33 = .ok (.putfield 21, 3) := by decide +kernel
theorem dX4_init_36 : decode cX4_init 36 = .ok (.aload_n 0, 1) := by decide +kernel
theorem dX4_init_37 : decode cX4_init 37 = .ok (.sipush 144, 3) := by decide +kernel
theorem dX4_init_40 : decode cX4_init 40 = .ok (.newarray .int, 2) := by decide +kernel
theorem dX4_init_42 : decode cX4_init 42 = .ok (.putfield 24, 3) := by decide +kernel
theorem dX4_init_45 : decode cX4_init 45 = .ok (.aload_n 0, 1) := by decide +kernel
theorem dX4_init_46 : decode cX4_init 46 = .ok (.iconst 0, 1) := by decide +kernel
theorem dX4_init_47 : decode cX4_init 47 = .ok (.putfield 27, 3) := by decide +kernel
theorem dX4_init_50 : decode cX4_init 50 = .ok (.aload_n 0, 1) := by decide +kernel
theorem dX4_init_51 : decode cX4_init 51 = .ok (.getfield 24, 3) := by decide +kernel
theorem dX4_init_54 : decode cX4_init 54 = .ok (.ldc 31, 2) := by decide +kernel
theorem dX4_init_56 : decode cX4_init 56 = .ok (.invokestatic 32, 3) := by decide +kernel
theorem dX4_init_59 : decode cX4_init 59 = .ok (.iconst 0, 1) := by decide +kernel
theorem dX4_init_60 : decode cX4_init 60 = .ok (.istore_n 1, 1) := by decide +kernel
theorem dX4_init_61 : decode cX4_init 61 = .ok (.iload_n 1, 1) := by decide +kernel
theorem dX4_init_62 : decode cX4_init 62 = .ok (.bipush 12, 2) := by decide +kernel
theorem dX4_init_64 : decode cX4_init 64 = .ok (.if_icmp .ge 21, 3) := by decide +kernel
theorem dX4_init_67 : decode cX4_init 67 = .ok (.aload_n 0, 1) := by decide +kernel
theorem dX4_init_68 : decode cX4_init 68 = .ok (.getfield 24, 3) := by decide +kernel
theorem dX4_init_71 : decode cX4_init 71 = .ok (.iload_n 1, 1) := by decide +kernel
theorem dX4_init_72 : decode cX4_init 72 = .ok (.bipush 12, 2) := by decide +kernel
theorem dX4_init_74 : decode cX4_init 74 = .ok (.imul, 1) := by decide +kernel
theorem dX4_init_75 : decode cX4_init 75 = .ok (.iload_n 1, 1) := by decide +kernel
theorem dX4_init_76 : decode cX4_init 76 = .ok (.iadd, 1) := by decide +kernel
theorem dX4_init_77 : decode cX4_init 77 = .ok (.iconst 0, 1) := by decide +kernel
theorem dX4_init_78 : decode cX4_init 78 = .ok (.iastore, 1) := by decide +kernel
theorem dX4_init_79 : decode cX4_init 79 = .ok (.iinc 1 1, 3) := by decide +kernel
theorem dX4_init_82 : decode cX4_init 82 = .ok (.goto (-21), 3) := by decide +kernel
theorem dX4_init_85 : decode cX4_init 85 = .ok (.return_, 1) := by decide +kernel
theorem dX4_addLine_0 : decode cX4_addLine 0 = .ok (.iload_n 1, 1) := by decide +kernel
theorem dX4_addLine_1 : decode cX4_addLine 1 = .ok (.invokestatic 38, 3) := by decide +kernel
theorem dX4_addLine_4 : decode cX4_addLine 4 = .ok (.ifCond .eq 22, 3) := by decide +kernel
theorem dX4_addLine_7 : decode cX4_addLine 7 = .ok (.iload_n 2, 1) := by decide +kernel
theorem dX4_addLine_8 : decode cX4_addLine 8 = .ok (.invokestatic 38, 3) := by decide +kernel
theorem dX4_addLine_11 : decode cX4_addLine 11 = .ok (.ifCond .eq 15, 3) := by decide +kernel
theorem dX4_addLine_14 : decode cX4_addLine 14 = .ok (.iload_n 1, 1) := by decide +kernel
theorem dX4_addLine_15 : decode cX4_addLine 15 = .ok (.iload_n 2, 1) := by decide +kernel
theorem dX4_addLine_16 : decode cX4_addLine 16 = .ok (.if_icmp .eq 10, 3) := by decide +kernel
theorem dX4_addLine_19 : decode cX4_addLine 19 = .ok (.iload_n 3, 1) := by decide +kernel
theorem dX4_addLine_20 : decode cX4_addLine 20 = .ok (.invokestatic 42, 3) := by decide +kernel
theorem dX4_addLine_23 : decode cX4_addLine 23 = .ok (.ifCond .ne 5, 3) := by decide +kernel
theorem dX4_addLine_26 : decode cX4_addLine 26 = .ok (.iconst (-1), 1) := by decide +kernel
theorem dX4_addLine_27 : decode cX4_addLine 27 = .ok (.ireturn, 1) := by decide +kernel
theorem dX4_addLine_28 : decode cX4_addLine 28 = .ok (.iload 4, 2) := by decide +kernel
theorem dX4_addLine_30 : decode cX4_addLine 30 = .ok (.iconst 1, 1) := by decide +kernel
theorem dX4_addLine_31 : decode cX4_addLine 31 = .ok (.sipush 200, 3) := by decide +kernel
theorem dX4_addLine_34 : decode cX4_addLine 34 = .ok (.invokestatic 45, 3) := by decide +kernel
theorem dX4_addLine_37 : decode cX4_addLine 37 = .ok (.ifCond .eq 12, 3) := by decide +kernel
theorem dX4_addLine_40 : decode cX4_addLine 40 = .ok (.aload_n 0, 1) := by decide +kernel
theorem dX4_addLine_41 : decode cX4_addLine 41 = .ok (.getfield 27, 3) := by decide +kernel
theorem dX4_addLine_44 : decode cX4_addLine 44 = .ok (.bipush 24, 2) := by decide +kernel
theorem dX4_addLine_46 : decode cX4_addLine 46 = .ok (.if_icmp .lt 5, 3) := by decide +kernel
theorem dX4_addLine_49 : decode cX4_addLine 49 = .ok (.iconst (-1), 1) := by decide +kernel
theorem dX4_addLine_50 : decode cX4_addLine 50 = .ok (.ireturn, 1) := by decide +kernel
theorem dX4_addLine_51 : decode cX4_addLine 51 = .ok (.aload_n 0, 1) := by decide +kernel
theorem dX4_addLine_52 : decode cX4_addLine 52 = .ok (.getfield 9, 3) := by decide +kernel
theorem dX4_addLine_55 : decode cX4_addLine 55 = .ok (.aload_n 0, 1) := by decide +kernel
theorem dX4_addLine_56 : decode cX4_addLine 56 = .ok (.getfield 27, 3) := by decide +kernel
theorem dX4_addLine_59 : decode cX4_addLine 59 = .ok (.iload_n 1, 1) := by decide +kernel
theorem dX4_addLine_60 : decode cX4_addLine 60 = .ok (.iastore, 1) := by decide +kernel
theorem dX4_addLine_61 : decode cX4_addLine 61 = .ok (.aload_n 0, 1) := by decide +kernel
theorem dX4_addLine_62 : decode cX4_addLine 62 = .ok (.getfield 15, 3) := by decide +kernel
theorem dX4_addLine_65 : decode cX4_addLine 65 = .ok (.aload_n 0, 1) := by decide +kernel
theorem dX4_addLine_66 : decode cX4_addLine 66 = .ok (.getfield 27, 3) := by decide +kernel
theorem dX4_addLine_69 : decode cX4_addLine 69 = .ok (.iload_n 2, 1) := by decide +kernel
theorem dX4_addLine_70 : decode cX4_addLine 70 = .ok (.iastore, 1) := by decide +kernel
theorem dX4_addLine_71 : decode cX4_addLine 71 = .ok (.aload_n 0, 1) := by decide +kernel
theorem dX4_addLine_72 : decode cX4_addLine 72 = .ok (.getfield 18, 3) := by decide +kernel
theorem dX4_addLine_75 : decode cX4_addLine 75 = .ok (.aload_n 0, 1) := by decide +kernel
theorem dX4_addLine_76 : decode cX4_addLine 76 = .ok (.getfield 27, 3) := by decide +kernel
theorem dX4_addLine_79 : decode cX4_addLine 79 = .ok (.iload_n 3, 1) := by decide +kernel
theorem dX4_addLine_80 : decode cX4_addLine 80 = .ok (.iastore, 1) := by decide +kernel
theorem dX4_addLine_81 : decode cX4_addLine 81 = .ok (.aload_n 0, 1) := by decide +kernel
theorem dX4_addLine_82 : decode cX4_addLine 82 = .ok (.getfield 21, 3) := by decide +kernel
theorem dX4_addLine_85 : decode cX4_addLine 85 = .ok (.aload_n 0, 1) := by decide +kernel
theorem dX4_addLine_86 : decode cX4_addLine 86 = .ok (.getfield 27, 3) := by decide +kernel
theorem dX4_addLine_89 : decode cX4_addLine 89 = .ok (.iload 4, 2) := by decide +kernel
theorem dX4_addLine_91 : decode cX4_addLine 91 = .ok (.iastore, 1) := by decide +kernel
theorem dX4_addLine_92 : decode cX4_addLine 92 = .ok (.aload_n 0, 1) := by decide +kernel
theorem dX4_addLine_93 : decode cX4_addLine 93 = .ok (.dup, 1) := by decide +kernel
theorem dX4_addLine_94 : decode cX4_addLine 94 = .ok (.getfield 27, 3) := by decide +kernel
theorem dX4_addLine_97 : decode cX4_addLine 97 = .ok (.iconst 1, 1) := by decide +kernel
theorem dX4_addLine_98 : decode cX4_addLine 98 = .ok (.iadd, 1) := by decide +kernel
theorem dX4_addLine_99 : decode cX4_addLine 99 = .ok (.putfield 27, 3) := by decide +kernel
theorem dX4_addLine_102 : decode cX4_addLine 102 = .ok (.aload_n 0, 1) := by decide +kernel
theorem dX4_addLine_103 : decode cX4_addLine 103 = .ok (.iload_n 1, 1) := by decide +kernel
theorem dX4_addLine_104 : decode cX4_addLine 104 = .ok (.iload_n 2, 1) := by decide +kernel
theorem dX4_addLine_105 : decode cX4_addLine 105 = .ok (.iload 4, 2) := by decide +kernel
theorem dX4_addLine_107 : decode cX4_addLine 107 = .ok (.invokevirtual 49, 3) := by decide +kernel
theorem dX4_addLine_110 : decode cX4_addLine 110 = .ok (.aload_n 0, 1) := by decide +kernel
theorem dX4_addLine_111 : decode cX4_addLine 111 = .ok (.iload_n 2, 1) := by decide +kernel
theorem dX4_addLine_112 : decode cX4_addLine 112 = .ok (.iload_n 1, 1) := by decide +kernel
theorem dX4_addLine_113 : decode cX4_addLine 113 = .ok (.iload 4, 2) := by decide +kernel
theorem dX4_addLine_115 : decode cX4_addLine 115 = .ok (.invokevirtual 49, 3) := by decide +kernel
theorem dX4_addLine_118 : decode cX4_addLine 118 = .ok (.aload_n 0, 1) := by decide +kernel
theorem dX4_addLine_119 : decode cX4_addLine 119 = .ok (.getfield 27, 3) := by decide +kernel
theorem dX4_addLine_122 : decode cX4_addLine 122 = .ok (.iconst 1, 1) := by decide +kernel
theorem dX4_addLine_123 : decode cX4_addLine 123 = .ok (.isub, 1) := by decide +kernel
theorem dX4_addLine_124 : decode cX4_addLine 124 = .ok (.ireturn, 1) := by decide +kernel
theorem dX4_shorten_0 : decode cX4_shorten 0 = .ok (.iconst 0, 1) := by decide +kernel
theorem dX4_shorten_1 : decode cX4_shorten 1 = .ok (.istore 4, 2) := by decide +kernel
theorem dX4_shorten_3 : decode cX4_shorten 3 = .ok (.iload 4, 2) := by decide +kernel
theorem dX4_shorten_5 : decode cX4_shorten 5 = .ok (.bipush 12, 2) := by decide +kernel
theorem dX4_shorten_7 : decode cX4_shorten 7 = .ok (.if_icmp .ge 83, 3) := by decide +kernel
theorem dX4_shorten_10 : decode cX4_shorten 10 = .ok (.iconst 0, 1) := by decide +kernel
theorem dX4_shorten_11 : decode cX4_shorten 11 = .ok (.istore 5, 2) := by decide +kernel
theorem dX4_shorten_13 : decode cX4_shorten 13 = .ok (.iload 5, 2) := by decide +kernel
theorem dX4_shorten_15 : decode cX4_shorten 15 = .ok (.bipush 12, 2) := by decide +kernel
theorem dX4_shorten_17 : decode cX4_shorten 17 = .ok (.if_icmp .ge 67, 3) := by decide +kernel
theorem dX4_shorten_20 : decode cX4_shorten 20 = .ok (.aload_n 0, 1) := by decide +kernel
theorem dX4_shorten_21 : decode cX4_shorten 21 = .ok (.getfield 24, 3) := by decide +kernel
theorem dX4_shorten_24 : decode cX4_shorten 24 = .ok (.iload 4, 2) := by decide +kernel
theorem dX4_shorten_26 : decode cX4_shorten 26 = .ok (.bipush 12, 2) := by decide +kernel
theorem dX4_shorten_28 : decode cX4_shorten 28 = .ok (.imul, 1) := by decide +kernel
theorem dX4_shorten_29 : decode cX4_shorten 29 = .ok (.iload_n 1, 1) := by decide +kernel
theorem dX4_shorten_30 : decode cX4_shorten 30 = .ok (.iadd, 1) := by decide +kernel
theorem dX4_shorten_31 : decode cX4_shorten 31 = .ok (.iaload, 1) := by decide +kernel
theorem dX4_shorten_32 : decode cX4_shorten 32 = .ok (.iload_n 3, 1) := by decide +kernel
theorem dX4_shorten_33 : decode cX4_shorten 33 = .ok (.iadd, 1) := by decide +kernel
theorem dX4_shorten_34 : decode cX4_shorten 34 = .ok (.aload_n 0, 1) := by decide +kernel
theorem dX4_shorten_35 : decode cX4_shorten 35 = .ok (.getfield 24, 3) := by decide +kernel
theorem dX4_shorten_38 : decode cX4_shorten 38 = .ok (.iload_n 2, 1) := by decide +kernel
theorem dX4_shorten_39 : decode cX4_shorten 39 = .ok (.bipush 12, 2) := by decide +kernel
theorem dX4_shorten_41 : decode cX4_shorten 41 = .ok (.imul, 1) := by decide +kernel
theorem dX4_shorten_42 : decode cX4_shorten 42 = .ok (.iload 5, 2) := by decide +kernel
theorem dX4_shorten_44 : decode cX4_shorten 44 = .ok (.iadd, 1) := by decide +kernel
theorem dX4_shorten_45 : decode cX4_shorten 45 = .ok (.iaload, 1) := by decide +kernel
theorem dX4_shorten_46 : decode cX4_shorten 46 = .ok (.iadd, 1) := by decide +kernel
theorem dX4_shorten_47 : decode cX4_shorten 47 = .ok (.istore 6, 2) := by decide +kernel
theorem dX4_shorten_49 : decode cX4_shorten 49 = .ok (.iload 4, 2) := by decide +kernel
theorem dX4_shorten_51 : decode cX4_shorten 51 = .ok (.bipush 12, 2) := by decide +kernel
theorem dX4_shorten_53 : decode cX4_shorten 53 = .ok (.imul, 1) := by decide +kernel
theorem dX4_shorten_54 : decode cX4_shorten 54 = .ok (.iload 5, 2) := by decide +kernel
theorem dX4_shorten_56 : decode cX4_shorten 56 = .ok (.iadd, 1) := by decide +kernel
theorem dX4_shorten_57 : decode cX4_shorten 57 = .ok (.istore 7, 2) := by decide +kernel
theorem dX4_shorten_59 : decode cX4_shorten 59 = .ok (.aload_n 0, 1) := by decide +kernel
theorem dX4_shorten_60 : decode cX4_shorten 60 = .ok (.getfield 24, 3) := by decide +kernel
theorem dX4_shorten_63 : decode cX4_shorten 63 = .ok (.iload 7, 2) := by decide +kernel
theorem dX4_shorten_65 : decode cX4_shorten 65 = .ok (.aload_n 0, 1) := by decide +kernel
theorem dX4_shorten_66 : decode cX4_shorten 66 = .ok (.getfield 24, 3) := by decide +kernel
theorem dX4_shorten_69 : decode cX4_shorten 69 = .ok (.iload 7, 2) := by decide +kernel
theorem dX4_shorten_71 : decode cX4_shorten 71 = .ok (.iaload, 1) := by decide +kernel
theorem dX4_shorten_72 : decode cX4_shorten 72 = .ok (.iload 6, 2) := by decide +kernel
theorem dX4_shorten_74 : decode cX4_shorten 74 = .ok (.invokestatic 53, 3) := by decide +kernel
theorem dX4_shorten_77 : decode cX4_shorten 77 = .ok (.iastore, 1) := by decide +kernel
theorem dX4_shorten_78 : decode cX4_shorten 78 = .ok (.iinc 5 1, 3) := by decide +kernel
theorem dX4_shorten_81 : decode cX4_shorten 81 = .ok (.goto (-68), 3) := by decide +kernel
theorem dX4_shorten_84 : decode cX4_shorten 84 = .ok (.iinc 4 1, 3) := by decide +kernel
theorem dX4_shorten_87 : decode cX4_shorten 87 = .ok (.goto (-84), 3) := by decide +kernel
theorem dX4_shorten_90 : decode cX4_shorten 90 = .ok (.return_, 1) := by decide +kernel
theorem dX4_milesBetween_0 : decode cX4_milesBetween 0 = .ok (.iload_n 1, 1) := by decide +kernel
theorem dX4_milesBetween_1 : decode cX4_milesBetween 1 = .ok (.invokestatic 38, 3) := by decide +kernel
theorem dX4_milesBetween_4 : decode cX4_milesBetween 4 = .ok (.ifCond .eq 10, 3) := by decide +kernel
theorem dX4_milesBetween_7 : decode cX4_milesBetween 7 = .ok (.iload_n 2, 1) := by decide +kernel
theorem dX4_milesBetween_8 : decode cX4_milesBetween 8 = .ok (.invokestatic 38, 3) := by decide +kernel
theorem dX4_milesBetween_11 : decode cX4_milesBetween 11 = .ok (.ifCond .ne 5, 3) := by decide +kernel
theorem dX4_milesBetween_14 : decode cX4_milesBetween 14 = .ok (.iconst (-1), 1) := by decide +kernel
theorem dX4_milesBetween_15 : decode cX4_milesBetween 15 = .ok (.ireturn, 1) := by decide +kernel
theorem dX4_milesBetween_16 : decode cX4_milesBetween 16 = .ok (.aload_n 0, 1) := by decide +kernel
theorem dX4_milesBetween_17 : decode cX4_milesBetween 17 = .ok (.getfield 24, 3) := by decide +kernel
theorem dX4_milesBetween_20 : decode cX4_milesBetween 20 = .ok (.iload_n 1, 1) := by decide +kernel
theorem dX4_milesBetween_21 : decode cX4_milesBetween 21 = .ok (.bipush 12, 2) := by decide +kernel
theorem dX4_milesBetween_23 : decode cX4_milesBetween 23 = .ok (.imul, 1) := by decide +kernel
theorem dX4_milesBetween_24 : decode cX4_milesBetween 24 = .ok (.iload_n 2, 1) := by decide +kernel
theorem dX4_milesBetween_25 : decode cX4_milesBetween 25 = .ok (.iadd, 1) := by decide +kernel
theorem dX4_milesBetween_26 : decode cX4_milesBetween 26 = .ok (.iaload, 1) := by decide +kernel
theorem dX4_milesBetween_27 : decode cX4_milesBetween 27 = .ok (.istore_n 3, 1) := by decide +kernel
theorem dX4_milesBetween_28 : decode cX4_milesBetween 28 = .ok (.iload_n 3, 1) := by decide +kernel
theorem dX4_milesBetween_29 : decode cX4_milesBetween 29 = .ok (.ldc 31, 2) := by decide +kernel
theorem dX4_milesBetween_31 : decode cX4_milesBetween 31 = .ok (.if_icmp .lt 7, 3) := by decide +kernel
theorem dX4_milesBetween_34 : decode cX4_milesBetween 34 = .ok (.iconst (-1), 1) := by decide +kernel
theorem dX4_milesBetween_35 : decode cX4_milesBetween 35 = .ok (.goto 4, 3) := by decide +kernel
theorem dX4_milesBetween_38 : decode cX4_milesBetween 38 = .ok (.iload_n 3, 1) := by decide +kernel
theorem dX4_milesBetween_39 : decode cX4_milesBetween 39 = .ok (.ireturn, 1) := by decide +kernel
theorem dX4_lineTowards_0 : decode cX4_lineTowards 0 = .ok (.aload_n 0, 1) := by decide +kernel
theorem dX4_lineTowards_1 : decode cX4_lineTowards 1 = .ok (.iload_n 1, 1) := by decide +kernel
theorem dX4_lineTowards_2 : decode cX4_lineTowards 2 = .ok (.iload_n 2, 1) := by decide +kernel
theorem dX4_lineTowards_3 : decode cX4_lineTowards 3 = .ok (.invokevirtual 59, 3) := by decide +kernel
theorem dX4_lineTowards_6 : decode cX4_lineTowards 6 = .ok (.istore_n 3, 1) := by decide +kernel
theorem dX4_lineTowards_7 : decode cX4_lineTowards 7 = .ok (.iload_n 3, 1) := by decide +kernel
theorem dX4_lineTowards_8 : decode cX4_lineTowards 8 = .ok (.iconst (-1), 1) := by decide +kernel
theorem dX4_lineTowards_9 : decode cX4_lineTowards 9 = .ok (.if_icmp .eq 8, 3) := by decide +kernel
theorem dX4_lineTowards_12 : decode cX4_lineTowards 12 = .ok (.iload_n 1, 1) := by decide +kernel
theorem dX4_lineTowards_13 : decode cX4_lineTowards 13 = .ok (.iload_n 2, 1) := by decide +kernel
theorem dX4_lineTowards_14 : decode cX4_lineTowards 14 = .ok (.if_icmp .ne 5, 3) := by decide +kernel
theorem dX4_lineTowards_17 : decode cX4_lineTowards 17 = .ok (.iconst (-1), 1) := by decide +kernel
theorem dX4_lineTowards_18 : decode cX4_lineTowards 18 = .ok (.ireturn, 1) := by decide +kernel
theorem dX4_lineTowards_19 : decode cX4_lineTowards 19 = .ok (.iconst (-1), 1) := by decide +kernel
theorem dX4_lineTowards_20 : decode cX4_lineTowards 20 = .ok (.istore 4, 2) := by decide +kernel
theorem dX4_lineTowards_22 : decode cX4_lineTowards 22 = .ok (.bipush 12, 2) := by decide +kernel
theorem dX4_lineTowards_24 : decode cX4_lineTowards 24 = .ok (.istore 5, 2) := by decide +kernel
theorem dX4_lineTowards_26 : decode cX4_lineTowards 26 = .ok (.iconst 0, 1) := by decide +kernel
theorem dX4_lineTowards_27 : decode cX4_lineTowards 27 = .ok (.istore 6, 2) := by decide +kernel
theorem dX4_lineTowards_29 : decode cX4_lineTowards 29 = .ok (.iload 6, 2) := by decide +kernel
theorem dX4_lineTowards_31 : decode cX4_lineTowards 31 = .ok (.aload_n 0, 1) := by decide +kernel
theorem dX4_lineTowards_32 : decode cX4_lineTowards 32 = .ok (.getfield 27, 3) := by decide +kernel
theorem dX4_lineTowards_35 : decode cX4_lineTowards 35 = .ok (.if_icmp .ge 63, 3) := by decide +kernel
theorem dX4_lineTowards_38 : decode cX4_lineTowards 38 = .ok (.aload_n 0, 1) := by decide +kernel
theorem dX4_lineTowards_39 : decode cX4_lineTowards 39 = .ok (.iload 6, 2) := by decide +kernel
theorem dX4_lineTowards_41 : decode cX4_lineTowards 41 = .ok (.iload_n 1, 1) := by decide +kernel
theorem dX4_lineTowards_42 : decode cX4_lineTowards 42 = .ok (.invokevirtual 62, 3) := by decide +kernel
theorem dX4_lineTowards_45 : decode cX4_lineTowards 45 = .ok (.istore 7, 2) := by decide +kernel
theorem dX4_lineTowards_47 : decode cX4_lineTowards 47 = .ok (.iload 7, 2) := by decide +kernel
theorem dX4_lineTowards_49 : decode cX4_lineTowards 49 = .ok (.iconst (-1), 1) := by decide +kernel
theorem dX4_lineTowards_50 : decode cX4_lineTowards 50 = .ok (.if_icmp .eq 42, 3) := by decide +kernel
theorem dX4_lineTowards_53 : decode cX4_lineTowards 53 = .ok (.iload 7, 2) := by decide +kernel
theorem dX4_lineTowards_55 : decode cX4_lineTowards 55 = .ok (.iload 5, 2) := by decide +kernel
theorem dX4_lineTowards_57 : decode cX4_lineTowards 57 = .ok (.if_icmp .ge 35, 3) := by decide +kernel
theorem dX4_lineTowards_60 : decode cX4_lineTowards 60 = .ok (.aload_n 0, 1) := by decide +kernel
theorem dX4_lineTowards_61 : decode cX4_lineTowards 61 = .ok (.getfield 21, 3) := by decide +kernel
theorem dX4_lineTowards_64 : decode cX4_lineTowards 64 = .ok (.iload 6, 2) := by decide +kernel
theorem dX4_lineTowards_66 : decode cX4_lineTowards 66 = .ok (.iaload, 1) := by decide +kernel
theorem dX4_lineTowards_67 : decode cX4_lineTowards 67 = .ok (.aload_n 0, 1) := by decide +kernel
theorem dX4_lineTowards_68 : decode cX4_lineTowards 68 = .ok (.getfield 24, 3) := by decide +kernel
theorem dX4_lineTowards_71 : decode cX4_lineTowards 71 = .ok (.iload 7, 2) := by decide +kernel
theorem dX4_lineTowards_73 : decode cX4_lineTowards 73 = .ok (.bipush 12, 2) := by decide +kernel
theorem dX4_lineTowards_75 : decode cX4_lineTowards 75 = .ok (.imul, 1) := by decide +kernel
theorem dX4_lineTowards_76 : decode cX4_lineTowards 76 = .ok (.iload_n 2, 1) := by decide +kernel
theorem dX4_lineTowards_77 : decode cX4_lineTowards 77 = .ok (.iadd, 1) := by decide +kernel
theorem dX4_lineTowards_78 : decode cX4_lineTowards 78 = .ok (.iaload, 1) := by decide +kernel
theorem dX4_lineTowards_79 : decode cX4_lineTowards 79 = .ok (.iadd, 1) := by decide +kernel
theorem dX4_lineTowards_80 : decode cX4_lineTowards 80 = .ok (.iload_n 3, 1) := by decide +kernel
theorem dX4_lineTowards_81 : decode cX4_lineTowards 81 = .ok (.if_icmp .ne 11, 3) := by decide +kernel
theorem dX4_lineTowards_84 : decode cX4_lineTowards 84 = .ok (.iload 6, 2) := by decide +kernel
theorem dX4_lineTowards_86 : decode cX4_lineTowards 86 = .ok (.istore 4, 2) := by decide +kernel
theorem dX4_lineTowards_88 : decode cX4_lineTowards 88 = .ok (.iload 7, 2) := by decide +kernel
theorem dX4_lineTowards_90 : decode cX4_lineTowards 90 = .ok (.istore 5, 2) := by decide +kernel
theorem dX4_lineTowards_92 : decode cX4_lineTowards 92 = .ok (.iinc 6 1, 3) := by decide +kernel
theorem dX4_lineTowards_95 : decode cX4_lineTowards 95 = .ok (.goto (-66), 3) := by decide +kernel
theorem dX4_lineTowards_98 : decode cX4_lineTowards 98 = .ok (.iload 4, 2) := by decide +kernel
theorem dX4_lineTowards_100 : decode cX4_lineTowards 100 = .ok (.ireturn, 1) := by decide +kernel
theorem dX4_farEnd_0 : decode cX4_farEnd 0 = .ok (.iload_n 1, 1) := by decide +kernel
theorem dX4_farEnd_1 : decode cX4_farEnd 1 = .ok (.ifCond .lt 11, 3) := by decide +kernel
theorem dX4_farEnd_4 : decode cX4_farEnd 4 = .ok (.iload_n 1, 1) := by decide +kernel
theorem dX4_farEnd_5 : decode cX4_farEnd 5 = .ok (.aload_n 0, 1) := by decide +kernel
theorem dX4_farEnd_6 : decode cX4_farEnd 6 = .ok (.getfield 27, 3) := by decide +kernel
theorem dX4_farEnd_9 : decode cX4_farEnd 9 = .ok (.if_icmp .lt 5, 3) := by decide +kernel
theorem dX4_farEnd_12 : decode cX4_farEnd 12 = .ok (.iconst (-1), 1) := by decide +kernel
theorem dX4_farEnd_13 : decode cX4_farEnd 13 = .ok (.ireturn, 1) := by decide +kernel
theorem dX4_farEnd_14 : decode cX4_farEnd 14 = .ok (.aload_n 0, 1) := by decide +kernel
theorem dX4_farEnd_15 : decode cX4_farEnd 15 = .ok (.getfield 9, 3) := by decide +kernel
theorem dX4_farEnd_18 : decode cX4_farEnd 18 = .ok (.iload_n 1, 1) := by decide +kernel
theorem dX4_farEnd_19 : decode cX4_farEnd 19 = .ok (.iaload, 1) := by decide +kernel
theorem dX4_farEnd_20 : decode cX4_farEnd 20 = .ok (.iload_n 2, 1) := by decide +kernel
theorem dX4_farEnd_21 : decode cX4_farEnd 21 = .ok (.if_icmp .ne 10, 3) := by decide +kernel
theorem dX4_farEnd_24 : decode cX4_farEnd 24 = .ok (.aload_n 0, 1) := by decide +kernel
theorem dX4_farEnd_25 : decode cX4_farEnd 25 = .ok (.getfield 15, 3) := by decide +kernel
theorem dX4_farEnd_28 : decode cX4_farEnd 28 = .ok (.iload_n 1, 1) := by decide +kernel
theorem dX4_farEnd_29 : decode cX4_farEnd 29 = .ok (.iaload, 1) := by decide +kernel
theorem dX4_farEnd_30 : decode cX4_farEnd 30 = .ok (.ireturn, 1) := by decide +kernel
theorem dX4_farEnd_31 : decode cX4_farEnd 31 = .ok (.aload_n 0, 1) := by decide +kernel
theorem dX4_farEnd_32 : decode cX4_farEnd 32 = .ok (.getfield 15, 3) := by decide +kernel
theorem dX4_farEnd_35 : decode cX4_farEnd 35 = .ok (.iload_n 1, 1) := by decide +kernel
theorem dX4_farEnd_36 : decode cX4_farEnd 36 = .ok (.iaload, 1) := by decide +kernel
theorem dX4_farEnd_37 : decode cX4_farEnd 37 = .ok (.iload_n 2, 1) := by decide +kernel
theorem dX4_farEnd_38 : decode cX4_farEnd 38 = .ok (.if_icmp .ne 12, 3) := by decide +kernel
theorem dX4_farEnd_41 : decode cX4_farEnd 41 = .ok (.aload_n 0, 1) := by decide +kernel
theorem dX4_farEnd_42 : decode cX4_farEnd 42 = .ok (.getfield 9, 3) := by decide +kernel
theorem dX4_farEnd_45 : decode cX4_farEnd 45 = .ok (.iload_n 1, 1) := by decide +kernel
theorem dX4_farEnd_46 : decode cX4_farEnd 46 = .ok (.iaload, 1) := by decide +kernel
theorem dX4_farEnd_47 : decode cX4_farEnd 47 = .ok (.goto 4, 3) := by decide +kernel
theorem dX4_farEnd_50 : decode cX4_farEnd 50 = .ok (.iconst (-1), 1) := by decide +kernel
theorem dX4_farEnd_51 : decode cX4_farEnd 51 = .ok (.ireturn, 1) := by decide +kernel
theorem dX5_init_0 : decode cX5_init 0 = .ok (.aload_n 0, 1) := by decide +kernel
theorem dX5_init_1 : decode cX5_init 1 = .ok (.invokespecial 3, 3) := by decide +kernel
theorem dX5_init_4 : decode cX5_init 4 = .ok (.aload_n 0, 1) := by decide +kernel
theorem dX5_init_5 : decode cX5_init 5 = .ok (.bipush 8, 2) := by decide +kernel
theorem dX5_init_7 : decode cX5_init 7 = .ok (.newarray .int, 2) := by decide +kernel
theorem dX5_init_9 : decode cX5_init 9 = .ok (.putfield 9, 3) := by decide +kernel
theorem dX5_init_12 : decode cX5_init 12 = .ok (.aload_n 0, 1) := by decide +kernel
theorem dX5_init_13 : decode cX5_init 13 = .ok (.bipush 8, 2) := by decide +kernel
theorem dX5_init_15 : decode cX5_init 15 = .ok (.newarray .int, 2) := by decide +kernel
theorem dX5_init_17 : decode cX5_init 17 = .ok (.putfield 15, 3) := by decide +kernel
theorem dX5_init_20 : decode cX5_init 20 = .ok (.aload_n 0, 1) := by decide +kernel
theorem dX5_init_21 : decode cX5_init 21 = .ok (.bipush 8, 2) := by decide +kernel
theorem dX5_init_23 : decode cX5_init 23 = .ok (.newarray .int, 2) := by decide +kernel
theorem dX5_init_25 : decode cX5_init 25 = .ok (.putfield 18, 3) := by decide +kernel
theorem dX5_init_28 : decode cX5_init 28 = .ok (.aload_n 0, 1) := by decide +kernel
theorem dX5_init_29 : decode cX5_init 29 = .ok (.iconst (-1), 1) := by decide +kernel
theorem dX5_init_30 : decode cX5_init 30 = .ok (.putfield 21, 3) := by decide +kernel
theorem dX5_init_33 : decode cX5_init 33 = .ok (.aload_n 0, 1) := by decide +kernel
theorem dX5_init_34 : decode cX5_init 34 = .ok (.iconst (-1), 1) := by decide +kernel
theorem dX5_init_35 : decode cX5_init 35 = .ok (.putfield 25, 3) := by decide +kernel
theorem dX5_init_38 : decode cX5_init 38 = .ok (.aload_n 0, 1) := by decide +kernel
theorem dX5_init_39 : decode cX5_init 39 = .ok (.aload_n 1, 1) := by decide +kernel
theorem dX5_init_40 : decode cX5_init 40 = .ok (.putfield 28, 3) := by decide +kernel
theorem dX5_init_43 : decode cX5_init 43 = .ok (.return_, 1) := by decide +kernel
theorem dX5_divide_0 : decode cX5_divide 0 = .ok (.iload_n 3, 1) := by decide +kernel
theorem dX5_divide_1 : decode cX5_divide 1 = .ok (.iconst 0, 1) := by decide +kernel
theorem dX5_divide_2 : decode cX5_divide 2 = .ok (.ldc 32, 2) := by decide +kernel
theorem dX5_divide_4 : decode cX5_divide 4 = .ok (.invokestatic 33, 3) := by decide +kernel
theorem dX5_divide_7 : decode cX5_divide 7 = .ok (.ifCond .eq 12, 3) := by decide +kernel
theorem dX5_divide_10 : decode cX5_divide 10 = .ok (.aload_n 0, 1) := by decide +kernel
theorem dX5_divide_11 : decode cX5_divide 11 = .ok (.iload_n 1, 1) := by decide +kernel
theorem dX5_divide_12 : decode cX5_divide 12 = .ok (.iload_n 2, 1) := by decide +kernel
theorem dX5_divide_13 : decode cX5_divide 13 = .ok (.invokevirtual 37, 3) := by decide +kernel
theorem dX5_divide_16 : decode cX5_divide 16 = .ok (.ifCond .ne 5, 3) := by decide +kernel
theorem dX5_divide_19 : decode cX5_divide 19 = .ok (.iconst 0, 1) := by decide +kernel
theorem dX5_divide_20 : decode cX5_divide 20 = .ok (.ireturn, 1) := by decide +kernel
theorem dX5_divide_21 : decode cX5_divide 21 = .ok (.iload_n 3, 1) := by decide +kernel
theorem dX5_divide_22 : decode cX5_divide 22 = .ok (.bipush 10, 2) := by decide +kernel
theorem dX5_divide_24 : decode cX5_divide 24 = .ok (.idiv, 1) := by decide +kernel
theorem dX5_divide_25 : decode cX5_divide 25 = .ok (.istore 4, 2) := by decide +kernel
theorem dX5_divide_27 : decode cX5_divide 27 = .ok (.aload_n 0, 1) := by decide +kernel
theorem dX5_divide_28 : decode cX5_divide 28 = .ok (.iload_n 3, 1) := by decide +kernel
theorem dX5_divide_29 : decode cX5_divide 29 = .ok (.iconst 2, 1) := by decide +kernel
theorem dX5_divide_30 : decode cX5_divide 30 = .ok (.iload 4, 2) := by decide +kernel
theorem dX5_divide_32 : decode cX5_divide 32 = .ok (.imul, 1) := by decide +kernel
theorem dX5_divide_33 : decode cX5_divide 33 = .ok (.isub, 1) := by decide +kernel
theorem dX5_divide_34 : decode cX5_divide 34 = .ok (.invokevirtual 41, 3) := by decide +kernel
theorem dX5_divide_37 : decode cX5_divide 37 = .ok (.ifCond .ne 5, 3) := by decide +kernel
theorem dX5_divide_40 : decode cX5_divide 40 = .ok (.iconst 0, 1) := by decide +kernel
theorem dX5_divide_41 : decode cX5_divide 41 = .ok (.ireturn, 1) := by decide +kernel
theorem dX5_divide_42 : decode cX5_divide 42 = .ok (.aload_n 0, 1) := by decide +kernel
theorem dX5_divide_43 : decode cX5_divide 43 = .ok (.getfield 9, 3) := by decide +kernel
theorem dX5_divide_46 : decode cX5_divide 46 = .ok (.aload_n 0, 1) := by decide +kernel
theorem dX5_divide_47 : decode cX5_divide 47 = .ok (.getfield 21, 3) := by decide +kernel
theorem dX5_divide_50 : decode cX5_divide 50 = .ok (.dup2, 1) := by decide +kernel
theorem dX5_divide_51 : decode cX5_divide 51 = .ok (.iaload, 1) := by decide +kernel
theorem dX5_divide_52 : decode cX5_divide 52 = .ok (.iload 4, 2) := by decide +kernel
theorem dX5_divide_54 : decode cX5_divide 54 = .ok (.iadd, 1) := by decide +kernel
theorem dX5_divide_55 : decode cX5_divide 55 = .ok (.iastore, 1) := by decide +kernel
theorem dX5_divide_56 : decode cX5_divide 56 = .ok (.aload_n 0, 1) := by decide +kernel
theorem dX5_divide_57 : decode cX5_divide 57 = .ok (.getfield 9, 3) := by decide +kernel
theorem dX5_divide_60 : decode cX5_divide 60 = .ok (.aload_n 0, 1) := by decide +kernel
theorem dX5_divide_61 : decode cX5_divide 61 = .ok (.getfield 25, 3) := by decide +kernel
theorem dX5_divide_64 : decode cX5_divide 64 = .ok (.dup2, 1) := by decide +kernel
theorem dX5_divide_65 : decode cX5_divide 65 = .ok (.iaload, 1) := by decide +kernel
theorem dX5_divide_66 : decode cX5_divide 66 = .ok (.iload 4, 2) := by decide +kernel
theorem dX5_divide_68 : decode cX5_divide 68 = .ok (.iadd, 1) := by decide +kernel
theorem dX5_divide_69 : decode cX5_divide 69 = .ok (.iastore, 1) := by decide +kernel
theorem dX5_divide_70 : decode cX5_divide 70 = .ok (.iconst 1, 1) := by decide +kernel
theorem dX5_divide_71 : decode cX5_divide 71 = .ok (.ireturn, 1) := by decide +kernel
theorem dX5_travel_0 : decode cX5_travel 0 = .ok (.aload_n 0, 1) := by decide +kernel
theorem dX5_travel_1 : decode cX5_travel 1 = .ok (.getfield 15, 3) := by decide +kernel
theorem dX5_travel_4 : decode cX5_travel 4 = .ok (.iconst 0, 1) := by decide +kernel
theorem dX5_travel_5 : decode cX5_travel 5 = .ok (.invokestatic 45, 3) := by decide +kernel
theorem dX5_travel_8 : decode cX5_travel 8 = .ok (.aload_n 0, 1) := by decide +kernel
theorem dX5_travel_9 : decode cX5_travel 9 = .ok (.iconst (-1), 1) := by decide +kernel
theorem dX5_travel_10 : decode cX5_travel 10 = .ok (.putfield 21, 3) := by decide +kernel
theorem dX5_travel_13 : decode cX5_travel 13 = .ok (.aload_n 0, 1) := by decide +kernel
theorem dX5_travel_14 : decode cX5_travel 14 = .ok (.iconst (-1), 1) := by decide +kernel
theorem dX5_travel_15 : decode cX5_travel 15 = .ok (.putfield 25, 3) := by decide +kernel
theorem dX5_travel_18 : decode cX5_travel 18 = .ok (.iload_n 1, 1) := by decide +kernel
theorem dX5_travel_19 : decode cX5_travel 19 = .ok (.istore_n 3, 1) := by decide +kernel
theorem dX5_travel_20 : decode cX5_travel 20 = .ok (.iconst 0, 1) := by decide +kernel
theorem dX5_travel_21 : decode cX5_travel 21 = .ok (.istore 4, 2) := by decide +kernel
theorem dX5_travel_23 : decode cX5_travel 23 = .ok (.iload 4, 2) := by decide +kernel
theorem dX5_travel_25 : decode cX5_travel 25 = .ok (.bipush 12, 2) := by decide +kernel
theorem dX5_travel_27 : decode cX5_travel 27 = .ok (.if_icmp .ge 93, 3) := by decide +kernel
theorem dX5_travel_30 : decode cX5_travel 30 = .ok (.iload_n 3, 1) := by decide +kernel
theorem dX5_travel_31 : decode cX5_travel 31 = .ok (.iload_n 2, 1) := by decide +kernel
theorem dX5_travel_32 : decode cX5_travel 32 = .ok (.if_icmp .eq 88, 3) := by decide +kernel
theorem dX5_travel_35 : decode cX5_travel 35 = .ok (.aload_n 0, 1) := by decide +kernel
theorem dX5_travel_36 : decode cX5_travel 36 = .ok (.getfield 28, 3) := by decide +kernel
theorem dX5_travel_39 : decode cX5_travel 39 = .ok (.iload_n 3, 1) := by decide +kernel
theorem dX5_travel_40 : decode cX5_travel 40 = .ok (.iload_n 2, 1) := by decide +kernel
theorem dX5_travel_41 : decode cX5_travel 41 = .ok (.invokevirtual 51, 3) := by decide +kernel
theorem dX5_travel_44 : decode cX5_travel 44 = .ok (.istore 5, 2) := by decide +kernel
theorem dX5_travel_46 : decode cX5_travel 46 = .ok (.iload 5, 2) := by decide +kernel
theorem dX5_travel_48 : decode cX5_travel 48 = .ok (.iconst (-1), 1) := by decide +kernel
theorem dX5_travel_49 : decode cX5_travel 49 = .ok (.if_icmp .ne 5, 3) := by decide +kernel
theorem dX5_travel_52 : decode cX5_travel 52 = .ok (.iconst 0, 1) := by decide +kernel
theorem dX5_travel_53 : decode cX5_travel 53 = .ok (.ireturn, 1) := by decide +kernel
theorem dX5_travel_54 : decode cX5_travel 54 = .ok (.aload_n 0, 1) := by decide +kernel
theorem dX5_travel_55 : decode cX5_travel 55 = .ok (.aload_n 0, 1) := by decide +kernel
theorem dX5_travel_56 : decode cX5_travel 56 = .ok (.getfield 28, 3) := by decide +kernel
theorem dX5_travel_59 : decode cX5_travel 59 = .ok (.getfield 57, 3) := by decide +kernel
theorem dX5_travel_62 : decode cX5_travel 62 = .ok (.iload 5, 2) := by decide +kernel
theorem dX5_travel_64 : decode cX5_travel 64 = .ok (.iaload, 1) := by decide +kernel
theorem dX5_travel_65 : decode cX5_travel 65 = .ok (.putfield 25, 3) := by decide +kernel
theorem dX5_travel_68 : decode cX5_travel 68 = .ok (.iload 4, 2) := by decide +kernel
theorem dX5_travel_70 : decode cX5_travel 70 = .ok (.ifCond .ne 11, 3) := by decide +kernel
theorem dX5_travel_73 : decode cX5_travel 73 = .ok (.aload_n 0, 1) := by decide +kernel
theorem dX5_travel_74 : decode cX5_travel 74 = .ok (.aload_n 0, 1) := by decide +kernel
theorem dX5_travel_75 : decode cX5_travel 75 = .ok (.getfield 25, 3) := by decide +kernel
theorem dX5_travel_78 : decode cX5_travel 78 = .ok (.putfield 21, 3) := by decide +kernel
theorem dX5_travel_81 : decode cX5_travel 81 = .ok (.aload_n 0, 1) := by decide +kernel
theorem dX5_travel_82 : decode cX5_travel 82 = .ok (.getfield 15, 3) := by decide +kernel
theorem dX5_travel_85 : decode cX5_travel 85 = .ok (.aload_n 0, 1) := by decide +kernel
theorem dX5_travel_86 : decode cX5_travel 86 = .ok (.getfield 25, 3) := by decide +kernel
theorem dX5_travel_89 : decode cX5_travel 89 = .ok (.dup2, 1) := by decide +kernel
theorem dX5_travel_90 : decode cX5_travel 90 = .ok (.iaload, 1) := by decide +kernel
theorem dX5_travel_91 : decode cX5_travel 91 = .ok (.aload_n 0, 1) := by decide +kernel
theorem dX5_travel_92 : decode cX5_travel 92 = .ok (.getfield 28, 3) := by decide +kernel
theorem dX5_travel_95 : decode cX5_travel 95 = .ok (.getfield 60, 3) := by decide +kernel
theorem dX5_travel_98 : decode cX5_travel 98 = .ok (.iload 5, 2) := by decide +kernel
theorem dX5_travel_100 : decode cX5_travel 100 = .ok (.iaload, 1) := by decide +kernel
theorem dX5_travel_101 : decode cX5_travel 101 = .ok (.iadd, 1) := by decide +kernel
theorem dX5_travel_102 : decode cX5_travel 102 = .ok (.iastore, 1) := by decide +kernel
theorem dX5_travel_103 : decode cX5_travel 103 = .ok (.aload_n 0, 1) := by decide +kernel
theorem dX5_travel_104 : decode cX5_travel 104 = .ok (.getfield 28, 3) := by decide +kernel
theorem dX5_travel_107 : decode cX5_travel 107 = .ok (.iload 5, 2) := by decide +kernel
theorem dX5_travel_109 : decode cX5_travel 109 = .ok (.iload_n 3, 1) := by decide +kernel
theorem dX5_travel_110 : decode cX5_travel 110 = .ok (.invokevirtual 63, 3) := by decide +kernel
theorem dX5_travel_113 : decode cX5_travel 113 = .ok (.istore_n 3, 1) := by decide +kernel
theorem dX5_travel_114 : decode cX5_travel 114 = .ok (.iinc 4 1, 3) := by decide +kernel
theorem dX5_travel_117 : decode cX5_travel 117 = .ok (.goto (-94), 3) := by decide +kernel
theorem dX5_travel_120 : decode cX5_travel 120 = .ok (.aload_n 0, 1) := by decide +kernel
theorem dX5_travel_121 : decode cX5_travel 121 = .ok (.getfield 21, 3) := by decide +kernel
theorem dX5_travel_124 : decode cX5_travel 124 = .ok (.invokestatic 66, 3) := by decide +kernel
theorem dX5_travel_127 : decode cX5_travel 127 = .ok (.ifCond .eq 22, 3) := by decide +kernel
theorem dX5_travel_130 : decode cX5_travel 130 = .ok (.aload_n 0, 1) := by decide +kernel
theorem dX5_travel_131 : decode cX5_travel 131 = .ok (.getfield 25, 3) := by decide +kernel
theorem dX5_travel_134 : decode cX5_travel 134 = .ok (.invokestatic 66, 3) := by decide +kernel
theorem dX5_travel_137 : decode cX5_travel 137 = .ok (.ifCond .eq 12, 3) := by decide +kernel
theorem dX5_travel_140 : decode cX5_travel 140 = .ok (.iload_n 3, 1) := by decide +kernel
theorem dX5_travel_141 : decode cX5_travel 141 = .ok (.iload_n 2, 1) := by decide +kernel
theorem dX5_travel_142 : decode cX5_travel 142 = .ok (.if_icmp .ne 7, 3) := by decide +kernel
theorem dX5_travel_145 : decode cX5_travel 145 = .ok (.iconst 1, 1) := by decide +kernel
theorem dX5_travel_146 : decode cX5_travel 146 = .ok (.goto 4, 3) := by decide +kernel
theorem dX5_travel_149 : decode cX5_travel 149 = .ok (.iconst 0, 1) := by decide +kernel
theorem dX5_travel_150 : decode cX5_travel 150 = .ok (.ireturn, 1) := by decide +kernel
theorem dX5_divideByMiles_0 : decode cX5_divideByMiles 0 = .ok (.aload_n 0, 1) := by decide +kernel
theorem dX5_divideByMiles_1 : decode cX5_divideByMiles 1 = .ok (.getfield 15, 3) := by decide +kernel
theorem dX5_divideByMiles_4 : decode cX5_divideByMiles 4 = .ok (.invokestatic 69, 3) := by decide +kernel
theorem dX5_divideByMiles_7 : decode cX5_divideByMiles 7 = .ok (.istore_n 2, 1) := by decide +kernel
theorem dX5_divideByMiles_8 : decode cX5_divideByMiles 8 = .ok (.iload_n 2, 1) := by decide +kernel
theorem dX5_divideByMiles_9 : decode cX5_divideByMiles 9 = .ok (.ifCond .gt 5, 3) := by decide +kernel
theorem dX5_divideByMiles_12 : decode cX5_divideByMiles 12 = .ok (.iconst 0, 1) := by decide +kernel
theorem dX5_divideByMiles_13 : decode cX5_divideByMiles 13 = .ok (.ireturn, 1) := by decide +kernel
theorem dX5_divideByMiles_14 : decode cX5_divideByMiles 14 = .ok (.iload_n 1, 1) := by decide +kernel
theorem dX5_divideByMiles_15 : decode cX5_divideByMiles 15 = .ok (.istore_n 3, 1) := by decide +kernel
theorem dX5_divideByMiles_16 : decode cX5_divideByMiles 16 = .ok (.iconst 0, 1) := by decide +kernel
theorem dX5_divideByMiles_17 : decode cX5_divideByMiles 17 = .ok (.istore 4, 2) := by decide +kernel
theorem dX5_divideByMiles_19 : decode cX5_divideByMiles 19 = .ok (.iload 4, 2) := by decide +kernel
theorem dX5_divideByMiles_21 : decode cX5_divideByMiles 21 = .ok (.bipush 8, 2) := by decide +kernel
theorem dX5_divideByMiles_23 : decode cX5_divideByMiles 23 = .ok (.if_icmp .ge 58, 3) := by decide +kernel
theorem dX5_divideByMiles_26 : decode cX5_divideByMiles 26 = .ok (.iload_n 1, 1) := by decide +kernel
theorem dX5_divideByMiles_27 : decode cX5_divideByMiles 27 = .ok (.i2l, 1) := by decide +kernel
theorem dX5_divideByMiles_28 : decode cX5_divideByMiles 28 = .ok (.aload_n 0, 1) := by decide +kernel
theorem dX5_divideByMiles_29 : decode cX5_divideByMiles 29 = .ok (.getfield 15, 3) := by decide +kernel
theorem dX5_divideByMiles_32 : decode cX5_divideByMiles 32 = .ok (.iload 4, 2) := by decide +kernel
theorem dX5_divideByMiles_34 : decode cX5_divideByMiles 34 = .ok (.iaload, 1) := by decide +kernel
theorem dX5_divideByMiles_35 : decode cX5_divideByMiles 35 = .ok (.i2l, 1) := by decide +kernel
theorem dX5_divideByMiles_36 : decode cX5_divideByMiles 36 = .ok (.lmul, 1) := by decide +kernel
theorem dX5_divideByMiles_37 : decode cX5_divideByMiles 37 = .ok (.lstore 5, 2) := by decide +kernel
theorem dX5_divideByMiles_39 : decode cX5_divideByMiles 39 = .ok (.aload_n 0, 1) := by decide +kernel
theorem dX5_divideByMiles_40 : decode cX5_divideByMiles 40 = .ok (.getfield 9, 3) := by decide +kernel
theorem dX5_divideByMiles_43 : decode cX5_divideByMiles 43 = .ok (.iload 4, 2) := by decide +kernel
theorem dX5_divideByMiles_45 : decode cX5_divideByMiles 45 = .ok (.lload 5, 2) := by decide +kernel
theorem dX5_divideByMiles_47 : decode cX5_divideByMiles 47 = .ok (.iload_n 2, 1) := by decide +kernel
theorem dX5_divideByMiles_48 : decode cX5_divideByMiles 48 = .ok (.i2l, 1) := by decide +kernel
theorem dX5_divideByMiles_49 : decode cX5_divideByMiles 49 = .ok (.ldiv, 1) := by decide +kernel
theorem dX5_divideByMiles_50 : decode cX5_divideByMiles 50 = .ok (.l2i, 1) := by decide +kernel
theorem dX5_divideByMiles_51 : decode cX5_divideByMiles 51 = .ok (.iastore, 1) := by decide +kernel
theorem dX5_divideByMiles_52 : decode cX5_divideByMiles 52 = .ok (.aload_n 0, 1) := by decide +kernel
theorem dX5_divideByMiles_53 : decode cX5_divideByMiles 53 = .ok (.getfield 18, 3) := by decide +kernel
theorem dX5_divideByMiles_56 : decode cX5_divideByMiles 56 = .ok (.iload 4, 2) := by decide +kernel
theorem dX5_divideByMiles_58 : decode cX5_divideByMiles 58 = .ok (.lload 5, 2) := by decide +kernel
theorem dX5_divideByMiles_60 : decode cX5_divideByMiles 60 = .ok (.iload_n 2, 1) := by decide +kernel
theorem dX5_divideByMiles_61 : decode cX5_divideByMiles 61 = .ok (.i2l, 1) := by decide +kernel
theorem dX5_divideByMiles_62 : decode cX5_divideByMiles 62 = .ok (.lrem, 1) := by decide +kernel
theorem dX5_divideByMiles_63 : decode cX5_divideByMiles 63 = .ok (.l2i, 1) := by decide +kernel
theorem dX5_divideByMiles_64 : decode cX5_divideByMiles 64 = .ok (.iastore, 1) := by decide +kernel
theorem dX5_divideByMiles_65 : decode cX5_divideByMiles 65 = .ok (.iload_n 3, 1) := by decide +kernel
theorem dX5_divideByMiles_66 : decode cX5_divideByMiles 66 = .ok (.aload_n 0, 1) := by decide +kernel
theorem dX5_divideByMiles_67 : decode cX5_divideByMiles 67 = .ok (.getfield 9, 3) := by decide +kernel
theorem dX5_divideByMiles_70 : decode cX5_divideByMiles 70 = .ok (.iload 4, 2) := by decide +kernel
theorem dX5_divideByMiles_72 : decode cX5_divideByMiles 72 = .ok (.iaload, 1) := by decide +kernel
theorem dX5_divideByMiles_73 : decode cX5_divideByMiles 73 = .ok (.isub, 1) := by decide +kernel
theorem dX5_divideByMiles_74 : decode cX5_divideByMiles 74 = .ok (.istore_n 3, 1) := by decide +kernel
theorem dX5_divideByMiles_75 : decode cX5_divideByMiles 75 = .ok (.iinc 4 1, 3) := by decide +kernel
theorem dX5_divideByMiles_78 : decode cX5_divideByMiles 78 = .ok (.goto (-59), 3) := by decide +kernel
theorem dX5_divideByMiles_81 : decode cX5_divideByMiles 81 = .ok (.iconst 0, 1) := by decide +kernel
theorem dX5_divideByMiles_82 : decode cX5_divideByMiles 82 = .ok (.istore 4, 2) := by decide +kernel
theorem dX5_divideByMiles_84 : decode cX5_divideByMiles 84 = .ok (.iload 4, 2) := by decide +kernel
theorem dX5_divideByMiles_86 : decode cX5_divideByMiles 86 = .ok (.bipush 8, 2) := by decide +kernel
theorem dX5_divideByMiles_88 : decode cX5_divideByMiles 88 = .ok (.if_icmp .ge 19, 3) := by decide +kernel
theorem dX5_divideByMiles_91 : decode cX5_divideByMiles 91 = .ok (.iload 4, 2) := by decide +kernel
theorem dX5_divideByMiles_93 : decode cX5_divideByMiles 93 = .ok (.iload_n 3, 1) := by decide +kernel
theorem dX5_divideByMiles_94 : decode cX5_divideByMiles 94 = .ok (.if_icmp .ge 13, 3) := by decide +kernel
theorem dX5_divideByMiles_97 : decode cX5_divideByMiles 97 = .ok (.aload_n 0, 1) := by decide +kernel
theorem dX5_divideByMiles_98 : decode cX5_divideByMiles 98 = .ok (.invokevirtual 73, 3) := by decide +kernel
theorem dX5_divideByMiles_101 : decode cX5_divideByMiles 101 = .ok (.iinc 4 1, 3) := by decide +kernel
theorem dX5_divideByMiles_104 : decode cX5_divideByMiles 104 = .ok (.goto (-20), 3) := by decide +kernel
theorem dX5_divideByMiles_107 : decode cX5_divideByMiles 107 = .ok (.iconst 1, 1) := by decide +kernel
theorem dX5_divideByMiles_108 : decode cX5_divideByMiles 108 = .ok (.ireturn, 1) := by decide +kernel
theorem dX5_giveOneMore_0 : decode cX5_giveOneMore 0 = .ok (.iconst 0, 1) := by decide +kernel
theorem dX5_giveOneMore_1 : decode cX5_giveOneMore 1 = .ok (.istore_n 1, 1) := by decide +kernel
theorem dX5_giveOneMore_2 : decode cX5_giveOneMore 2 = .ok (.iconst 1, 1) := by decide +kernel
theorem dX5_giveOneMore_3 : decode cX5_giveOneMore 3 = .ok (.istore_n 2, 1) := by decide +kernel
theorem dX5_giveOneMore_4 : decode cX5_giveOneMore 4 = .ok (.iload_n 2, 1) := by decide +kernel
theorem dX5_giveOneMore_5 : decode cX5_giveOneMore 5 = .ok (.bipush 8, 2) := by decide +kernel
theorem dX5_giveOneMore_7 : decode cX5_giveOneMore 7 = .ok (.if_icmp .ge 26, 3) := by decide +kernel
theorem dX5_giveOneMore_10 : decode cX5_giveOneMore 10 = .ok (.aload_n 0, 1) := by decide +kernel
theorem dX5_giveOneMore_11 : decode cX5_giveOneMore 11 = .ok (.getfield 18, 3) := by decide +kernel
theorem dX5_giveOneMore_14 : decode cX5_giveOneMore 14 = .ok (.iload_n 2, 1) := by decide +kernel
theorem dX5_giveOneMore_15 : decode cX5_giveOneMore 15 = .ok (.iaload, 1) := by decide +kernel
theorem dX5_giveOneMore_16 : decode cX5_giveOneMore 16 = .ok (.aload_n 0, 1) := by decide +kernel
theorem dX5_giveOneMore_17 : decode cX5_giveOneMore 17 = .ok (.getfield 18, 3) := by decide +kernel
theorem dX5_giveOneMore_20 : decode cX5_giveOneMore 20 = .ok (.iload_n 1, 1) := by decide +kernel
theorem dX5_giveOneMore_21 : decode cX5_giveOneMore 21 = .ok (.iaload, 1) := by decide +kernel
theorem dX5_giveOneMore_22 : decode cX5_giveOneMore 22 = .ok (.if_icmp .le 5, 3) := by decide +kernel
theorem dX5_giveOneMore_25 : decode cX5_giveOneMore 25 = .ok (.iload_n 2, 1) := by decide +kernel
theorem dX5_giveOneMore_26 : decode cX5_giveOneMore 26 = .ok (.istore_n 1, 1) := by decide +kernel
theorem dX5_giveOneMore_27 : decode cX5_giveOneMore 27 = .ok (.iinc 2 1, 3) := by decide +kernel
theorem dX5_giveOneMore_30 : decode cX5_giveOneMore 30 = .ok (.goto (-26), 3) := by decide +kernel
theorem dX5_giveOneMore_33 : decode cX5_giveOneMore 33 = .ok (.aload_n 0, 1) := by decide +kernel
theorem dX5_giveOneMore_34 : decode cX5_giveOneMore 34 = .ok (.getfield 9, 3) := by decide +kernel
theorem dX5_giveOneMore_37 : decode cX5_giveOneMore 37 = .ok (.iload_n 1, 1) := by decide +kernel
theorem dX5_giveOneMore_38 : decode cX5_giveOneMore 38 = .ok (.dup2, 1) := by decide +kernel
theorem dX5_giveOneMore_39 : decode cX5_giveOneMore 39 = .ok (.iaload, 1) := by decide +kernel
theorem dX5_giveOneMore_40 : decode cX5_giveOneMore 40 = .ok (.iconst 1, 1) := by decide +kernel
theorem dX5_giveOneMore_41 : decode cX5_giveOneMore 41 = .ok (.iadd, 1) := by decide +kernel
theorem dX5_giveOneMore_42 : decode cX5_giveOneMore 42 = .ok (.iastore, 1) := by decide +kernel
theorem dX5_giveOneMore_43 : decode cX5_giveOneMore 43 = .ok (.aload_n 0, 1) := by decide +kernel
theorem dX5_giveOneMore_44 : decode cX5_giveOneMore 44 = .ok (.getfield 18, 3) := by decide +kernel
theorem dX5_giveOneMore_47 : decode cX5_giveOneMore 47 = .ok (.iload_n 1, 1) := by decide +kernel
theorem dX5_giveOneMore_48 : decode cX5_giveOneMore 48 = .ok (.iconst (-1), 1) := by decide +kernel
theorem dX5_giveOneMore_49 : decode cX5_giveOneMore 49 = .ok (.iastore, 1) := by decide +kernel
theorem dX5_giveOneMore_50 : decode cX5_giveOneMore 50 = .ok (.return_, 1) := by decide +kernel
theorem dX6_init_0 : decode cX6_init 0 = .ok (.aload_n 0, 1) := by decide +kernel
theorem dX6_init_1 : decode cX6_init 1 = .ok (.invokespecial 3, 3) := by decide +kernel
theorem dX6_init_4 : decode cX6_init 4 = .ok (.aload_n 0, 1) := by decide +kernel
theorem dX6_init_5 : decode cX6_init 5 = .ok (.iconst 4, 1) := by decide +kernel
theorem dX6_init_6 : decode cX6_init 6 = .ok (.newarray .int, 2) := by decide +kernel
theorem dX6_init_8 : decode cX6_init 8 = .ok (.putfield 9, 3) := by decide +kernel
theorem dX6_init_11 : decode cX6_init 11 = .ok (.aload_n 0, 1) := by decide +kernel
theorem dX6_init_12 : decode cX6_init 12 = .ok (.iconst 4, 1) := by decide +kernel
theorem dX6_init_13 : decode cX6_init 13 = .ok (.newarray .int, 2) := by decide +kernel
theorem dX6_init_15 : decode cX6_init 15 = .ok (.putfield 15, 3) := by decide +kernel
theorem dX6_init_18 : decode cX6_init 18 = .ok (.aload_n 0, 1) := by decide +kernel
theorem dX6_init_19 : decode cX6_init 19 = .ok (.iconst 0, 1) := by decide +kernel
theorem dX6_init_20 : decode cX6_init 20 = .ok (.putfield 18, 3) := by decide +kernel
theorem dX6_init_23 : decode cX6_init 23 = .ok (.aload_n 0, 1) := by decide +kernel
theorem dX6_init_24 : decode cX6_init 24 = .ok (.bipush 7, 2) := by decide +kernel
theorem dX6_init_26 : decode cX6_init 26 = .ok (.newarray .int, 2) := by decide +kernel
theorem dX6_init_28 : decode cX6_init 28 = .ok (.putfield 22, 3) := by decide +kernel
theorem dX6_init_31 : decode cX6_init 31 = .ok (.aload_n 0, 1) := by decide +kernel
theorem dX6_init_32 : decode cX6_init 32 = .ok (.bipush 7, 2) := by decide +kernel
theorem dX6_init_34 : decode cX6_init 34 = .ok (.newarray .int, 2) := by decide +kernel
theorem dX6_init_36 : decode cX6_init 36 = .ok (.putfield 25, 3) := by decide +kernel
theorem dX6_init_39 : decode cX6_init 39 = .ok (.aload_n 0, 1) := by decide +kernel
theorem dX6_init_40 : decode cX6_init 40 = .ok (.bipush 7, 2) := by decide +kernel
theorem dX6_init_42 : decode cX6_init 42 = .ok (.newarray .int, 2) := by decide +kernel
theorem dX6_init_44 : decode cX6_init 44 = .ok (.putfield 28, 3) := by decide +kernel
theorem dX6_init_47 : decode cX6_init 47 = .ok (.aload_n 0, 1) := by decide +kernel
theorem dX6_init_48 : decode cX6_init 48 = .ok (.bipush 7, 2) := by decide +kernel
theorem dX6_init_50 : decode cX6_init 50 = .ok (.newarray .int, 2) := by decide +kernel
theorem dX6_init_52 : decode cX6_init 52 = .ok (.putfield 31, 3) := by decide +kernel
theorem dX6_init_55 : decode cX6_init 55 = .ok (.aload_n 0, 1) := by decide +kernel
theorem dX6_init_56 : decode cX6_init 56 = .ok (.iconst 0, 1) := by decide +kernel
theorem dX6_init_57 : decode cX6_init 57 = .ok (.putfield 34, 3) := by decide +kernel
theorem dX6_init_60 : decode cX6_init 60 = .ok (.return_, 1) := by decide +kernel
theorem dX6_addWagon_0 : decode cX6_addWagon 0 = .ok (.iload_n 1, 1) := by decide +kernel
theorem dX6_addWagon_1 : decode cX6_addWagon 1 = .ok (.invokestatic 37, 3) := by decide +kernel
theorem dX6_addWagon_4 : decode cX6_addWagon 4 = .ok (.ifCond .eq 18, 3) := by decide +kernel
theorem dX6_addWagon_7 : decode cX6_addWagon 7 = .ok (.iload_n 2, 1) := by decide +kernel
theorem dX6_addWagon_8 : decode cX6_addWagon 8 = .ok (.invokestatic 41, 3) := by decide +kernel
theorem dX6_addWagon_11 : decode cX6_addWagon 11 = .ok (.ifCond .eq 11, 3) := by decide +kernel
theorem dX6_addWagon_14 : decode cX6_addWagon 14 = .ok (.aload_n 0, 1) := by decide +kernel
theorem dX6_addWagon_15 : decode cX6_addWagon 15 = .ok (.getfield 18, 3) := by decide +kernel
theorem dX6_addWagon_18 : decode cX6_addWagon 18 = .ok (.iconst 4, 1) := by decide +kernel
theorem dX6_addWagon_19 : decode cX6_addWagon 19 = .ok (.if_icmp .lt 5, 3) := by decide +kernel
theorem dX6_addWagon_22 : decode cX6_addWagon 22 = .ok (.iconst (-1), 1) := by decide +kernel
theorem dX6_addWagon_23 : decode cX6_addWagon 23 = .ok (.ireturn, 1) := by decide +kernel
theorem dX6_addWagon_24 : decode cX6_addWagon 24 = .ok (.iconst 0, 1) := by decide +kernel
theorem dX6_addWagon_25 : decode cX6_addWagon 25 = .ok (.istore_n 3, 1) := by decide +kernel
theorem dX6_addWagon_26 : decode cX6_addWagon 26 = .ok (.iload_n 3, 1) := by decide +kernel
theorem dX6_addWagon_27 : decode cX6_addWagon 27 = .ok (.aload_n 0, 1) := by decide +kernel
theorem dX6_addWagon_28 : decode cX6_addWagon 28 = .ok (.getfield 18, 3) := by decide +kernel
theorem dX6_addWagon_31 : decode cX6_addWagon 31 = .ok (.if_icmp .ge 21, 3) := by decide +kernel
theorem dX6_addWagon_34 : decode cX6_addWagon 34 = .ok (.aload_n 0, 1) := by decide +kernel
theorem dX6_addWagon_35 : decode cX6_addWagon 35 = .ok (.getfield 9, 3) := by decide +kernel
theorem dX6_addWagon_38 : decode cX6_addWagon 38 = .ok (.iload_n 3, 1) := by decide +kernel
theorem dX6_addWagon_39 : decode cX6_addWagon 39 = .ok (.iaload, 1) := by decide +kernel
theorem dX6_addWagon_40 : decode cX6_addWagon 40 = .ok (.iload_n 1, 1) := by decide +kernel
theorem dX6_addWagon_41 : decode cX6_addWagon 41 = .ok (.if_icmp .ne 5, 3) := by decide +kernel
theorem dX6_addWagon_44 : decode cX6_addWagon 44 = .ok (.iconst (-1), 1) := by decide +kernel
theorem dX6_addWagon_45 : decode cX6_addWagon 45 = .ok (.ireturn, 1) := by decide +kernel
theorem dX6_addWagon_46 : decode cX6_addWagon 46 = .ok (.iinc 3 1, 3) := by decide +kernel
theorem dX6_addWagon_49 : decode cX6_addWagon 49 = .ok (.goto (-23), 3) := by decide +kernel
theorem dX6_addWagon_52 : decode cX6_addWagon 52 = .ok (.aload_n 0, 1) := by decide +kernel
theorem dX6_addWagon_53 : decode cX6_addWagon 53 = .ok (.getfield 9, 3) := by decide +kernel
theorem dX6_addWagon_56 : decode cX6_addWagon 56 = .ok (.aload_n 0, 1) := by decide +kernel
theorem dX6_addWagon_57 : decode cX6_addWagon 57 = .ok (.getfield 18, 3) := by decide +kernel
theorem dX6_addWagon_60 : decode cX6_addWagon 60 = .ok (.iload_n 1, 1) := by decide +kernel
theorem dX6_addWagon_61 : decode cX6_addWagon 61 = .ok (.iastore, 1) := by decide +kernel
theorem dX6_addWagon_62 : decode cX6_addWagon 62 = .ok (.aload_n 0, 1) := by decide +kernel
theorem dX6_addWagon_63 : decode cX6_addWagon 63 = .ok (.getfield 15, 3) := by decide +kernel
theorem dX6_addWagon_66 : decode cX6_addWagon 66 = .ok (.aload_n 0, 1) := by decide +kernel
theorem dX6_addWagon_67 : decode cX6_addWagon 67 = .ok (.getfield 18, 3) := by decide +kernel
theorem dX6_addWagon_70 : decode cX6_addWagon 70 = .ok (.iload_n 2, 1) := by decide +kernel
theorem dX6_addWagon_71 : decode cX6_addWagon 71 = .ok (.iastore, 1) := by decide +kernel
theorem dX6_addWagon_72 : decode cX6_addWagon 72 = .ok (.aload_n 0, 1) := by decide +kernel
theorem dX6_addWagon_73 : decode cX6_addWagon 73 = .ok (.dup, 1) := by decide +kernel
theorem dX6_addWagon_74 : decode cX6_addWagon 74 = .ok (.getfield 18, 3) := by decide +kernel
theorem dX6_addWagon_77 : decode cX6_addWagon 77 = .ok (.iconst 1, 1) := by decide +kernel
theorem dX6_addWagon_78 : decode cX6_addWagon 78 = .ok (.iadd, 1) := by decide +kernel
theorem dX6_addWagon_79 : decode cX6_addWagon 79 = .ok (.putfield 18, 3) := by decide +kernel
theorem dX6_addWagon_82 : decode cX6_addWagon 82 = .ok (.aload_n 0, 1) := by decide +kernel
theorem dX6_addWagon_83 : decode cX6_addWagon 83 = .ok (.getfield 18, 3) := by decide +kernel
theorem dX6_addWagon_86 : decode cX6_addWagon 86 = .ok (.iconst 1, 1) := by decide +kernel
theorem dX6_addWagon_87 : decode cX6_addWagon 87 = .ok (.isub, 1) := by decide +kernel
theorem dX6_addWagon_88 : decode cX6_addWagon 88 = .ok (.ireturn, 1) := by decide +kernel
theorem dX6_addSight_0 : decode cX6_addSight 0 = .ok (.iload_n 1, 1) := by decide +kernel
theorem dX6_addSight_1 : decode cX6_addSight 1 = .ok (.invokestatic 37, 3) := by decide +kernel
theorem dX6_addSight_4 : decode cX6_addSight 4 = .ok (.ifCond .eq 18, 3) := by decide +kernel
theorem dX6_addSight_7 : decode cX6_addSight 7 = .ok (.iload_n 2, 1) := by decide +kernel
theorem dX6_addSight_8 : decode cX6_addSight 8 = .ok (.invokestatic 44, 3) := by decide +kernel
theorem dX6_addSight_11 : decode cX6_addSight 11 = .ok (.ifCond .eq 11, 3) := by decide +kernel
theorem dX6_addSight_14 : decode cX6_addSight 14 = .ok (.iload 4, 2) := by decide +kernel
theorem dX6_addSight_16 : decode cX6_addSight 16 = .ok (.invokestatic 41, 3) := by decide +kernel
theorem dX6_addSight_19 : decode cX6_addSight 19 = .ok (.ifCond .ne 5, 3) := by decide +kernel
theorem dX6_addSight_22 : decode cX6_addSight 22 = .ok (.iconst (-1), 1) := by decide +kernel
theorem dX6_addSight_23 : decode cX6_addSight 23 = .ok (.ireturn, 1) := by decide +kernel
theorem dX6_addSight_24 : decode cX6_addSight 24 = .ok (.iload_n 3, 1) := by decide +kernel
theorem dX6_addSight_25 : decode cX6_addSight 25 = .ok (.iconst 0, 1) := by decide +kernel
theorem dX6_addSight_26 : decode cX6_addSight 26 = .ok (.sipush 999, 3) := by decide +kernel
theorem dX6_addSight_29 : decode cX6_addSight 29 = .ok (.invokestatic 47, 3) := by decide +kernel
theorem dX6_addSight_32 : decode cX6_addSight 32 = .ok (.ifCond .eq 12, 3) := by decide +kernel
theorem dX6_addSight_35 : decode cX6_addSight 35 = .ok (.aload_n 0, 1) := by decide +kernel
theorem dX6_addSight_36 : decode cX6_addSight 36 = .ok (.getfield 34, 3) := by decide +kernel
theorem dX6_addSight_39 : decode cX6_addSight 39 = .ok (.bipush 7, 2) := by decide +kernel
theorem dX6_addSight_41 : decode cX6_addSight 41 = .ok (.if_icmp .lt 5, 3) := by decide +kernel
theorem dX6_addSight_44 : decode cX6_addSight 44 = .ok (.iconst (-1), 1) := by decide +kernel
theorem dX6_addSight_45 : decode cX6_addSight 45 = .ok (.ireturn, 1) := by decide +kernel
theorem dX6_addSight_46 : decode cX6_addSight 46 = .ok (.aload_n 0, 1) := by decide +kernel
theorem dX6_addSight_47 : decode cX6_addSight 47 = .ok (.getfield 34, 3) := by decide +kernel
theorem dX6_addSight_50 : decode cX6_addSight 50 = .ok (.ifCond .le 20, 3) := by decide +kernel
theorem dX6_addSight_53 : decode cX6_addSight 53 = .ok (.iload_n 3, 1) := by decide +kernel
theorem dX6_addSight_54 : decode cX6_addSight 54 = .ok (.aload_n 0, 1) := by decide +kernel
theorem dX6_addSight_55 : decode cX6_addSight 55 = .ok (.getfield 28, 3) := by decide +kernel
theorem dX6_addSight_58 : decode cX6_addSight 58 = .ok (.aload_n 0, 1) := by decide +kernel
theorem dX6_addSight_59 : decode cX6_addSight 59 = .ok (.getfield 34, 3) := by decide +kernel
theorem dX6_addSight_62 : decode cX6_addSight 62 = .ok (.iconst 1, 1) := by decide +kernel
theorem dX6_addSight_63 : decode cX6_addSight 63 = .ok (.isub, 1) := by decide +kernel
theorem dX6_addSight_64 : decode cX6_addSight 64 = .ok (.iaload, 1) := by decide +kernel
theorem dX6_addSight_65 : decode cX6_addSight 65 = .ok (.if_icmp .ge 5, 3) := by decide +kernel
theorem dX6_addSight_68 : decode cX6_addSight 68 = .ok (.iconst (-1), 1) := by decide +kernel
theorem dX6_addSight_69 : decode cX6_addSight 69 = .ok (.ireturn, 1) := by decide +kernel
theorem dX6_addSight_70 : decode cX6_addSight 70 = .ok (.aload_n 0, 1) := by decide +kernel
theorem dX6_addSight_71 : decode cX6_addSight 71 = .ok (.getfield 22, 3) := by decide +kernel
theorem dX6_addSight_74 : decode cX6_addSight 74 = .ok (.aload_n 0, 1) := by decide +kernel
theorem dX6_addSight_75 : decode cX6_addSight 75 = .ok (.getfield 34, 3) := by decide +kernel
theorem dX6_addSight_78 : decode cX6_addSight 78 = .ok (.iload_n 1, 1) := by decide +kernel
theorem dX6_addSight_79 : decode cX6_addSight 79 = .ok (.iastore, 1) := by decide +kernel
theorem dX6_addSight_80 : decode cX6_addSight 80 = .ok (.aload_n 0, 1) := by decide +kernel
theorem dX6_addSight_81 : decode cX6_addSight 81 = .ok (.getfield 25, 3) := by decide +kernel
theorem dX6_addSight_84 : decode cX6_addSight 84 = .ok (.aload_n 0, 1) := by decide +kernel
theorem dX6_addSight_85 : decode cX6_addSight 85 = .ok (.getfield 34, 3) := by decide +kernel
theorem dX6_addSight_88 : decode cX6_addSight 88 = .ok (.iload_n 2, 1) := by decide +kernel
theorem dX6_addSight_89 : decode cX6_addSight 89 = .ok (.iastore, 1) := by decide +kernel
theorem dX6_addSight_90 : decode cX6_addSight 90 = .ok (.aload_n 0, 1) := by decide +kernel
theorem dX6_addSight_91 : decode cX6_addSight 91 = .ok (.getfield 28, 3) := by decide +kernel
theorem dX6_addSight_94 : decode cX6_addSight 94 = .ok (.aload_n 0, 1) := by decide +kernel
theorem dX6_addSight_95 : decode cX6_addSight 95 = .ok (.getfield 34, 3) := by decide +kernel
theorem dX6_addSight_98 : decode cX6_addSight 98 = .ok (.iload_n 3, 1) := by decide +kernel
theorem dX6_addSight_99 : decode cX6_addSight 99 = .ok (.iastore, 1) := by decide +kernel
theorem dX6_addSight_100 : decode cX6_addSight 100 = .ok (.aload_n 0, 1) := by decide +kernel
theorem dX6_addSight_101 : decode cX6_addSight 101 = .ok (.getfield 31, 3) := by decide +kernel
theorem dX6_addSight_104 : decode cX6_addSight 104 = .ok (.aload_n 0, 1) := by decide +kernel
theorem dX6_addSight_105 : decode cX6_addSight 105 = .ok (.getfield 34, 3) := by decide +kernel
theorem dX6_addSight_108 : decode cX6_addSight 108 = .ok (.iload 4, 2) := by decide +kernel
theorem dX6_addSight_110 : decode cX6_addSight 110 = .ok (.iastore, 1) := by decide +kernel
theorem dX6_addSight_111 : decode cX6_addSight 111 = .ok (.aload_n 0, 1) := by decide +kernel
theorem dX6_addSight_112 : decode cX6_addSight 112 = .ok (.dup, 1) := by decide +kernel
theorem dX6_addSight_113 : decode cX6_addSight 113 = .ok (.getfield 34, 3) := by decide +kernel
theorem dX6_addSight_116 : decode cX6_addSight 116 = .ok (.iconst 1, 1) := by decide +kernel
theorem dX6_addSight_117 : decode cX6_addSight 117 = .ok (.iadd, 1) := by decide +kernel
theorem dX6_addSight_118 : decode cX6_addSight 118 = .ok (.putfield 34, 3) := by decide +kernel
theorem dX6_addSight_121 : decode cX6_addSight 121 = .ok (.aload_n 0, 1) := by decide +kernel
theorem dX6_addSight_122 : decode cX6_addSight 122 = .ok (.getfield 34, 3) := by decide +kernel
theorem dX6_addSight_125 : decode cX6_addSight 125 = .ok (.iconst 1, 1) := by decide +kernel
theorem dX6_addSight_126 : decode cX6_addSight 126 = .ok (.isub, 1) := by decide +kernel
theorem dX6_addSight_127 : decode cX6_addSight 127 = .ok (.ireturn, 1) := by decide +kernel
theorem dX6_hasWagon_0 : decode cX6_hasWagon 0 = .ok (.iload_n 1, 1) := by decide +kernel
theorem dX6_hasWagon_1 : decode cX6_hasWagon 1 = .ok (.ifCond .lt 15, 3) := by decide +kernel
theorem dX6_hasWagon_4 : decode cX6_hasWagon 4 = .ok (.iload_n 1, 1) := by decide +kernel
theorem dX6_hasWagon_5 : decode cX6_hasWagon 5 = .ok (.aload_n 0, 1) := by decide +kernel
theorem dX6_hasWagon_6 : decode cX6_hasWagon 6 = .ok (.getfield 18, 3) := by decide +kernel
theorem dX6_hasWagon_9 : decode cX6_hasWagon 9 = .ok (.if_icmp .ge 7, 3) := by decide +kernel
theorem dX6_hasWagon_12 : decode cX6_hasWagon 12 = .ok (.iconst 1, 1) := by decide +kernel
theorem dX6_hasWagon_13 : decode cX6_hasWagon 13 = .ok (.goto 4, 3) := by decide +kernel
theorem dX6_hasWagon_16 : decode cX6_hasWagon 16 = .ok (.iconst 0, 1) := by decide +kernel
theorem dX6_hasWagon_17 : decode cX6_hasWagon 17 = .ok (.ireturn, 1) := by decide +kernel
theorem dX6_hasSight_0 : decode cX6_hasSight 0 = .ok (.iload_n 1, 1) := by decide +kernel
theorem dX6_hasSight_1 : decode cX6_hasSight 1 = .ok (.ifCond .lt 15, 3) := by decide +kernel
theorem dX6_hasSight_4 : decode cX6_hasSight 4 = .ok (.iload_n 1, 1) := by decide +kernel
theorem dX6_hasSight_5 : decode cX6_hasSight 5 = .ok (.aload_n 0, 1) := by decide +kernel
theorem dX6_hasSight_6 : decode cX6_hasSight 6 = .ok (.getfield 34, 3) := by decide +kernel
theorem dX6_hasSight_9 : decode cX6_hasSight 9 = .ok (.if_icmp .ge 7, 3) := by decide +kernel
theorem dX6_hasSight_12 : decode cX6_hasSight 12 = .ok (.iconst 1, 1) := by decide +kernel
theorem dX6_hasSight_13 : decode cX6_hasSight 13 = .ok (.goto 4, 3) := by decide +kernel
theorem dX6_hasSight_16 : decode cX6_hasSight 16 = .ok (.iconst 0, 1) := by decide +kernel
theorem dX6_hasSight_17 : decode cX6_hasSight 17 = .ok (.ireturn, 1) := by decide +kernel
theorem dX6_errorOf_0 : decode cX6_errorOf 0 = .ok (.aload_n 0, 1) := by decide +kernel
theorem dX6_errorOf_1 : decode cX6_errorOf 1 = .ok (.iload_n 1, 1) := by decide +kernel
theorem dX6_errorOf_2 : decode cX6_errorOf 2 = .ok (.invokevirtual 51, 3) := by decide +kernel
theorem dX6_errorOf_5 : decode cX6_errorOf 5 = .ok (.ifCond .eq 11, 3) := by decide +kernel
theorem dX6_errorOf_8 : decode cX6_errorOf 8 = .ok (.aload_n 0, 1) := by decide +kernel
theorem dX6_errorOf_9 : decode cX6_errorOf 9 = .ok (.iload_n 2, 1) := by decide +kernel
theorem dX6_errorOf_10 : decode cX6_errorOf 10 = .ok (.invokevirtual 54, 3) := by decide +kernel
theorem dX6_errorOf_13 : decode cX6_errorOf 13 = .ok (.ifCond .ne 5, 3) := by decide +kernel
theorem dX6_errorOf_16 : decode cX6_errorOf 16 = .ok (.iconst (-1), 1) := by decide +kernel
theorem dX6_errorOf_17 : decode cX6_errorOf 17 = .ok (.ireturn, 1) := by decide +kernel
theorem dX6_errorOf_18 : decode cX6_errorOf 18 = .ok (.aload_n 0, 1) := by decide +kernel
theorem dX6_errorOf_19 : decode cX6_errorOf 19 = .ok (.getfield 22, 3) := by decide +kernel
theorem dX6_errorOf_22 : decode cX6_errorOf 22 = .ok (.iload_n 1, 1) := by decide +kernel
theorem dX6_errorOf_23 : decode cX6_errorOf 23 = .ok (.iaload, 1) := by decide +kernel
theorem dX6_errorOf_24 : decode cX6_errorOf 24 = .ok (.aload_n 0, 1) := by decide +kernel
theorem dX6_errorOf_25 : decode cX6_errorOf 25 = .ok (.getfield 9, 3) := by decide +kernel
theorem dX6_errorOf_28 : decode cX6_errorOf 28 = .ok (.iload_n 2, 1) := by decide +kernel
theorem dX6_errorOf_29 : decode cX6_errorOf 29 = .ok (.iaload, 1) := by decide +kernel
theorem dX6_errorOf_30 : decode cX6_errorOf 30 = .ok (.invokestatic 57, 3) := by decide +kernel
theorem dX6_errorOf_33 : decode cX6_errorOf 33 = .ok (.ireturn, 1) := by decide +kernel
theorem dX6_difference_0 : decode cX6_difference 0 = .ok (.iconst 0, 1) := by decide +kernel
theorem dX6_difference_1 : decode cX6_difference 1 = .ok (.istore_n 2, 1) := by decide +kernel
theorem dX6_difference_2 : decode cX6_difference 2 = .ok (.iconst 0, 1) := by decide +kernel
theorem dX6_difference_3 : decode cX6_difference 3 = .ok (.istore_n 3, 1) := by decide +kernel
theorem dX6_difference_4 : decode cX6_difference 4 = .ok (.iconst (-1), 1) := by decide +kernel
theorem dX6_difference_5 : decode cX6_difference 5 = .ok (.istore 4, 2) := by decide +kernel
theorem dX6_difference_7 : decode cX6_difference 7 = .ok (.iconst (-1), 1) := by decide +kernel
theorem dX6_difference_8 : decode cX6_difference 8 = .ok (.istore 5, 2) := by decide +kernel
theorem dX6_difference_10 : decode cX6_difference 10 = .ok (.iload_n 0, 1) := by decide +kernel
theorem dX6_difference_11 : decode cX6_difference 11 = .ok (.istore 6, 2) := by decide +kernel
theorem dX6_difference_13 : decode cX6_difference 13 = .ok (.iload_n 1, 1) := by decide +kernel
theorem dX6_difference_14 : decode cX6_difference 14 = .ok (.istore 7, 2) := by decide +kernel
theorem dX6_difference_16 : decode cX6_difference 16 = .ok (.iconst 0, 1) := by decide +kernel
theorem dX6_difference_17 : decode cX6_difference 17 = .ok (.istore 8, 2) := by decide +kernel
theorem dX6_difference_19 : decode cX6_difference 19 = .ok (.iload 8, 2) := by decide +kernel
theorem dX6_difference_21 : decode cX6_difference 21 = .ok (.iconst 5, 1) := by decide +kernel
theorem dX6_difference_22 : decode cX6_difference 22 = .ok (.if_icmp .ge 79, 3) := by decide +kernel
theorem dX6_difference_25 : decode cX6_difference 25 = .ok (.iload 6, 2) := by decide +kernel
theorem dX6_difference_27 : decode cX6_difference 27 = .ok (.bipush 10, 2) := by decide +kernel
theorem dX6_difference_29 : decode cX6_difference 29 = .ok (.irem, 1) := by decide +kernel
theorem dX6_difference_30 : decode cX6_difference 30 = .ok (.istore 9, 2) := by decide +kernel
theorem dX6_difference_32 : decode cX6_difference 32 = .ok (.iload 7, 2) := by decide +kernel
theorem dX6_difference_34 : decode cX6_difference 34 = .ok (.bipush 10, 2) := by decide +kernel
theorem dX6_difference_36 : decode cX6_difference 36 = .ok (.irem, 1) := by decide +kernel
theorem dX6_difference_37 : decode cX6_difference 37 = .ok (.istore 10, 2) := by decide +kernel
theorem dX6_difference_39 : decode cX6_difference 39 = .ok (.iload 9, 2) := by decide +kernel
theorem dX6_difference_41 : decode cX6_difference 41 = .ok (.iload 10, 2) := by decide +kernel
theorem dX6_difference_43 : decode cX6_difference 43 = .ok (.if_icmp .eq 30, 3) := by decide +kernel
theorem dX6_difference_46 : decode cX6_difference 46 = .ok (.iinc 2 1, 3) := by decide +kernel
theorem dX6_difference_49 : decode cX6_difference 49 = .ok (.iload_n 3, 1) := by decide +kernel
theorem dX6_difference_50 : decode cX6_difference 50 = .ok (.ifCond .ne 17, 3) := by decide +kernel
theorem dX6_difference_53 : decode cX6_difference 53 = .ok (.iload 9, 2) := by decide +kernel
theorem dX6_difference_55 : decode cX6_difference 55 = .ok (.iload 5, 2) := by decide +kernel
theorem dX6_difference_57 : decode cX6_difference 57 = .ok (.if_icmp .ne 14, 3) := by decide +kernel
theorem dX6_difference_60 : decode cX6_difference 60 = .ok (.iload 10, 2) := by decide +kernel
theorem dX6_difference_62 : decode cX6_difference 62 = .ok (.iload 4, 2) := by decide +kernel
theorem dX6_difference_64 : decode cX6_difference 64 = .ok (.if_icmp .ne 7, 3) := by decide +kernel
theorem dX6_difference_67 : decode cX6_difference 67 = .ok (.iconst 1, 1) := by decide +kernel
theorem dX6_difference_68 : decode cX6_difference 68 = .ok (.goto 4, 3) := by decide +kernel
theorem dX6_difference_71 : decode cX6_difference 71 = .ok (.iconst 0, 1) := by decide +kernel
theorem dX6_difference_72 : decode cX6_difference 72 = .ok (.istore_n 3, 1) := by decide +kernel
theorem dX6_difference_73 : decode cX6_difference 73 = .ok (.iload 9, 2) := by decide +kernel
theorem dX6_difference_75 : decode cX6_difference 75 = .ok (.istore 4, 2) := by decide +kernel
theorem dX6_difference_77 : decode cX6_difference 77 = .ok (.iload 10, 2) := by decide +kernel
theorem dX6_difference_79 : decode cX6_difference 79 = .ok (.istore 5, 2) := by decide +kernel
theorem dX6_difference_81 : decode cX6_difference 81 = .ok (.iload 6, 2) := by decide +kernel
theorem dX6_difference_83 : decode cX6_difference 83 = .ok (.bipush 10, 2) := by decide +kernel
theorem dX6_difference_85 : decode cX6_difference 85 = .ok (.idiv, 1) := by decide +kernel
theorem dX6_difference_86 : decode cX6_difference 86 = .ok (.istore 6, 2) := by decide +kernel
theorem dX6_difference_88 : decode cX6_difference 88 = .ok (.iload 7, 2) := by decide +kernel
theorem dX6_difference_90 : decode cX6_difference 90 = .ok (.bipush 10, 2) := by decide +kernel
theorem dX6_difference_92 : decode cX6_difference 92 = .ok (.idiv, 1) := by decide +kernel
theorem dX6_difference_93 : decode cX6_difference 93 = .ok (.istore 7, 2) := by decide +kernel
theorem dX6_difference_95 : decode cX6_difference 95 = .ok (.iinc 8 1, 3) := by decide +kernel
theorem dX6_difference_98 : decode cX6_difference 98 = .ok (.goto (-79), 3) := by decide +kernel
theorem dX6_difference_101 : decode cX6_difference 101 = .ok (.iload_n 2, 1) := by decide +kernel
theorem dX6_difference_102 : decode cX6_difference 102 = .ok (.iconst 2, 1) := by decide +kernel
theorem dX6_difference_103 : decode cX6_difference 103 = .ok (.if_icmp .ne 9, 3) := by decide +kernel
theorem dX6_difference_106 : decode cX6_difference 106 = .ok (.iload_n 3, 1) := by decide +kernel
theorem dX6_difference_107 : decode cX6_difference 107 = .ok (.ifCond .eq 5, 3) := by decide +kernel
theorem dX6_difference_110 : decode cX6_difference 110 = .ok (.iconst 1, 1) := by decide +kernel
theorem dX6_difference_111 : decode cX6_difference 111 = .ok (.ireturn, 1) := by decide +kernel
theorem dX6_difference_112 : decode cX6_difference 112 = .ok (.iload_n 2, 1) := by decide +kernel
theorem dX6_difference_113 : decode cX6_difference 113 = .ok (.iconst 2, 1) := by decide +kernel
theorem dX6_difference_114 : decode cX6_difference 114 = .ok (.if_icmp .le 8, 3) := by decide +kernel
theorem dX6_difference_117 : decode cX6_difference 117 = .ok (.bipush 9, 2) := by decide +kernel
theorem dX6_difference_119 : decode cX6_difference 119 = .ok (.goto 4, 3) := by decide +kernel
theorem dX6_difference_122 : decode cX6_difference 122 = .ok (.iload_n 2, 1) := by decide +kernel
theorem dX6_difference_123 : decode cX6_difference 123 = .ok (.ireturn, 1) := by decide +kernel
theorem dX7_init_0 : decode cX7_init 0 = .ok (.aload_n 0, 1) := by decide +kernel
theorem dX7_init_1 : decode cX7_init 1 = .ok (.invokespecial 1, 3) := by decide +kernel
theorem dX7_init_4 : decode cX7_init 4 = .ok (.aload_n 0, 1) := by decide +kernel
theorem dX7_init_5 : decode cX7_init 5 = .ok (.new 7, 3) := by decide +kernel
theorem dX7_init_8 : decode cX7_init 8 = .ok (.dup, 1) := by decide +kernel
theorem dX7_init_9 : decode cX7_init 9 = .ok (.invokespecial 9, 3) := by decide +kernel
theorem dX7_init_12 : decode cX7_init 12 = .ok (.putfield 10, 3) := by decide +kernel
theorem dX7_init_15 : decode cX7_init 15 = .ok (.aload_n 0, 1) := by decide +kernel
theorem dX7_init_16 : decode cX7_init 16 = .ok (.new 16, 3) := by decide +kernel
theorem dX7_init_19 : decode cX7_init 19 = .ok (.dup, 1) := by decide +kernel
theorem dX7_init_20 : decode cX7_init 20 = .ok (.aload_n 0, 1) := by decide +kernel
theorem dX7_init_21 : decode cX7_init 21 = .ok (.getfield 10, 3) := by decide +kernel
theorem dX7_init_24 : decode cX7_init 24 = .ok (.invokespecial 18, 3) := by decide +kernel
theorem dX7_init_27 : decode cX7_init 27 = .ok (.putfield 21, 3) := by decide +kernel
theorem dX7_init_30 : decode cX7_init 30 = .ok (.aload_n 0, 1) := by decide +kernel
theorem dX7_init_31 : decode cX7_init 31 = .ok (.new 25, 3) := by decide +kernel
theorem dX7_init_34 : decode cX7_init 34 = .ok (.dup, 1) := by decide +kernel
theorem dX7_init_35 : decode cX7_init 35 = .ok (.invokespecial 27, 3) := by decide +kernel
theorem dX7_init_38 : decode cX7_init 38 = .ok (.putfield 28, 3) := by decide +kernel
theorem dX7_init_41 : decode cX7_init 41 = .ok (.aload_n 0, 1) := by decide +kernel
theorem dX7_init_42 : decode cX7_init 42 = .ok (.new 32, 3) := by decide +kernel
theorem dX7_init_45 : decode cX7_init 45 = .ok (.dup, 1) := by decide +kernel
theorem dX7_init_46 : decode cX7_init 46 = .ok (.aload_n 0, 1) := by decide +kernel
theorem dX7_init_47 : decode cX7_init 47 = .ok (.getfield 10, 3) := by decide +kernel
theorem dX7_init_50 : decode cX7_init 50 = .ok (.aload_n 0, 1) := by decide +kernel
theorem dX7_init_51 : decode cX7_init 51 = .ok (.getfield 28, 3) := by decide +kernel
theorem dX7_init_54 : decode cX7_init 54 = .ok (.invokespecial 34, 3) := by decide +kernel
theorem dX7_init_57 : decode cX7_init 57 = .ok (.putfield 37, 3) := by decide +kernel
theorem dX7_init_60 : decode cX7_init 60 = .ok (.aload_n 0, 1) := by decide +kernel
theorem dX7_init_61 : decode cX7_init 61 = .ok (.new 41, 3) := by decide +kernel
theorem dX7_init_64 : decode cX7_init 64 = .ok (.dup, 1) := by decide +kernel
theorem dX7_init_65 : decode cX7_init 65 = .ok (.aload_n 0, 1) := by decide +kernel
theorem dX7_init_66 : decode cX7_init 66 = .ok (.getfield 28, 3) := by decide +kernel
theorem dX7_init_69 : decode cX7_init 69 = .ok (.aload_n 0, 1) := by decide +kernel
theorem dX7_init_70 : decode cX7_init 70 = .ok (.getfield 37, 3) := by decide +kernel
theorem dX7_init_73 : decode cX7_init 73 = .ok (.invokespecial 43, 3) := by decide +kernel
theorem dX7_init_76 : decode cX7_init 76 = .ok (.putfield 46, 3) := by decide +kernel
theorem dX7_init_79 : decode cX7_init 79 = .ok (.aload_n 0, 1) := by decide +kernel
theorem dX7_init_80 : decode cX7_init 80 = .ok (.new 50, 3) := by decide +kernel
theorem dX7_init_83 : decode cX7_init 83 = .ok (.dup, 1) := by decide +kernel
theorem dX7_init_84 : decode cX7_init 84 = .ok (.invokespecial 52, 3) := by decide +kernel
theorem dX7_init_87 : decode cX7_init 87 = .ok (.putfield 53, 3) := by decide +kernel
theorem dX7_init_90 : decode cX7_init 90 = .ok (.aload_n 0, 1) := by decide +kernel
theorem dX7_init_91 : decode cX7_init 91 = .ok (.new 57, 3) := by decide +kernel
theorem dX7_init_94 : decode cX7_init 94 = .ok (.dup, 1) := by decide +kernel
theorem dX7_init_95 : decode cX7_init 95 = .ok (.aload_n 0, 1) := by decide +kernel
theorem dX7_init_96 : decode cX7_init 96 = .ok (.getfield 10, 3) := by decide +kernel
theorem dX7_init_99 : decode cX7_init 99 = .ok (.invokespecial 59, 3) := by decide +kernel
theorem dX7_init_102 : decode cX7_init 102 = .ok (.putfield 60, 3) := by decide +kernel
theorem dX7_init_105 : decode cX7_init 105 = .ok (.aload_n 0, 1) := by decide +kernel
theorem dX7_init_106 : decode cX7_init 106 = .ok (.bipush 8, 2) := by decide +kernel
theorem dX7_init_108 : decode cX7_init 108 = .ok (.newarray .int, 2) := by decide +kernel
theorem dX7_init_110 : decode cX7_init 110 = .ok (.putfield 64, 3) := by decide +kernel
theorem dX7_init_113 : decode cX7_init 113 = .ok (.aload_n 0, 1) := by decide +kernel
theorem dX7_init_114 : decode cX7_init 114 = .ok (.bipush 8, 2) := by decide +kernel
theorem dX7_init_116 : decode cX7_init 116 = .ok (.newarray .int, 2) := by decide +kernel
theorem dX7_init_118 : decode cX7_init 118 = .ok (.putfield 68, 3) := by decide +kernel
theorem dX7_init_121 : decode cX7_init 121 = .ok (.aload_n 0, 1) := by decide +kernel
theorem dX7_init_122 : decode cX7_init 122 = .ok (.iconst 0, 1) := by decide +kernel
theorem dX7_init_123 : decode cX7_init 123 = .ok (.putfield 71, 3) := by decide +kernel
theorem dX7_init_126 : decode cX7_init 126 = .ok (.return_, 1) := by decide +kernel
theorem dX7_line_0 : decode cX7_line 0 = .ok (.aload_n 0, 1) := by decide +kernel
theorem dX7_line_1 : decode cX7_line 1 = .ok (.getfield 10, 3) := by decide +kernel
theorem dX7_line_4 : decode cX7_line 4 = .ok (.iload_n 1, 1) := by decide +kernel
theorem dX7_line_5 : decode cX7_line 5 = .ok (.iload_n 2, 1) := by decide +kernel
theorem dX7_line_6 : decode cX7_line 6 = .ok (.iload_n 3, 1) := by decide +kernel
theorem dX7_line_7 : decode cX7_line 7 = .ok (.iload 4, 2) := by decide +kernel
theorem dX7_line_9 : decode cX7_line 9 = .ok (.invokevirtual 75, 3) := by decide +kernel
theorem dX7_line_12 : decode cX7_line 12 = .ok (.istore 5, 2) := by decide +kernel
theorem dX7_line_14 : decode cX7_line 14 = .ok (.iload 5, 2) := by decide +kernel
theorem dX7_line_16 : decode cX7_line 16 = .ok (.iconst (-1), 1) := by decide +kernel
theorem dX7_line_17 : decode cX7_line 17 = .ok (.if_icmp .eq 17, 3) := by decide +kernel
theorem dX7_line_20 : decode cX7_line 20 = .ok (.aload_n 0, 1) := by decide +kernel
theorem dX7_line_21 : decode cX7_line 21 = .ok (.getfield 37, 3) := by decide +kernel
theorem dX7_line_24 : decode cX7_line 24 = .ok (.invokevirtual 79, 3) := by decide +kernel
theorem dX7_line_27 : decode cX7_line 27 = .ok (.aload_n 0, 1) := by decide +kernel
theorem dX7_line_28 : decode cX7_line 28 = .ok (.getfield 60, 3) := by decide +kernel
theorem dX7_line_31 : decode cX7_line 31 = .ok (.invokevirtual 82, 3) := by decide +kernel
theorem dX7_line_34 : decode cX7_line 34 = .ok (.iload 5, 2) := by decide +kernel
theorem dX7_line_36 : decode cX7_line 36 = .ok (.ireturn, 1) := by decide +kernel
theorem dX7_least_0 : decode cX7_least 0 = .ok (.aload_n 0, 1) := by decide +kernel
theorem dX7_least_1 : decode cX7_least 1 = .ok (.getfield 10, 3) := by decide +kernel
theorem dX7_least_4 : decode cX7_least 4 = .ok (.iload_n 1, 1) := by decide +kernel
theorem dX7_least_5 : decode cX7_least 5 = .ok (.iload_n 2, 1) := by decide +kernel
theorem dX7_least_6 : decode cX7_least 6 = .ok (.invokevirtual 83, 3) := by decide +kernel
theorem dX7_least_9 : decode cX7_least 9 = .ok (.ireturn, 1) := by decide +kernel
theorem dX7_route_0 : decode cX7_route 0 = .ok (.aload_n 0, 1) := by decide +kernel
theorem dX7_route_1 : decode cX7_route 1 = .ok (.getfield 10, 3) := by decide +kernel
theorem dX7_route_4 : decode cX7_route 4 = .ok (.iload_n 1, 1) := by decide +kernel
theorem dX7_route_5 : decode cX7_route 5 = .ok (.iload_n 2, 1) := by decide +kernel
theorem dX7_route_6 : decode cX7_route 6 = .ok (.invokevirtual 87, 3) := by decide +kernel
theorem dX7_route_9 : decode cX7_route 9 = .ok (.ireturn, 1) := by decide +kernel
theorem dX7_part_0 : decode cX7_part 0 = .ok (.iload 4, 2) := by decide +kernel
theorem dX7_part_2 : decode cX7_part 2 = .ok (.invokestatic 90, 3) := by decide +kernel
theorem dX7_part_5 : decode cX7_part 5 = .ok (.ifCond .eq 16, 3) := by decide +kernel
theorem dX7_part_8 : decode cX7_part 8 = .ok (.aload_n 0, 1) := by decide +kernel
theorem dX7_part_9 : decode cX7_part 9 = .ok (.getfield 21, 3) := by decide +kernel
theorem dX7_part_12 : decode cX7_part 12 = .ok (.iload_n 1, 1) := by decide +kernel
theorem dX7_part_13 : decode cX7_part 13 = .ok (.iload_n 2, 1) := by decide +kernel
theorem dX7_part_14 : decode cX7_part 14 = .ok (.iload_n 3, 1) := by decide +kernel
theorem dX7_part_15 : decode cX7_part 15 = .ok (.invokevirtual 94, 3) := by decide +kernel
theorem dX7_part_18 : decode cX7_part 18 = .ok (.ifCond .ne 5, 3) := by decide +kernel
theorem dX7_part_21 : decode cX7_part 21 = .ok (.iconst (-1), 1) := by decide +kernel
theorem dX7_part_22 : decode cX7_part 22 = .ok (.ireturn, 1) := by decide +kernel
theorem dX7_part_23 : decode cX7_part 23 = .ok (.aload_n 0, 1) := by decide +kernel
theorem dX7_part_24 : decode cX7_part 24 = .ok (.getfield 21, 3) := by decide +kernel
theorem dX7_part_27 : decode cX7_part 27 = .ok (.getfield 98, 3) := by decide +kernel
theorem dX7_part_30 : decode cX7_part 30 = .ok (.iload 4, 2) := by decide +kernel
theorem dX7_part_32 : decode cX7_part 32 = .ok (.iaload, 1) := by decide +kernel
theorem dX7_part_33 : decode cX7_part 33 = .ok (.ireturn, 1) := by decide +kernel
theorem dX7_book_0 : decode cX7_book 0 = .ok (.iload 4, 2) := by decide +kernel
theorem dX7_book_2 : decode cX7_book 2 = .ok (.invokestatic 90, 3) := by decide +kernel
theorem dX7_book_5 : decode cX7_book 5 = .ok (.ifCond .eq 26, 3) := by decide +kernel
theorem dX7_book_8 : decode cX7_book 8 = .ok (.aload_n 0, 1) := by decide +kernel
theorem dX7_book_9 : decode cX7_book 9 = .ok (.getfield 71, 3) := by decide +kernel
theorem dX7_book_12 : decode cX7_book 12 = .ok (.sipush 1000, 3) := by decide +kernel
theorem dX7_book_15 : decode cX7_book 15 = .ok (.if_icmp .ge 16, 3) := by decide +kernel
theorem dX7_book_18 : decode cX7_book 18 = .ok (.aload_n 0, 1) := by decide +kernel
theorem dX7_book_19 : decode cX7_book 19 = .ok (.getfield 21, 3) := by decide +kernel
theorem dX7_book_22 : decode cX7_book 22 = .ok (.iload_n 1, 1) := by decide +kernel
theorem dX7_book_23 : decode cX7_book 23 = .ok (.iload_n 2, 1) := by decide +kernel
theorem dX7_book_24 : decode cX7_book 24 = .ok (.iload_n 3, 1) := by decide +kernel
theorem dX7_book_25 : decode cX7_book 25 = .ok (.invokevirtual 94, 3) := by decide +kernel
theorem dX7_book_28 : decode cX7_book 28 = .ok (.ifCond .ne 5, 3) := by decide +kernel
theorem dX7_book_31 : decode cX7_book 31 = .ok (.iconst 0, 1) := by decide +kernel
theorem dX7_book_32 : decode cX7_book 32 = .ok (.ireturn, 1) := by decide +kernel
theorem dX7_book_33 : decode cX7_book 33 = .ok (.iconst 0, 1) := by decide +kernel
theorem dX7_book_34 : decode cX7_book 34 = .ok (.istore 5, 2) := by decide +kernel
theorem dX7_book_36 : decode cX7_book 36 = .ok (.iload 5, 2) := by decide +kernel
theorem dX7_book_38 : decode cX7_book 38 = .ok (.bipush 8, 2) := by decide +kernel
theorem dX7_book_40 : decode cX7_book 40 = .ok (.if_icmp .ge 49, 3) := by decide +kernel
theorem dX7_book_43 : decode cX7_book 43 = .ok (.aload_n 0, 1) := by decide +kernel
theorem dX7_book_44 : decode cX7_book 44 = .ok (.getfield 64, 3) := by decide +kernel
theorem dX7_book_47 : decode cX7_book 47 = .ok (.iload 5, 2) := by decide +kernel
theorem dX7_book_49 : decode cX7_book 49 = .ok (.dup2, 1) := by decide +kernel
theorem dX7_book_50 : decode cX7_book 50 = .ok (.iaload, 1) := by decide +kernel
theorem dX7_book_51 : decode cX7_book 51 = .ok (.aload_n 0, 1) := by decide +kernel
theorem dX7_book_52 : decode cX7_book 52 = .ok (.getfield 21, 3) := by decide +kernel
theorem dX7_book_55 : decode cX7_book 55 = .ok (.getfield 98, 3) := by decide +kernel
theorem dX7_book_58 : decode cX7_book 58 = .ok (.iload 5, 2) := by decide +kernel
theorem dX7_book_60 : decode cX7_book 60 = .ok (.iaload, 1) := by decide +kernel
theorem dX7_book_61 : decode cX7_book 61 = .ok (.iadd, 1) := by decide +kernel
theorem dX7_book_62 : decode cX7_book 62 = .ok (.iastore, 1) := by decide +kernel
theorem dX7_book_63 : decode cX7_book 63 = .ok (.aload_n 0, 1) := by decide +kernel
theorem dX7_book_64 : decode cX7_book 64 = .ok (.getfield 64, 3) := by decide +kernel
theorem dX7_book_67 : decode cX7_book 67 = .ok (.iload 4, 2) := by decide +kernel
theorem dX7_book_69 : decode cX7_book 69 = .ok (.dup2, 1) := by decide +kernel
theorem dX7_book_70 : decode cX7_book 70 = .ok (.iaload, 1) := by decide +kernel
theorem dX7_book_71 : decode cX7_book 71 = .ok (.aload_n 0, 1) := by decide +kernel
theorem dX7_book_72 : decode cX7_book 72 = .ok (.getfield 21, 3) := by decide +kernel
theorem dX7_book_75 : decode cX7_book 75 = .ok (.getfield 98, 3) := by decide +kernel
theorem dX7_book_78 : decode cX7_book 78 = .ok (.iload 5, 2) := by decide +kernel
theorem dX7_book_80 : decode cX7_book 80 = .ok (.iaload, 1) := by decide +kernel
theorem dX7_book_81 : decode cX7_book 81 = .ok (.isub, 1) := by decide +kernel
theorem dX7_book_82 : decode cX7_book 82 = .ok (.iastore, 1) := by decide +kernel
theorem dX7_book_83 : decode cX7_book 83 = .ok (.iinc 5 1, 3) := by decide +kernel
theorem dX7_book_86 : decode cX7_book 86 = .ok (.goto (-50), 3) := by decide +kernel
theorem dX7_book_89 : decode cX7_book 89 = .ok (.aload_n 0, 1) := by decide +kernel
theorem dX7_book_90 : decode cX7_book 90 = .ok (.dup, 1) := by decide +kernel
theorem dX7_book_91 : decode cX7_book 91 = .ok (.getfield 71, 3) := by decide +kernel
theorem dX7_book_94 : decode cX7_book 94 = .ok (.iconst 1, 1) := by decide +kernel
theorem dX7_book_95 : decode cX7_book 95 = .ok (.iadd, 1) := by decide +kernel
theorem dX7_book_96 : decode cX7_book 96 = .ok (.putfield 71, 3) := by decide +kernel
theorem dX7_book_99 : decode cX7_book 99 = .ok (.iconst 1, 1) := by decide +kernel
theorem dX7_book_100 : decode cX7_book 100 = .ok (.ireturn, 1) := by decide +kernel
theorem dX7_wagon_0 : decode cX7_wagon 0 = .ok (.aload_n 0, 1) := by decide +kernel
theorem dX7_wagon_1 : decode cX7_wagon 1 = .ok (.getfield 28, 3) := by decide +kernel
theorem dX7_wagon_4 : decode cX7_wagon 4 = .ok (.iload_n 1, 1) := by decide +kernel
theorem dX7_wagon_5 : decode cX7_wagon 5 = .ok (.iload_n 2, 1) := by decide +kernel
theorem dX7_wagon_6 : decode cX7_wagon 6 = .ok (.invokevirtual 101, 3) := by decide +kernel
theorem dX7_wagon_9 : decode cX7_wagon 9 = .ok (.istore_n 3, 1) := by decide +kernel
theorem dX7_wagon_10 : decode cX7_wagon 10 = .ok (.iload_n 3, 1) := by decide +kernel
theorem dX7_wagon_11 : decode cX7_wagon 11 = .ok (.iconst (-1), 1) := by decide +kernel
theorem dX7_wagon_12 : decode cX7_wagon 12 = .ok (.if_icmp .eq 10, 3) := by decide +kernel
theorem dX7_wagon_15 : decode cX7_wagon 15 = .ok (.aload_n 0, 1) := by decide +kernel
theorem dX7_wagon_16 : decode cX7_wagon 16 = .ok (.getfield 37, 3) := by decide +kernel
theorem dX7_wagon_19 : decode cX7_wagon 19 = .ok (.invokevirtual 79, 3) := by decide +kernel
theorem dX7_wagon_22 : decode cX7_wagon 22 = .ok (.iload_n 3, 1) := by decide +kernel
theorem dX7_wagon_23 : decode cX7_wagon 23 = .ok (.ireturn, 1) := by decide +kernel
theorem dX7_see_0 : decode cX7_see 0 = .ok (.aload_n 0, 1) := by decide +kernel
theorem dX7_see_1 : decode cX7_see 1 = .ok (.getfield 28, 3) := by decide +kernel
theorem dX7_see_4 : decode cX7_see 4 = .ok (.iload_n 1, 1) := by decide +kernel
theorem dX7_see_5 : decode cX7_see 5 = .ok (.iload_n 2, 1) := by decide +kernel
theorem dX7_see_6 : decode cX7_see 6 = .ok (.iload_n 3, 1) := by decide +kernel
theorem dX7_see_7 : decode cX7_see 7 = .ok (.iload 4, 2) := by decide +kernel
theorem dX7_see_9 : decode cX7_see 9 = .ok (.invokevirtual 104, 3) := by decide +kernel
theorem dX7_see_12 : decode cX7_see 12 = .ok (.istore 5, 2) := by decide +kernel
theorem dX7_see_14 : decode cX7_see 14 = .ok (.iload 5, 2) := by decide +kernel
theorem dX7_see_16 : decode cX7_see 16 = .ok (.iconst (-1), 1) := by decide +kernel
theorem dX7_see_17 : decode cX7_see 17 = .ok (.if_icmp .eq 10, 3) := by decide +kernel
theorem dX7_see_20 : decode cX7_see 20 = .ok (.aload_n 0, 1) := by decide +kernel
theorem dX7_see_21 : decode cX7_see 21 = .ok (.getfield 37, 3) := by decide +kernel
theorem dX7_see_24 : decode cX7_see 24 = .ok (.invokevirtual 79, 3) := by decide +kernel
theorem dX7_see_27 : decode cX7_see 27 = .ok (.iload 5, 2) := by decide +kernel
theorem dX7_see_29 : decode cX7_see 29 = .ok (.ireturn, 1) := by decide +kernel
theorem dX7_close_0 : decode cX7_close 0 = .ok (.aload_n 0, 1) := by decide +kernel
theorem dX7_close_1 : decode cX7_close 1 = .ok (.getfield 46, 3) := by decide +kernel
theorem dX7_close_4 : decode cX7_close 4 = .ok (.aload_n 0, 1) := by decide +kernel
theorem dX7_close_5 : decode cX7_close 5 = .ok (.getfield 64, 3) := by decide +kernel
theorem dX7_close_8 : decode cX7_close 8 = .ok (.invokevirtual 107, 3) := by decide +kernel
theorem dX7_close_11 : decode cX7_close 11 = .ok (.aload_n 0, 1) := by decide +kernel
theorem dX7_close_12 : decode cX7_close 12 = .ok (.getfield 28, 3) := by decide +kernel
theorem dX7_close_15 : decode cX7_close 15 = .ok (.getfield 111, 3) := by decide +kernel
theorem dX7_close_18 : decode cX7_close 18 = .ok (.istore_n 1, 1) := by decide +kernel
theorem dX7_close_19 : decode cX7_close 19 = .ok (.aload_n 0, 1) := by decide +kernel
theorem dX7_close_20 : decode cX7_close 20 = .ok (.getfield 28, 3) := by decide +kernel
theorem dX7_close_23 : decode cX7_close 23 = .ok (.iconst 0, 1) := by decide +kernel
theorem dX7_close_24 : decode cX7_close 24 = .ok (.putfield 111, 3) := by decide +kernel
theorem dX7_close_27 : decode cX7_close 27 = .ok (.aload_n 0, 1) := by decide +kernel
theorem dX7_close_28 : decode cX7_close 28 = .ok (.getfield 37, 3) := by decide +kernel
theorem dX7_close_31 : decode cX7_close 31 = .ok (.invokevirtual 79, 3) := by decide +kernel
theorem dX7_close_34 : decode cX7_close 34 = .ok (.iload_n 1, 1) := by decide +kernel
theorem dX7_close_35 : decode cX7_close 35 = .ok (.ireturn, 1) := by decide +kernel
theorem dX7_error_0 : decode cX7_error 0 = .ok (.aload_n 0, 1) := by decide +kernel
theorem dX7_error_1 : decode cX7_error 1 = .ok (.getfield 28, 3) := by decide +kernel
theorem dX7_error_4 : decode cX7_error 4 = .ok (.iload_n 1, 1) := by decide +kernel
theorem dX7_error_5 : decode cX7_error 5 = .ok (.iload_n 2, 1) := by decide +kernel
theorem dX7_error_6 : decode cX7_error 6 = .ok (.invokevirtual 114, 3) := by decide +kernel
theorem dX7_error_9 : decode cX7_error 9 = .ok (.ireturn, 1) := by decide +kernel
theorem dX7_whose_0 : decode cX7_whose 0 = .ok (.aload_n 0, 1) := by decide +kernel
theorem dX7_whose_1 : decode cX7_whose 1 = .ok (.getfield 37, 3) := by decide +kernel
theorem dX7_whose_4 : decode cX7_whose 4 = .ok (.iload_n 1, 1) := by decide +kernel
theorem dX7_whose_5 : decode cX7_whose 5 = .ok (.invokevirtual 117, 3) := by decide +kernel
theorem dX7_whose_8 : decode cX7_whose 8 = .ok (.ireturn, 1) := by decide +kernel
theorem dX7_cost_0 : decode cX7_cost 0 = .ok (.aload_n 0, 1) := by decide +kernel
theorem dX7_cost_1 : decode cX7_cost 1 = .ok (.getfield 37, 3) := by decide +kernel
theorem dX7_cost_4 : decode cX7_cost 4 = .ok (.invokevirtual 121, 3) := by decide +kernel
theorem dX7_cost_7 : decode cX7_cost 7 = .ok (.ireturn, 1) := by decide +kernel
theorem dX7_terms_0 : decode cX7_terms 0 = .ok (.aload_n 0, 1) := by decide +kernel
theorem dX7_terms_1 : decode cX7_terms 1 = .ok (.getfield 46, 3) := by decide +kernel
theorem dX7_terms_4 : decode cX7_terms 4 = .ok (.iload_n 1, 1) := by decide +kernel
theorem dX7_terms_5 : decode cX7_terms 5 = .ok (.iload_n 2, 1) := by decide +kernel
theorem dX7_terms_6 : decode cX7_terms 6 = .ok (.invokevirtual 125, 3) := by decide +kernel
theorem dX7_terms_9 : decode cX7_terms 9 = .ok (.ireturn, 1) := by decide +kernel
theorem dX7_charge_0 : decode cX7_charge 0 = .ok (.aload_n 0, 1) := by decide +kernel
theorem dX7_charge_1 : decode cX7_charge 1 = .ok (.getfield 46, 3) := by decide +kernel
theorem dX7_charge_4 : decode cX7_charge 4 = .ok (.iload_n 1, 1) := by decide +kernel
theorem dX7_charge_5 : decode cX7_charge 5 = .ok (.iload_n 2, 1) := by decide +kernel
theorem dX7_charge_6 : decode cX7_charge 6 = .ok (.invokevirtual 129, 3) := by decide +kernel
theorem dX7_charge_9 : decode cX7_charge 9 = .ok (.ireturn, 1) := by decide +kernel
theorem dX7_balance_0 : decode cX7_balance 0 = .ok (.iload_n 1, 1) := by decide +kernel
theorem dX7_balance_1 : decode cX7_balance 1 = .ok (.invokestatic 90, 3) := by decide +kernel
theorem dX7_balance_4 : decode cX7_balance 4 = .ok (.ifCond .ne 5, 3) := by decide +kernel
theorem dX7_balance_7 : decode cX7_balance 7 = .ok (.iconst 0, 1) := by decide +kernel
theorem dX7_balance_8 : decode cX7_balance 8 = .ok (.ireturn, 1) := by decide +kernel
theorem dX7_balance_9 : decode cX7_balance 9 = .ok (.aload_n 0, 1) := by decide +kernel
theorem dX7_balance_10 : decode cX7_balance 10 = .ok (.invokevirtual 132, 3) := by decide +kernel
theorem dX7_balance_13 : decode cX7_balance 13 = .ok (.aload_n 0, 1) := by decide +kernel
theorem dX7_balance_14 : decode cX7_balance 14 = .ok (.getfield 68, 3) := by decide +kernel
theorem dX7_balance_17 : decode cX7_balance 17 = .ok (.iload_n 1, 1) := by decide +kernel
theorem dX7_balance_18 : decode cX7_balance 18 = .ok (.iaload, 1) := by decide +kernel
theorem dX7_balance_19 : decode cX7_balance 19 = .ok (.ireturn, 1) := by decide +kernel
theorem dX7_fewest_0 : decode cX7_fewest 0 = .ok (.aload_n 0, 1) := by decide +kernel
theorem dX7_fewest_1 : decode cX7_fewest 1 = .ok (.invokevirtual 132, 3) := by decide +kernel
theorem dX7_fewest_4 : decode cX7_fewest 4 = .ok (.aload_n 0, 1) := by decide +kernel
theorem dX7_fewest_5 : decode cX7_fewest 5 = .ok (.getfield 53, 3) := by decide +kernel
theorem dX7_fewest_8 : decode cX7_fewest 8 = .ok (.aload_n 0, 1) := by decide +kernel
theorem dX7_fewest_9 : decode cX7_fewest 9 = .ok (.getfield 68, 3) := by decide +kernel
theorem dX7_fewest_12 : decode cX7_fewest 12 = .ok (.invokevirtual 135, 3) := by decide +kernel
theorem dX7_fewest_15 : decode cX7_fewest 15 = .ok (.aload_n 0, 1) := by decide +kernel
theorem dX7_fewest_16 : decode cX7_fewest 16 = .ok (.getfield 53, 3) := by decide +kernel
theorem dX7_fewest_19 : decode cX7_fewest 19 = .ok (.invokevirtual 138, 3) := by decide +kernel
theorem dX7_fewest_22 : decode cX7_fewest 22 = .ok (.ireturn, 1) := by decide +kernel
theorem dX7_group_0 : decode cX7_group 0 = .ok (.iload_n 1, 1) := by decide +kernel
theorem dX7_group_1 : decode cX7_group 1 = .ok (.invokestatic 90, 3) := by decide +kernel
theorem dX7_group_4 : decode cX7_group 4 = .ok (.ifCond .ne 5, 3) := by decide +kernel
theorem dX7_group_7 : decode cX7_group 7 = .ok (.iconst 0, 1) := by decide +kernel
theorem dX7_group_8 : decode cX7_group 8 = .ok (.ireturn, 1) := by decide +kernel
theorem dX7_group_9 : decode cX7_group 9 = .ok (.aload_n 0, 1) := by decide +kernel
theorem dX7_group_10 : decode cX7_group 10 = .ok (.invokevirtual 132, 3) := by decide +kernel
theorem dX7_group_13 : decode cX7_group 13 = .ok (.aload_n 0, 1) := by decide +kernel
theorem dX7_group_14 : decode cX7_group 14 = .ok (.getfield 53, 3) := by decide +kernel
theorem dX7_group_17 : decode cX7_group 17 = .ok (.aload_n 0, 1) := by decide +kernel
theorem dX7_group_18 : decode cX7_group 18 = .ok (.getfield 68, 3) := by decide +kernel
theorem dX7_group_21 : decode cX7_group 21 = .ok (.invokevirtual 135, 3) := by decide +kernel
theorem dX7_group_24 : decode cX7_group 24 = .ok (.aload_n 0, 1) := by decide +kernel
theorem dX7_group_25 : decode cX7_group 25 = .ok (.getfield 53, 3) := by decide +kernel
theorem dX7_group_28 : decode cX7_group 28 = .ok (.iload_n 1, 1) := by decide +kernel
theorem dX7_group_29 : decode cX7_group 29 = .ok (.invokevirtual 141, 3) := by decide +kernel
theorem dX7_group_32 : decode cX7_group 32 = .ok (.ireturn, 1) := by decide +kernel
theorem dX7_empties_0 : decode cX7_empties 0 = .ok (.aload_n 0, 1) := by decide +kernel
theorem dX7_empties_1 : decode cX7_empties 1 = .ok (.getfield 60, 3) := by decide +kernel
theorem dX7_empties_4 : decode cX7_empties 4 = .ok (.iload_n 1, 1) := by decide +kernel
theorem dX7_empties_5 : decode cX7_empties 5 = .ok (.iload_n 2, 1) := by decide +kernel
theorem dX7_empties_6 : decode cX7_empties 6 = .ok (.iload_n 3, 1) := by decide +kernel
theorem dX7_empties_7 : decode cX7_empties 7 = .ok (.invokevirtual 144, 3) := by decide +kernel
theorem dX7_empties_10 : decode cX7_empties 10 = .ok (.ireturn, 1) := by decide +kernel
theorem dX7_met_0 : decode cX7_met 0 = .ok (.aload_n 0, 1) := by decide +kernel
theorem dX7_met_1 : decode cX7_met 1 = .ok (.getfield 60, 3) := by decide +kernel
theorem dX7_met_4 : decode cX7_met 4 = .ok (.invokevirtual 147, 3) := by decide +kernel
theorem dX7_met_7 : decode cX7_met 7 = .ok (.aload_n 0, 1) := by decide +kernel
theorem dX7_met_8 : decode cX7_met 8 = .ok (.getfield 60, 3) := by decide +kernel
theorem dX7_met_11 : decode cX7_met 11 = .ok (.getfield 150, 3) := by decide +kernel
theorem dX7_met_14 : decode cX7_met 14 = .ok (.ireturn, 1) := by decide +kernel
theorem dX7_led_0 : decode cX7_led 0 = .ok (.aload_n 0, 1) := by decide +kernel
theorem dX7_led_1 : decode cX7_led 1 = .ok (.getfield 60, 3) := by decide +kernel
theorem dX7_led_4 : decode cX7_led 4 = .ok (.invokevirtual 147, 3) := by decide +kernel
theorem dX7_led_7 : decode cX7_led 7 = .ok (.aload_n 0, 1) := by decide +kernel
theorem dX7_led_8 : decode cX7_led 8 = .ok (.getfield 60, 3) := by decide +kernel
theorem dX7_led_11 : decode cX7_led 11 = .ok (.getfield 153, 3) := by decide +kernel
theorem dX7_led_14 : decode cX7_led 14 = .ok (.ireturn, 1) := by decide +kernel
theorem dX7_count_0 : decode cX7_count 0 = .ok (.iload_n 1, 1) := by decide +kernel
theorem dX7_count_1 : decode cX7_count 1 = .ok (.tableswitch 90 0 5 #[39, 47, 55, 63, 68, 79], 39) := by decide +kernel
theorem dX7_count_40 : decode cX7_count 40 = .ok (.aload_n 0, 1) := by decide +kernel
theorem dX7_count_41 : decode cX7_count 41 = .ok (.getfield 10, 3) := by decide +kernel
theorem dX7_count_44 : decode cX7_count 44 = .ok (.getfield 156, 3) := by decide +kernel
theorem dX7_count_47 : decode cX7_count 47 = .ok (.ireturn, 1) := by decide +kernel
theorem dX7_count_48 : decode cX7_count 48 = .ok (.aload_n 0, 1) := by decide +kernel
theorem dX7_count_49 : decode cX7_count 49 = .ok (.getfield 28, 3) := by decide +kernel
theorem dX7_count_52 : decode cX7_count 52 = .ok (.getfield 159, 3) := by decide +kernel
theorem dX7_count_55 : decode cX7_count 55 = .ok (.ireturn, 1) := by decide +kernel
theorem dX7_count_56 : decode cX7_count 56 = .ok (.aload_n 0, 1) := by decide +kernel
theorem dX7_count_57 : decode cX7_count 57 = .ok (.getfield 28, 3) := by decide +kernel
theorem dX7_count_60 : decode cX7_count 60 = .ok (.getfield 111, 3) := by decide +kernel
theorem dX7_count_63 : decode cX7_count 63 = .ok (.ireturn, 1) := by decide +kernel
theorem dX7_count_64 : decode cX7_count 64 = .ok (.aload_n 0, 1) := by decide +kernel
theorem dX7_count_65 : decode cX7_count 65 = .ok (.getfield 71, 3) := by decide +kernel
theorem dX7_count_68 : decode cX7_count 68 = .ok (.ireturn, 1) := by decide +kernel
theorem dX7_count_69 : decode cX7_count 69 = .ok (.aload_n 0, 1) := by decide +kernel
theorem dX7_count_70 : decode cX7_count 70 = .ok (.getfield 60, 3) := by decide +kernel
theorem dX7_count_73 : decode cX7_count 73 = .ok (.getfield 162, 3) := by decide +kernel
theorem dX7_count_76 : decode cX7_count 76 = .ok (.invokestatic 165, 3) := by decide +kernel
theorem dX7_count_79 : decode cX7_count 79 = .ok (.ireturn, 1) := by decide +kernel
theorem dX7_count_80 : decode cX7_count 80 = .ok (.aload_n 0, 1) := by decide +kernel
theorem dX7_count_81 : decode cX7_count 81 = .ok (.getfield 60, 3) := by decide +kernel
theorem dX7_count_84 : decode cX7_count 84 = .ok (.getfield 169, 3) := by decide +kernel
theorem dX7_count_87 : decode cX7_count 87 = .ok (.invokestatic 165, 3) := by decide +kernel
theorem dX7_count_90 : decode cX7_count 90 = .ok (.ireturn, 1) := by decide +kernel
theorem dX7_count_91 : decode cX7_count 91 = .ok (.iconst (-1), 1) := by decide +kernel
theorem dX7_count_92 : decode cX7_count 92 = .ok (.ireturn, 1) := by decide +kernel
theorem dX7_strikeBalances_0 : decode cX7_strikeBalances 0 = .ok (.aload_n 0, 1) := by decide +kernel
theorem dX7_strikeBalances_1 : decode cX7_strikeBalances 1 = .ok (.getfield 64, 3) := by decide +kernel
theorem dX7_strikeBalances_4 : decode cX7_strikeBalances 4 = .ok (.iconst 0, 1) := by decide +kernel
theorem dX7_strikeBalances_5 : decode cX7_strikeBalances 5 = .ok (.aload_n 0, 1) := by decide +kernel
theorem dX7_strikeBalances_6 : decode cX7_strikeBalances 6 = .ok (.getfield 68, 3) := by decide +kernel
theorem dX7_strikeBalances_9 : decode cX7_strikeBalances 9 = .ok (.iconst 0, 1) := by decide +kernel
theorem dX7_strikeBalances_10 : decode cX7_strikeBalances 10 = .ok (.bipush 8, 2) := by decide +kernel
theorem dX7_strikeBalances_12 : decode cX7_strikeBalances 12 = .ok (.invokestatic 172, 3) := by decide +kernel
theorem dX7_strikeBalances_15 : decode cX7_strikeBalances 15 = .ok (.aload_n 0, 1) := by decide +kernel
theorem dX7_strikeBalances_16 : decode cX7_strikeBalances 16 = .ok (.getfield 46, 3) := by decide +kernel
theorem dX7_strikeBalances_19 : decode cX7_strikeBalances 19 = .ok (.aload_n 0, 1) := by decide +kernel
theorem dX7_strikeBalances_20 : decode cX7_strikeBalances 20 = .ok (.getfield 68, 3) := by decide +kernel
theorem dX7_strikeBalances_23 : decode cX7_strikeBalances 23 = .ok (.invokevirtual 107, 3) := by decide +kernel
theorem dX7_strikeBalances_26 : decode cX7_strikeBalances 26 = .ok (.return_, 1) := by decide +kernel
theorem dX7_isWithin_0 : decode cX7_isWithin 0 = .ok (.iload_n 0, 1) := by decide +kernel
theorem dX7_isWithin_1 : decode cX7_isWithin 1 = .ok (.iload_n 1, 1) := by decide +kernel
theorem dX7_isWithin_2 : decode cX7_isWithin 2 = .ok (.if_icmp .lt 12, 3) := by decide +kernel
theorem dX7_isWithin_5 : decode cX7_isWithin 5 = .ok (.iload_n 0, 1) := by decide +kernel
theorem dX7_isWithin_6 : decode cX7_isWithin 6 = .ok (.iload_n 2, 1) := by decide +kernel
theorem dX7_isWithin_7 : decode cX7_isWithin 7 = .ok (.if_icmp .gt 7, 3) := by decide +kernel
theorem dX7_isWithin_10 : decode cX7_isWithin 10 = .ok (.iconst 1, 1) := by decide +kernel
theorem dX7_isWithin_11 : decode cX7_isWithin 11 = .ok (.goto 4, 3) := by decide +kernel
theorem dX7_isWithin_14 : decode cX7_isWithin 14 = .ok (.iconst 0, 1) := by decide +kernel
theorem dX7_isWithin_15 : decode cX7_isWithin 15 = .ok (.ireturn, 1) := by decide +kernel
theorem dX7_isCompany_0 : decode cX7_isCompany 0 = .ok (.iload_n 0, 1) := by decide +kernel
theorem dX7_isCompany_1 : decode cX7_isCompany 1 = .ok (.ifCond .lt 13, 3) := by decide +kernel
theorem dX7_isCompany_4 : decode cX7_isCompany 4 = .ok (.iload_n 0, 1) := by decide +kernel
theorem dX7_isCompany_5 : decode cX7_isCompany 5 = .ok (.bipush 8, 2) := by decide +kernel
theorem dX7_isCompany_7 : decode cX7_isCompany 7 = .ok (.if_icmp .ge 7, 3) := by decide +kernel
theorem dX7_isCompany_10 : decode cX7_isCompany 10 = .ok (.iconst 1, 1) := by decide +kernel
theorem dX7_isCompany_11 : decode cX7_isCompany 11 = .ok (.goto 4, 3) := by decide +kernel
theorem dX7_isCompany_14 : decode cX7_isCompany 14 = .ok (.iconst 0, 1) := by decide +kernel
theorem dX7_isCompany_15 : decode cX7_isCompany 15 = .ok (.ireturn, 1) := by decide +kernel
theorem dX7_isJunction_0 : decode cX7_isJunction 0 = .ok (.iload_n 0, 1) := by decide +kernel
theorem dX7_isJunction_1 : decode cX7_isJunction 1 = .ok (.ifCond .lt 13, 3) := by decide +kernel
theorem dX7_isJunction_4 : decode cX7_isJunction 4 = .ok (.iload_n 0, 1) := by decide +kernel
theorem dX7_isJunction_5 : decode cX7_isJunction 5 = .ok (.bipush 12, 2) := by decide +kernel
theorem dX7_isJunction_7 : decode cX7_isJunction 7 = .ok (.if_icmp .ge 7, 3) := by decide +kernel
theorem dX7_isJunction_10 : decode cX7_isJunction 10 = .ok (.iconst 1, 1) := by decide +kernel
theorem dX7_isJunction_11 : decode cX7_isJunction 11 = .ok (.goto 4, 3) := by decide +kernel
theorem dX7_isJunction_14 : decode cX7_isJunction 14 = .ok (.iconst 0, 1) := by decide +kernel
theorem dX7_isJunction_15 : decode cX7_isJunction 15 = .ok (.ireturn, 1) := by decide +kernel
theorem dX7_isMark_0 : decode cX7_isMark 0 = .ok (.iload_n 0, 1) := by decide +kernel
theorem dX7_isMark_1 : decode cX7_isMark 1 = .ok (.sipush 10000, 3) := by decide +kernel
theorem dX7_isMark_4 : decode cX7_isMark 4 = .ok (.ldc 178, 2) := by decide +kernel
theorem dX7_isMark_6 : decode cX7_isMark 6 = .ok (.invokestatic 179, 3) := by decide +kernel
theorem dX7_isMark_9 : decode cX7_isMark 9 = .ok (.ireturn, 1) := by decide +kernel
theorem dX7_sumOf_0 : decode cX7_sumOf 0 = .ok (.iconst 0, 1) := by decide +kernel
theorem dX7_sumOf_1 : decode cX7_sumOf 1 = .ok (.istore_n 1, 1) := by decide +kernel
theorem dX7_sumOf_2 : decode cX7_sumOf 2 = .ok (.iconst 0, 1) := by decide +kernel
theorem dX7_sumOf_3 : decode cX7_sumOf 3 = .ok (.istore_n 2, 1) := by decide +kernel
theorem dX7_sumOf_4 : decode cX7_sumOf 4 = .ok (.iload_n 2, 1) := by decide +kernel
theorem dX7_sumOf_5 : decode cX7_sumOf 5 = .ok (.aload_n 0, 1) := by decide +kernel
theorem dX7_sumOf_6 : decode cX7_sumOf 6 = .ok (.arraylength, 1) := by decide +kernel
theorem dX7_sumOf_7 : decode cX7_sumOf 7 = .ok (.if_icmp .ge 15, 3) := by decide +kernel
theorem dX7_sumOf_10 : decode cX7_sumOf 10 = .ok (.iload_n 1, 1) := by decide +kernel
theorem dX7_sumOf_11 : decode cX7_sumOf 11 = .ok (.aload_n 0, 1) := by decide +kernel
theorem dX7_sumOf_12 : decode cX7_sumOf 12 = .ok (.iload_n 2, 1) := by decide +kernel
theorem dX7_sumOf_13 : decode cX7_sumOf 13 = .ok (.iaload, 1) := by decide +kernel
theorem dX7_sumOf_14 : decode cX7_sumOf 14 = .ok (.iadd, 1) := by decide +kernel
theorem dX7_sumOf_15 : decode cX7_sumOf 15 = .ok (.istore_n 1, 1) := by decide +kernel
theorem dX7_sumOf_16 : decode cX7_sumOf 16 = .ok (.iinc 2 1, 3) := by decide +kernel
theorem dX7_sumOf_19 : decode cX7_sumOf 19 = .ok (.goto (-15), 3) := by decide +kernel
theorem dX7_sumOf_22 : decode cX7_sumOf 22 = .ok (.iload_n 1, 1) := by decide +kernel
theorem dX7_sumOf_23 : decode cX7_sumOf 23 = .ok (.ireturn, 1) := by decide +kernel
theorem dX8_init_0 : decode cX8_init 0 = .ok (.aload_n 0, 1) := by decide +kernel
theorem dX8_init_1 : decode cX8_init 1 = .ok (.invokespecial 1, 3) := by decide +kernel
theorem dX8_init_4 : decode cX8_init 4 = .ok (.aload_n 0, 1) := by decide +kernel
theorem dX8_init_5 : decode cX8_init 5 = .ok (.bipush 24, 2) := by decide +kernel
theorem dX8_init_7 : decode cX8_init 7 = .ok (.newarray .int, 2) := by decide +kernel
theorem dX8_init_9 : decode cX8_init 9 = .ok (.putfield 9, 3) := by decide +kernel
theorem dX8_init_12 : decode cX8_init 12 = .ok (.aload_n 0, 1) := by decide +kernel
theorem dX8_init_13 : decode cX8_init 13 = .ok (.bipush 24, 2) := by decide +kernel
theorem dX8_init_15 : decode cX8_init 15 = .ok (.newarray .int, 2) := by decide +kernel
theorem dX8_init_17 : decode cX8_init 17 = .ok (.putfield 13, 3) := by decide +kernel
theorem dX8_init_20 : decode cX8_init 20 = .ok (.aload_n 0, 1) := by decide +kernel
theorem dX8_init_21 : decode cX8_init 21 = .ok (.bipush 24, 2) := by decide +kernel
theorem dX8_init_23 : decode cX8_init 23 = .ok (.newarray .int, 2) := by decide +kernel
theorem dX8_init_25 : decode cX8_init 25 = .ok (.putfield 16, 3) := by decide +kernel
theorem dX8_init_28 : decode cX8_init 28 = .ok (.aload_n 0, 1) := by decide +kernel
theorem dX8_init_29 : decode cX8_init 29 = .ok (.bipush 24, 2) := by decide +kernel
theorem dX8_init_31 : decode cX8_init 31 = .ok (.newarray .int, 2) := by decide +kernel
theorem dX8_init_33 : decode cX8_init 33 = .ok (.putfield 19, 3) := by decide +kernel
theorem dX8_init_36 : decode cX8_init 36 = .ok (.aload_n 0, 1) := by decide +kernel
theorem dX8_init_37 : decode cX8_init 37 = .ok (.sipush 144, 3) := by decide +kernel
theorem dX8_init_40 : decode cX8_init 40 = .ok (.newarray .int, 2) := by decide +kernel
theorem dX8_init_42 : decode cX8_init 42 = .ok (.putfield 22, 3) := by decide +kernel
theorem dX8_init_45 : decode cX8_init 45 = .ok (.aload_n 0, 1) := by decide +kernel
theorem dX8_init_46 : decode cX8_init 46 = .ok (.iconst 4, 1) := by decide +kernel
theorem dX8_init_47 : decode cX8_init 47 = .ok (.newarray .int, 2) := by decide +kernel
theorem dX8_init_49 : decode cX8_init 49 = .ok (.putfield 25, 3) := by decide +kernel
theorem dX8_init_52 : decode cX8_init 52 = .ok (.aload_n 0, 1) := by decide +kernel
theorem dX8_init_53 : decode cX8_init 53 = .ok (.iconst 4, 1) := by decide +kernel
theorem dX8_init_54 : decode cX8_init 54 = .ok (.newarray .int, 2) := by decide +kernel
theorem dX8_init_56 : decode cX8_init 56 = .ok (.putfield 28, 3) := by decide +kernel
theorem dX8_init_59 : decode cX8_init 59 = .ok (.aload_n 0, 1) := by decide +kernel
theorem dX8_init_60 : decode cX8_init 60 = .ok (.bipush 7, 2) := by decide +kernel
theorem dX8_init_62 : decode cX8_init 62 = .ok (.newarray .int, 2) := by decide +kernel
theorem dX8_init_64 : decode cX8_init 64 = .ok (.putfield 31, 3) := by decide +kernel
theorem dX8_init_67 : decode cX8_init 67 = .ok (.aload_n 0, 1) := by decide +kernel
theorem dX8_init_68 : decode cX8_init 68 = .ok (.bipush 7, 2) := by decide +kernel
theorem dX8_init_70 : decode cX8_init 70 = .ok (.newarray .int, 2) := by decide +kernel
theorem dX8_init_72 : decode cX8_init 72 = .ok (.putfield 34, 3) := by decide +kernel
theorem dX8_init_75 : decode cX8_init 75 = .ok (.aload_n 0, 1) := by decide +kernel
theorem dX8_init_76 : decode cX8_init 76 = .ok (.bipush 7, 2) := by decide +kernel
theorem dX8_init_78 : decode cX8_init 78 = .ok (.newarray .int, 2) := by decide +kernel
theorem dX8_init_80 : decode cX8_init 80 = .ok (.putfield 37, 3) := by decide +kernel
theorem dX8_init_83 : decode cX8_init 83 = .ok (.aload_n 0, 1) := by decide +kernel
theorem dX8_init_84 : decode cX8_init 84 = .ok (.bipush 7, 2) := by decide +kernel
theorem dX8_init_86 : decode cX8_init 86 = .ok (.newarray .int, 2) := by decide +kernel
theorem dX8_init_88 : decode cX8_init 88 = .ok (.putfield 40, 3) := by decide +kernel
theorem dX8_init_91 : decode cX8_init 91 = .ok (.aload_n 0, 1) := by decide +kernel
theorem dX8_init_92 : decode cX8_init 92 = .ok (.iconst 2, 1) := by decide +kernel
theorem dX8_init_93 : decode cX8_init 93 = .ok (.putfield 43, 3) := by decide +kernel
theorem dX8_init_96 : decode cX8_init 96 = .ok (.aload_n 0, 1) := by decide +kernel
theorem dX8_init_97 : decode cX8_init 97 = .ok (.bipush 10, 2) := by decide +kernel
theorem dX8_init_99 : decode cX8_init 99 = .ok (.putfield 47, 3) := by decide +kernel
theorem dX8_init_102 : decode cX8_init 102 = .ok (.aload_n 0, 1) := by decide +kernel
theorem dX8_init_103 : decode cX8_init 103 = .ok (.bipush 8, 2) := by decide +kernel
theorem dX8_init_105 : decode cX8_init 105 = .ok (.newarray .int, 2) := by decide +kernel
theorem dX8_init_107 : decode cX8_init 107 = .ok (.putfield 50, 3) := by decide +kernel
theorem dX8_init_110 : decode cX8_init 110 = .ok (.aload_n 0, 1) := by decide +kernel
theorem dX8_init_111 : decode cX8_init 111 = .ok (.bipush 12, 2) := by decide +kernel
theorem dX8_init_113 : decode cX8_init 113 = .ok (.newarray .int, 2) := by decide +kernel
theorem dX8_init_115 : decode cX8_init 115 = .ok (.putfield 53, 3) := by decide +kernel
theorem dX8_init_118 : decode cX8_init 118 = .ok (.aload_n 0, 1) := by decide +kernel
theorem dX8_init_119 : decode cX8_init 119 = .ok (.bipush 12, 2) := by decide +kernel
theorem dX8_init_121 : decode cX8_init 121 = .ok (.newarray .int, 2) := by decide +kernel
theorem dX8_init_123 : decode cX8_init 123 = .ok (.putfield 56, 3) := by decide +kernel
theorem dX8_init_126 : decode cX8_init 126 = .ok (.aload_n 0, 1) := by decide +kernel
theorem dX8_init_127 : decode cX8_init 127 = .ok (.bipush 8, 2) := by decide +kernel
theorem dX8_init_129 : decode cX8_init 129 = .ok (.newarray .int, 2) := by decide +kernel
theorem dX8_init_131 : decode cX8_init 131 = .ok (.putfield 59, 3) := by decide +kernel
theorem dX8_init_134 : decode cX8_init 134 = .ok (.aload_n 0, 1) := by decide +kernel
theorem dX8_init_135 : decode cX8_init 135 = .ok (.bipush 8, 2) := by decide +kernel
theorem dX8_init_137 : decode cX8_init 137 = .ok (.newarray .int, 2) := by decide +kernel
theorem dX8_init_139 : decode cX8_init 139 = .ok (.putfield 62, 3) := by decide +kernel
theorem dX8_init_142 : decode cX8_init 142 = .ok (.aload_n 0, 1) := by decide +kernel
theorem dX8_init_143 : decode cX8_init 143 = .ok (.bipush 8, 2) := by decide +kernel
theorem dX8_init_145 : decode cX8_init 145 = .ok (.newarray .long, 2) := by decide +kernel
theorem dX8_init_147 : decode cX8_init 147 = .ok (.putfield 65, 3) := by decide +kernel
theorem dX8_init_150 : decode cX8_init 150 = .ok (.aload_n 0, 1) := by decide +kernel
theorem dX8_init_151 : decode cX8_init 151 = .ok (.bipush 7, 2) := by decide +kernel
theorem dX8_init_153 : decode cX8_init 153 = .ok (.newarray .int, 2) := by decide +kernel
theorem dX8_init_155 : decode cX8_init 155 = .ok (.putfield 69, 3) := by decide +kernel
theorem dX8_init_158 : decode cX8_init 158 = .ok (.aload_n 0, 1) := by decide +kernel
theorem dX8_init_159 : decode cX8_init 159 = .ok (.bipush 7, 2) := by decide +kernel
theorem dX8_init_161 : decode cX8_init 161 = .ok (.newarray .int, 2) := by decide +kernel
theorem dX8_init_163 : decode cX8_init 163 = .ok (.putfield 72, 3) := by decide +kernel
theorem dX8_init_166 : decode cX8_init 166 = .ok (.aload_n 0, 1) := by decide +kernel
theorem dX8_init_167 : decode cX8_init 167 = .ok (.bipush 8, 2) := by decide +kernel
theorem dX8_init_169 : decode cX8_init 169 = .ok (.newarray .int, 2) := by decide +kernel
theorem dX8_init_171 : decode cX8_init 171 = .ok (.putfield 75, 3) := by decide +kernel
theorem dX8_init_174 : decode cX8_init 174 = .ok (.aload_n 0, 1) := by decide +kernel
theorem dX8_init_175 : decode cX8_init 175 = .ok (.sipush 256, 3) := by decide +kernel
theorem dX8_init_178 : decode cX8_init 178 = .ok (.newarray .int, 2) := by decide +kernel
theorem dX8_init_180 : decode cX8_init 180 = .ok (.putfield 78, 3) := by decide +kernel
theorem dX8_init_183 : decode cX8_init 183 = .ok (.aload_n 0, 1) := by decide +kernel
theorem dX8_init_184 : decode cX8_init 184 = .ok (.sipush 144, 3) := by decide +kernel
theorem dX8_init_187 : decode cX8_init 187 = .ok (.newarray .int, 2) := by decide +kernel
theorem dX8_init_189 : decode cX8_init 189 = .ok (.putfield 81, 3) := by decide +kernel
theorem dX8_init_192 : decode cX8_init 192 = .ok (.aload_n 0, 1) := by decide +kernel
theorem dX8_init_193 : decode cX8_init 193 = .ok (.bipush 24, 2) := by decide +kernel
theorem dX8_init_195 : decode cX8_init 195 = .ok (.newarray .int, 2) := by decide +kernel
theorem dX8_init_197 : decode cX8_init 197 = .ok (.putfield 84, 3) := by decide +kernel
theorem dX8_init_200 : decode cX8_init 200 = .ok (.aload_n 0, 1) := by decide +kernel
theorem dX8_init_201 : decode cX8_init 201 = .ok (.bipush 24, 2) := by decide +kernel
theorem dX8_init_203 : decode cX8_init 203 = .ok (.newarray .int, 2) := by decide +kernel
theorem dX8_init_205 : decode cX8_init 205 = .ok (.putfield 87, 3) := by decide +kernel
theorem dX8_init_208 : decode cX8_init 208 = .ok (.aload_n 0, 1) := by decide +kernel
theorem dX8_init_209 : decode cX8_init 209 = .ok (.invokevirtual 90, 3) := by decide +kernel
theorem dX8_init_212 : decode cX8_init 212 = .ok (.return_, 1) := by decide +kernel
theorem dX8_in_0 : decode cX8_in 0 = .ok (.iload_n 0, 1) := by decide +kernel
theorem dX8_in_1 : decode cX8_in 1 = .ok (.iload_n 1, 1) := by decide +kernel
theorem dX8_in_2 : decode cX8_in 2 = .ok (.if_icmp .lt 12, 3) := by decide +kernel
theorem dX8_in_5 : decode cX8_in 5 = .ok (.iload_n 0, 1) := by decide +kernel
theorem dX8_in_6 : decode cX8_in 6 = .ok (.iload_n 2, 1) := by decide +kernel
theorem dX8_in_7 : decode cX8_in 7 = .ok (.if_icmp .gt 7, 3) := by decide +kernel
theorem dX8_in_10 : decode cX8_in 10 = .ok (.iconst 1, 1) := by decide +kernel
theorem dX8_in_11 : decode cX8_in 11 = .ok (.goto 4, 3) := by decide +kernel
theorem dX8_in_14 : decode cX8_in 14 = .ok (.iconst 0, 1) := by decide +kernel
theorem dX8_in_15 : decode cX8_in 15 = .ok (.ireturn, 1) := by decide +kernel
theorem dX8_isJunction_0 : decode cX8_isJunction 0 = .ok (.iload_n 0, 1) := by decide +kernel
theorem dX8_isJunction_1 : decode cX8_isJunction 1 = .ok (.iconst 0, 1) := by decide +kernel
theorem dX8_isJunction_2 : decode cX8_isJunction 2 = .ok (.bipush 11, 2) := by decide +kernel
theorem dX8_isJunction_4 : decode cX8_isJunction 4 = .ok (.invokestatic 93, 3) := by decide +kernel
theorem dX8_isJunction_7 : decode cX8_isJunction 7 = .ok (.ireturn, 1) := by decide +kernel
theorem dX8_isCompany_0 : decode cX8_isCompany 0 = .ok (.iload_n 0, 1) := by decide +kernel
theorem dX8_isCompany_1 : decode cX8_isCompany 1 = .ok (.iconst 0, 1) := by decide +kernel
theorem dX8_isCompany_2 : decode cX8_isCompany 2 = .ok (.bipush 7, 2) := by decide +kernel
theorem dX8_isCompany_4 : decode cX8_isCompany 4 = .ok (.invokestatic 93, 3) := by decide +kernel
theorem dX8_isCompany_7 : decode cX8_isCompany 7 = .ok (.ireturn, 1) := by decide +kernel
theorem dX8_reckons_0 : decode cX8_reckons 0 = .ok (.iconst 0, 1) := by decide +kernel
theorem dX8_reckons_1 : decode cX8_reckons 1 = .ok (.istore_n 1, 1) := by decide +kernel
theorem dX8_reckons_2 : decode cX8_reckons 2 = .ok (.iload_n 1, 1) := by decide +kernel
theorem dX8_reckons_3 : decode cX8_reckons 3 = .ok (.sipush 144, 3) := by decide +kernel
theorem dX8_reckons_6 : decode cX8_reckons 6 = .ok (.if_icmp .ge 28, 3) := by decide +kernel
theorem dX8_reckons_9 : decode cX8_reckons 9 = .ok (.aload_n 0, 1) := by decide +kernel
theorem dX8_reckons_10 : decode cX8_reckons 10 = .ok (.getfield 22, 3) := by decide +kernel
theorem dX8_reckons_13 : decode cX8_reckons 13 = .ok (.iload_n 1, 1) := by decide +kernel
theorem dX8_reckons_14 : decode cX8_reckons 14 = .ok (.iload_n 1, 1) := by decide +kernel
theorem dX8_reckons_15 : decode cX8_reckons 15 = .ok (.bipush 13, 2) := by decide +kernel
theorem dX8_reckons_17 : decode cX8_reckons 17 = .ok (.irem, 1) := by decide +kernel
theorem dX8_reckons_18 : decode cX8_reckons 18 = .ok (.ifCond .ne 7, 3) := by decide +kernel
theorem dX8_reckons_21 : decode cX8_reckons 21 = .ok (.iconst 0, 1) := by decide +kernel
theorem dX8_reckons_22 : decode cX8_reckons 22 = .ok (.goto 5, 3) := by decide +kernel
theorem dX8_reckons_25 : decode cX8_reckons 25 = .ok (.ldc 97, 2) := by decide +kernel
theorem dX8_reckons_27 : decode cX8_reckons 27 = .ok (.iastore, 1) := by decide +kernel
theorem dX8_reckons_28 : decode cX8_reckons 28 = .ok (.iinc 1 1, 3) := by decide +kernel
theorem dX8_reckons_31 : decode cX8_reckons 31 = .ok (.goto (-29), 3) := by decide +kernel
theorem dX8_reckons_34 : decode cX8_reckons 34 = .ok (.iconst 1, 1) := by decide +kernel
theorem dX8_reckons_35 : decode cX8_reckons 35 = .ok (.istore_n 1, 1) := by decide +kernel
theorem dX8_reckons_36 : decode cX8_reckons 36 = .ok (.iload_n 1, 1) := by decide +kernel
theorem dX8_reckons_37 : decode cX8_reckons 37 = .ok (.ifCond .eq 158, 3) := by decide +kernel
theorem dX8_reckons_40 : decode cX8_reckons 40 = .ok (.iconst 0, 1) := by decide +kernel
theorem dX8_reckons_41 : decode cX8_reckons 41 = .ok (.istore_n 1, 1) := by decide +kernel
theorem dX8_reckons_42 : decode cX8_reckons 42 = .ok (.iconst 0, 1) := by decide +kernel
theorem dX8_reckons_43 : decode cX8_reckons 43 = .ok (.istore_n 2, 1) := by decide +kernel
theorem dX8_reckons_44 : decode cX8_reckons 44 = .ok (.iload_n 2, 1) := by decide +kernel
theorem dX8_reckons_45 : decode cX8_reckons 45 = .ok (.aload_n 0, 1) := by decide +kernel
theorem dX8_reckons_46 : decode cX8_reckons 46 = .ok (.getfield 98, 3) := by decide +kernel
theorem dX8_reckons_49 : decode cX8_reckons 49 = .ok (.if_icmp .ge 143, 3) := by decide +kernel
theorem dX8_reckons_52 : decode cX8_reckons 52 = .ok (.iconst 0, 1) := by decide +kernel
theorem dX8_reckons_53 : decode cX8_reckons 53 = .ok (.istore_n 3, 1) := by decide +kernel
theorem dX8_reckons_54 : decode cX8_reckons 54 = .ok (.iload_n 3, 1) := by decide +kernel
theorem dX8_reckons_55 : decode cX8_reckons 55 = .ok (.bipush 12, 2) := by decide +kernel
theorem dX8_reckons_57 : decode cX8_reckons 57 = .ok (.if_icmp .ge 129, 3) := by decide +kernel
theorem dX8_reckons_60 : decode cX8_reckons 60 = .ok (.bipush 12, 2) := by decide +kernel
theorem dX8_reckons_62 : decode cX8_reckons 62 = .ok (.aload_n 0, 1) := by decide +kernel
theorem dX8_reckons_63 : decode cX8_reckons 63 = .ok (.getfield 9, 3) := by decide +kernel
theorem dX8_reckons_66 : decode cX8_reckons 66 = .ok (.iload_n 2, 1) := by decide +kernel
theorem dX8_reckons_67 : decode cX8_reckons 67 = .ok (.iaload, 1) := by decide +kernel
theorem dX8_reckons_68 : decode cX8_reckons 68 = .ok (.imul, 1) := by decide +kernel
theorem dX8_reckons_69 : decode cX8_reckons 69 = .ok (.iload_n 3, 1) := by decide +kernel
theorem dX8_reckons_70 : decode cX8_reckons 70 = .ok (.iadd, 1) := by decide +kernel
theorem dX8_reckons_71 : decode cX8_reckons 71 = .ok (.istore 4, 2) := by decide +kernel
theorem dX8_reckons_73 : decode cX8_reckons 73 = .ok (.bipush 12, 2) := by decide +kernel
theorem dX8_reckons_75 : decode cX8_reckons 75 = .ok (.aload_n 0, 1) := by decide +kernel
theorem dX8_reckons_76 : decode cX8_reckons 76 = .ok (.getfield 13, 3) := by decide +kernel
theorem dX8_reckons_79 : decode cX8_reckons 79 = .ok (.iload_n 2, 1) := by decide +kernel
theorem dX8_reckons_80 : decode cX8_reckons 80 = .ok (.iaload, 1) := by decide +kernel
theorem dX8_reckons_81 : decode cX8_reckons 81 = .ok (.imul, 1) := by decide +kernel
theorem dX8_reckons_82 : decode cX8_reckons 82 = .ok (.iload_n 3, 1) := by decide +kernel
theorem dX8_reckons_83 : decode cX8_reckons 83 = .ok (.iadd, 1) := by decide +kernel
theorem dX8_reckons_84 : decode cX8_reckons 84 = .ok (.istore 5, 2) := by decide +kernel
theorem dX8_reckons_86 : decode cX8_reckons 86 = .ok (.aload_n 0, 1) := by decide +kernel
theorem dX8_reckons_87 : decode cX8_reckons 87 = .ok (.getfield 22, 3) := by decide +kernel
theorem dX8_reckons_90 : decode cX8_reckons 90 = .ok (.iload 5, 2) := by decide +kernel
theorem dX8_reckons_92 : decode cX8_reckons 92 = .ok (.iaload, 1) := by decide +kernel
theorem dX8_reckons_93 : decode cX8_reckons 93 = .ok (.aload_n 0, 1) := by decide +kernel
theorem dX8_reckons_94 : decode cX8_reckons 94 = .ok (.getfield 19, 3) := by decide +kernel
theorem dX8_reckons_97 : decode cX8_reckons 97 = .ok (.iload_n 2, 1) := by decide +kernel
theorem dX8_reckons_98 : decode cX8_reckons 98 = .ok (.iaload, 1) := by decide +kernel
theorem dX8_reckons_99 : decode cX8_reckons 99 = .ok (.iadd, 1) := by decide +kernel
theorem dX8_reckons_100 : decode cX8_reckons 100 = .ok (.aload_n 0, 1) := by decide +kernel
theorem dX8_reckons_101 : decode cX8_reckons 101 = .ok (.getfield 22, 3) := by decide +kernel
theorem dX8_reckons_104 : decode cX8_reckons 104 = .ok (.iload 4, 2) := by decide +kernel
theorem dX8_reckons_106 : decode cX8_reckons 106 = .ok (.iaload, 1) := by decide +kernel
theorem dX8_reckons_107 : decode cX8_reckons 107 = .ok (.if_icmp .ge 26, 3) := by decide +kernel
theorem dX8_reckons_110 : decode cX8_reckons 110 = .ok (.aload_n 0, 1) := by decide +kernel
theorem dX8_reckons_111 : decode cX8_reckons 111 = .ok (.getfield 22, 3) := by decide +kernel
theorem dX8_reckons_114 : decode cX8_reckons 114 = .ok (.iload 4, 2) := by decide +kernel
theorem dX8_reckons_116 : decode cX8_reckons 116 = .ok (.aload_n 0, 1) := by decide +kernel
theorem dX8_reckons_117 : decode cX8_reckons 117 = .ok (.getfield 22, 3) := by decide +kernel
theorem dX8_reckons_120 : decode cX8_reckons 120 = .ok (.iload 5, 2) := by decide +kernel
theorem dX8_reckons_122 : decode cX8_reckons 122 = .ok (.iaload, 1) := by decide +kernel
theorem dX8_reckons_123 : decode cX8_reckons 123 = .ok (.aload_n 0, 1) := by decide +kernel
theorem dX8_reckons_124 : decode cX8_reckons 124 = .ok (.getfield 19, 3) := by decide +kernel
theorem dX8_reckons_127 : decode cX8_reckons 127 = .ok (.iload_n 2, 1) := by decide +kernel
theorem dX8_reckons_128 : decode cX8_reckons 128 = .ok (.iaload, 1) := by decide +kernel
theorem dX8_reckons_129 : decode cX8_reckons 129 = .ok (.iadd, 1) := by decide +kernel
theorem dX8_reckons_130 : decode cX8_reckons 130 = .ok (.iastore, 1) := by decide +kernel
theorem dX8_reckons_131 : decode cX8_reckons 131 = .ok (.iconst 1, 1) := by decide +kernel
theorem dX8_reckons_132 : decode cX8_reckons 132 = .ok (.istore_n 1, 1) := by decide +kernel
theorem dX8_reckons_133 : decode cX8_reckons 133 = .ok (.aload_n 0, 1) := by decide +kernel
theorem dX8_reckons_134 : decode cX8_reckons 134 = .ok (.getfield 22, 3) := by decide +kernel
theorem dX8_reckons_137 : decode cX8_reckons 137 = .ok (.iload 4, 2) := by decide +kernel
theorem dX8_reckons_139 : decode cX8_reckons 139 = .ok (.iaload, 1) := by decide +kernel
theorem dX8_reckons_140 : decode cX8_reckons 140 = .ok (.aload_n 0, 1) := by decide +kernel
theorem dX8_reckons_141 : decode cX8_reckons 141 = .ok (.getfield 19, 3) := by decide +kernel
theorem dX8_reckons_144 : decode cX8_reckons 144 = .ok (.iload_n 2, 1) := by decide +kernel
theorem dX8_reckons_145 : decode cX8_reckons 145 = .ok (.iaload, 1) := by decide +kernel
theorem dX8_reckons_146 : decode cX8_reckons 146 = .ok (.iadd, 1) := by decide +kernel
theorem dX8_reckons_147 : decode cX8_reckons 147 = .ok (.aload_n 0, 1) := by decide +kernel
theorem dX8_reckons_148 : decode cX8_reckons 148 = .ok (.getfield 22, 3) := by decide +kernel
theorem dX8_reckons_151 : decode cX8_reckons 151 = .ok (.iload 5, 2) := by decide +kernel
theorem dX8_reckons_153 : decode cX8_reckons 153 = .ok (.iaload, 1) := by decide +kernel
theorem dX8_reckons_154 : decode cX8_reckons 154 = .ok (.if_icmp .ge 26, 3) := by decide +kernel
theorem dX8_reckons_157 : decode cX8_reckons 157 = .ok (.aload_n 0, 1) := by decide +kernel
theorem dX8_reckons_158 : decode cX8_reckons 158 = .ok (.getfield 22, 3) := by decide +kernel
theorem dX8_reckons_161 : decode cX8_reckons 161 = .ok (.iload 5, 2) := by decide +kernel
theorem dX8_reckons_163 : decode cX8_reckons 163 = .ok (.aload_n 0, 1) := by decide +kernel
theorem dX8_reckons_164 : decode cX8_reckons 164 = .ok (.getfield 22, 3) := by decide +kernel
theorem dX8_reckons_167 : decode cX8_reckons 167 = .ok (.iload 4, 2) := by decide +kernel
theorem dX8_reckons_169 : decode cX8_reckons 169 = .ok (.iaload, 1) := by decide +kernel
theorem dX8_reckons_170 : decode cX8_reckons 170 = .ok (.aload_n 0, 1) := by decide +kernel
theorem dX8_reckons_171 : decode cX8_reckons 171 = .ok (.getfield 19, 3) := by decide +kernel
theorem dX8_reckons_174 : decode cX8_reckons 174 = .ok (.iload_n 2, 1) := by decide +kernel
theorem dX8_reckons_175 : decode cX8_reckons 175 = .ok (.iaload, 1) := by decide +kernel
theorem dX8_reckons_176 : decode cX8_reckons 176 = .ok (.iadd, 1) := by decide +kernel
theorem dX8_reckons_177 : decode cX8_reckons 177 = .ok (.iastore, 1) := by decide +kernel
theorem dX8_reckons_178 : decode cX8_reckons 178 = .ok (.iconst 1, 1) := by decide +kernel
theorem dX8_reckons_179 : decode cX8_reckons 179 = .ok (.istore_n 1, 1) := by decide +kernel
theorem dX8_reckons_180 : decode cX8_reckons 180 = .ok (.iinc 3 1, 3) := by decide +kernel
theorem dX8_reckons_183 : decode cX8_reckons 183 = .ok (.goto (-129), 3) := by decide +kernel
theorem dX8_reckons_186 : decode cX8_reckons 186 = .ok (.iinc 2 1, 3) := by decide +kernel
theorem dX8_reckons_189 : decode cX8_reckons 189 = .ok (.goto (-145), 3) := by decide +kernel
theorem dX8_reckons_192 : decode cX8_reckons 192 = .ok (.goto (-156), 3) := by decide +kernel
theorem dX8_reckons_195 : decode cX8_reckons 195 = .ok (.return_, 1) := by decide +kernel
theorem dX8_line_0 : decode cX8_line 0 = .ok (.iload_n 1, 1) := by decide +kernel
theorem dX8_line_1 : decode cX8_line 1 = .ok (.invokestatic 101, 3) := by decide +kernel
theorem dX8_line_4 : decode cX8_line 4 = .ok (.ifCond .eq 43, 3) := by decide +kernel
theorem dX8_line_7 : decode cX8_line 7 = .ok (.iload_n 2, 1) := by decide +kernel
theorem dX8_line_8 : decode cX8_line 8 = .ok (.invokestatic 101, 3) := by decide +kernel
theorem dX8_line_11 : decode cX8_line 11 = .ok (.ifCond .eq 36, 3) := by decide +kernel
theorem dX8_line_14 : decode cX8_line 14 = .ok (.iload_n 1, 1) := by decide +kernel
theorem dX8_line_15 : decode cX8_line 15 = .ok (.iload_n 2, 1) := by decide +kernel
theorem dX8_line_16 : decode cX8_line 16 = .ok (.if_icmp .eq 31, 3) := by decide +kernel
theorem dX8_line_19 : decode cX8_line 19 = .ok (.iload_n 3, 1) := by decide +kernel
theorem dX8_line_20 : decode cX8_line 20 = .ok (.invokestatic 105, 3) := by decide +kernel
theorem dX8_line_23 : decode cX8_line 23 = .ok (.ifCond .eq 24, 3) := by decide +kernel
theorem dX8_line_26 : decode cX8_line 26 = .ok (.iload 4, 2) := by decide +kernel
theorem dX8_line_28 : decode cX8_line 28 = .ok (.iconst 1, 1) := by decide +kernel
theorem dX8_line_29 : decode cX8_line 29 = .ok (.sipush 200, 3) := by decide +kernel
theorem dX8_line_32 : decode cX8_line 32 = .ok (.invokestatic 93, 3) := by decide +kernel
theorem dX8_line_35 : decode cX8_line 35 = .ok (.ifCond .eq 12, 3) := by decide +kernel
theorem dX8_line_38 : decode cX8_line 38 = .ok (.aload_n 0, 1) := by decide +kernel
theorem dX8_line_39 : decode cX8_line 39 = .ok (.getfield 98, 3) := by decide +kernel
theorem dX8_line_42 : decode cX8_line 42 = .ok (.bipush 24, 2) := by decide +kernel
theorem dX8_line_44 : decode cX8_line 44 = .ok (.if_icmp .ne 5, 3) := by decide +kernel
theorem dX8_line_47 : decode cX8_line 47 = .ok (.iconst (-1), 1) := by decide +kernel
theorem dX8_line_48 : decode cX8_line 48 = .ok (.ireturn, 1) := by decide +kernel
theorem dX8_line_49 : decode cX8_line 49 = .ok (.aload_n 0, 1) := by decide +kernel
theorem dX8_line_50 : decode cX8_line 50 = .ok (.getfield 9, 3) := by decide +kernel
theorem dX8_line_53 : decode cX8_line 53 = .ok (.aload_n 0, 1) := by decide +kernel
theorem dX8_line_54 : decode cX8_line 54 = .ok (.getfield 98, 3) := by decide +kernel
theorem dX8_line_57 : decode cX8_line 57 = .ok (.iload_n 1, 1) := by decide +kernel
theorem dX8_line_58 : decode cX8_line 58 = .ok (.iastore, 1) := by decide +kernel
theorem dX8_line_59 : decode cX8_line 59 = .ok (.aload_n 0, 1) := by decide +kernel
theorem dX8_line_60 : decode cX8_line 60 = .ok (.getfield 13, 3) := by decide +kernel
theorem dX8_line_63 : decode cX8_line 63 = .ok (.aload_n 0, 1) := by decide +kernel
theorem dX8_line_64 : decode cX8_line 64 = .ok (.getfield 98, 3) := by decide +kernel
theorem dX8_line_67 : decode cX8_line 67 = .ok (.iload_n 2, 1) := by decide +kernel
theorem dX8_line_68 : decode cX8_line 68 = .ok (.iastore, 1) := by decide +kernel
theorem dX8_line_69 : decode cX8_line 69 = .ok (.aload_n 0, 1) := by decide +kernel
theorem dX8_line_70 : decode cX8_line 70 = .ok (.getfield 16, 3) := by decide +kernel
theorem dX8_line_73 : decode cX8_line 73 = .ok (.aload_n 0, 1) := by decide +kernel
theorem dX8_line_74 : decode cX8_line 74 = .ok (.getfield 98, 3) := by decide +kernel
theorem dX8_line_77 : decode cX8_line 77 = .ok (.iload_n 3, 1) := by decide +kernel
theorem dX8_line_78 : decode cX8_line 78 = .ok (.iastore, 1) := by decide +kernel
theorem dX8_line_79 : decode cX8_line 79 = .ok (.aload_n 0, 1) := by decide +kernel
theorem dX8_line_80 : decode cX8_line 80 = .ok (.getfield 19, 3) := by decide +kernel
theorem dX8_line_83 : decode cX8_line 83 = .ok (.aload_n 0, 1) := by decide +kernel
theorem dX8_line_84 : decode cX8_line 84 = .ok (.getfield 98, 3) := by decide +kernel
theorem dX8_line_87 : decode cX8_line 87 = .ok (.iload 4, 2) := by decide +kernel
theorem dX8_line_89 : decode cX8_line 89 = .ok (.iastore, 1) := by decide +kernel
theorem dX8_line_90 : decode cX8_line 90 = .ok (.aload_n 0, 1) := by decide +kernel
theorem dX8_line_91 : decode cX8_line 91 = .ok (.dup, 1) := by decide +kernel
theorem dX8_line_92 : decode cX8_line 92 = .ok (.getfield 98, 3) := by decide +kernel
theorem dX8_line_95 : decode cX8_line 95 = .ok (.iconst 1, 1) := by decide +kernel
theorem dX8_line_96 : decode cX8_line 96 = .ok (.iadd, 1) := by decide +kernel
theorem dX8_line_97 : decode cX8_line 97 = .ok (.putfield 98, 3) := by decide +kernel
theorem dX8_line_100 : decode cX8_line 100 = .ok (.aload_n 0, 1) := by decide +kernel
theorem dX8_line_101 : decode cX8_line 101 = .ok (.invokevirtual 90, 3) := by decide +kernel
theorem dX8_line_104 : decode cX8_line 104 = .ok (.aload_n 0, 1) := by decide +kernel
theorem dX8_line_105 : decode cX8_line 105 = .ok (.getfield 98, 3) := by decide +kernel
theorem dX8_line_108 : decode cX8_line 108 = .ok (.iconst 1, 1) := by decide +kernel
theorem dX8_line_109 : decode cX8_line 109 = .ok (.isub, 1) := by decide +kernel
theorem dX8_line_110 : decode cX8_line 110 = .ok (.ireturn, 1) := by decide +kernel
theorem dX8_least_0 : decode cX8_least 0 = .ok (.iload_n 1, 1) := by decide +kernel
theorem dX8_least_1 : decode cX8_least 1 = .ok (.invokestatic 101, 3) := by decide +kernel
theorem dX8_least_4 : decode cX8_least 4 = .ok (.ifCond .eq 10, 3) := by decide +kernel
theorem dX8_least_7 : decode cX8_least 7 = .ok (.iload_n 2, 1) := by decide +kernel
theorem dX8_least_8 : decode cX8_least 8 = .ok (.invokestatic 101, 3) := by decide +kernel
theorem dX8_least_11 : decode cX8_least 11 = .ok (.ifCond .ne 5, 3) := by decide +kernel
theorem dX8_least_14 : decode cX8_least 14 = .ok (.iconst (-1), 1) := by decide +kernel
theorem dX8_least_15 : decode cX8_least 15 = .ok (.ireturn, 1) := by decide +kernel
theorem dX8_least_16 : decode cX8_least 16 = .ok (.aload_n 0, 1) := by decide +kernel
theorem dX8_least_17 : decode cX8_least 17 = .ok (.getfield 22, 3) := by decide +kernel
theorem dX8_least_20 : decode cX8_least 20 = .ok (.bipush 12, 2) := by decide +kernel
theorem dX8_least_22 : decode cX8_least 22 = .ok (.iload_n 1, 1) := by decide +kernel
theorem dX8_least_23 : decode cX8_least 23 = .ok (.imul, 1) := by decide +kernel
theorem dX8_least_24 : decode cX8_least 24 = .ok (.iload_n 2, 1) := by decide +kernel
theorem dX8_least_25 : decode cX8_least 25 = .ok (.iadd, 1) := by decide +kernel
theorem dX8_least_26 : decode cX8_least 26 = .ok (.iaload, 1) := by decide +kernel
theorem dX8_least_27 : decode cX8_least 27 = .ok (.istore_n 3, 1) := by decide +kernel
theorem dX8_least_28 : decode cX8_least 28 = .ok (.iload_n 3, 1) := by decide +kernel
theorem dX8_least_29 : decode cX8_least 29 = .ok (.ldc 97, 2) := by decide +kernel
theorem dX8_least_31 : decode cX8_least 31 = .ok (.if_icmp .lt 7, 3) := by decide +kernel
theorem dX8_least_34 : decode cX8_least 34 = .ok (.iconst (-1), 1) := by decide +kernel
theorem dX8_least_35 : decode cX8_least 35 = .ok (.goto 4, 3) := by decide +kernel
theorem dX8_least_38 : decode cX8_least 38 = .ok (.iload_n 3, 1) := by decide +kernel
theorem dX8_least_39 : decode cX8_least 39 = .ok (.ireturn, 1) := by decide +kernel
theorem dX8_otherEnd_0 : decode cX8_otherEnd 0 = .ok (.aload_n 0, 1) := by decide +kernel
theorem dX8_otherEnd_1 : decode cX8_otherEnd 1 = .ok (.getfield 9, 3) := by decide +kernel
theorem dX8_otherEnd_4 : decode cX8_otherEnd 4 = .ok (.iload_n 1, 1) := by decide +kernel
theorem dX8_otherEnd_5 : decode cX8_otherEnd 5 = .ok (.iaload, 1) := by decide +kernel
theorem dX8_otherEnd_6 : decode cX8_otherEnd 6 = .ok (.iload_n 2, 1) := by decide +kernel
theorem dX8_otherEnd_7 : decode cX8_otherEnd 7 = .ok (.if_icmp .ne 12, 3) := by decide +kernel
theorem dX8_otherEnd_10 : decode cX8_otherEnd 10 = .ok (.aload_n 0, 1) := by decide +kernel
theorem dX8_otherEnd_11 : decode cX8_otherEnd 11 = .ok (.getfield 13, 3) := by decide +kernel
theorem dX8_otherEnd_14 : decode cX8_otherEnd 14 = .ok (.iload_n 1, 1) := by decide +kernel
theorem dX8_otherEnd_15 : decode cX8_otherEnd 15 = .ok (.iaload, 1) := by decide +kernel
theorem dX8_otherEnd_16 : decode cX8_otherEnd 16 = .ok (.goto 23, 3) := by decide +kernel
theorem dX8_otherEnd_19 : decode cX8_otherEnd 19 = .ok (.aload_n 0, 1) := by decide +kernel
theorem dX8_otherEnd_20 : decode cX8_otherEnd 20 = .ok (.getfield 13, 3) := by decide +kernel
theorem dX8_otherEnd_23 : decode cX8_otherEnd 23 = .ok (.iload_n 1, 1) := by decide +kernel
theorem dX8_otherEnd_24 : decode cX8_otherEnd 24 = .ok (.iaload, 1) := by decide +kernel
theorem dX8_otherEnd_25 : decode cX8_otherEnd 25 = .ok (.iload_n 2, 1) := by decide +kernel
theorem dX8_otherEnd_26 : decode cX8_otherEnd 26 = .ok (.if_icmp .ne 12, 3) := by decide +kernel
theorem dX8_otherEnd_29 : decode cX8_otherEnd 29 = .ok (.aload_n 0, 1) := by decide +kernel
theorem dX8_otherEnd_30 : decode cX8_otherEnd 30 = .ok (.getfield 9, 3) := by decide +kernel
theorem dX8_otherEnd_33 : decode cX8_otherEnd 33 = .ok (.iload_n 1, 1) := by decide +kernel
theorem dX8_otherEnd_34 : decode cX8_otherEnd 34 = .ok (.iaload, 1) := by decide +kernel
theorem dX8_otherEnd_35 : decode cX8_otherEnd 35 = .ok (.goto 4, 3) := by decide +kernel
theorem dX8_otherEnd_38 : decode cX8_otherEnd 38 = .ok (.iconst (-1), 1) := by decide +kernel
theorem dX8_otherEnd_39 : decode cX8_otherEnd 39 = .ok (.ireturn, 1) := by decide +kernel
theorem dX8_route_0 : decode cX8_route 0 = .ok (.iload_n 1, 1) := by decide +kernel
theorem dX8_route_1 : decode cX8_route 1 = .ok (.iload_n 2, 1) := by decide +kernel
theorem dX8_route_2 : decode cX8_route 2 = .ok (.if_icmp .eq 13, 3) := by decide +kernel
theorem dX8_route_5 : decode cX8_route 5 = .ok (.aload_n 0, 1) := by decide +kernel
theorem dX8_route_6 : decode cX8_route 6 = .ok (.iload_n 1, 1) := by decide +kernel
theorem dX8_route_7 : decode cX8_route 7 = .ok (.iload_n 2, 1) := by decide +kernel
theorem dX8_route_8 : decode cX8_route 8 = .ok (.invokevirtual 108, 3) := by decide +kernel
theorem dX8_route_11 : decode cX8_route 11 = .ok (.iconst (-1), 1) := by decide +kernel
theorem dX8_route_12 : decode cX8_route 12 = .ok (.if_icmp .ne 5, 3) := by decide +kernel
theorem dX8_route_15 : decode cX8_route 15 = .ok (.iconst (-1), 1) := by decide +kernel
theorem dX8_route_16 : decode cX8_route 16 = .ok (.ireturn, 1) := by decide +kernel
theorem dX8_route_17 : decode cX8_route 17 = .ok (.iconst (-1), 1) := by decide +kernel
theorem dX8_route_18 : decode cX8_route 18 = .ok (.istore_n 3, 1) := by decide +kernel
theorem dX8_route_19 : decode cX8_route 19 = .ok (.iconst 0, 1) := by decide +kernel
theorem dX8_route_20 : decode cX8_route 20 = .ok (.istore 4, 2) := by decide +kernel
theorem dX8_route_22 : decode cX8_route 22 = .ok (.iload 4, 2) := by decide +kernel
theorem dX8_route_24 : decode cX8_route 24 = .ok (.aload_n 0, 1) := by decide +kernel
theorem dX8_route_25 : decode cX8_route 25 = .ok (.getfield 98, 3) := by decide +kernel
theorem dX8_route_28 : decode cX8_route 28 = .ok (.if_icmp .ge 81, 3) := by decide +kernel
theorem dX8_route_31 : decode cX8_route 31 = .ok (.aload_n 0, 1) := by decide +kernel
theorem dX8_route_32 : decode cX8_route 32 = .ok (.iload 4, 2) := by decide +kernel
theorem dX8_route_34 : decode cX8_route 34 = .ok (.iload_n 1, 1) := by decide +kernel
theorem dX8_route_35 : decode cX8_route 35 = .ok (.invokevirtual 111, 3) := by decide +kernel
theorem dX8_route_38 : decode cX8_route 38 = .ok (.istore 5, 2) := by decide +kernel
theorem dX8_route_40 : decode cX8_route 40 = .ok (.iload 5, 2) := by decide +kernel
theorem dX8_route_42 : decode cX8_route 42 = .ok (.iconst (-1), 1) := by decide +kernel
theorem dX8_route_43 : decode cX8_route 43 = .ok (.if_icmp .eq 60, 3) := by decide +kernel
theorem dX8_route_46 : decode cX8_route 46 = .ok (.aload_n 0, 1) := by decide +kernel
theorem dX8_route_47 : decode cX8_route 47 = .ok (.iload 5, 2) := by decide +kernel
theorem dX8_route_49 : decode cX8_route 49 = .ok (.iload_n 2, 1) := by decide +kernel
theorem dX8_route_50 : decode cX8_route 50 = .ok (.invokevirtual 108, 3) := by decide +kernel
theorem dX8_route_53 : decode cX8_route 53 = .ok (.iconst (-1), 1) := by decide +kernel
theorem dX8_route_54 : decode cX8_route 54 = .ok (.if_icmp .eq 49, 3) := by decide +kernel
theorem dX8_route_57 : decode cX8_route 57 = .ok (.aload_n 0, 1) := by decide +kernel
theorem dX8_route_58 : decode cX8_route 58 = .ok (.getfield 19, 3) := by decide +kernel
theorem dX8_route_61 : decode cX8_route 61 = .ok (.iload 4, 2) := by decide +kernel
theorem dX8_route_63 : decode cX8_route 63 = .ok (.iaload, 1) := by decide +kernel
theorem dX8_route_64 : decode cX8_route 64 = .ok (.aload_n 0, 1) := by decide +kernel
theorem dX8_route_65 : decode cX8_route 65 = .ok (.iload 5, 2) := by decide +kernel
theorem dX8_route_67 : decode cX8_route 67 = .ok (.iload_n 2, 1) := by decide +kernel
theorem dX8_route_68 : decode cX8_route 68 = .ok (.invokevirtual 108, 3) := by decide +kernel
theorem dX8_route_71 : decode cX8_route 71 = .ok (.iadd, 1) := by decide +kernel
theorem dX8_route_72 : decode cX8_route 72 = .ok (.aload_n 0, 1) := by decide +kernel
theorem dX8_route_73 : decode cX8_route 73 = .ok (.iload_n 1, 1) := by decide +kernel
theorem dX8_route_74 : decode cX8_route 74 = .ok (.iload_n 2, 1) := by decide +kernel
theorem dX8_route_75 : decode cX8_route 75 = .ok (.invokevirtual 108, 3) := by decide +kernel
theorem dX8_route_78 : decode cX8_route 78 = .ok (.if_icmp .eq 6, 3) := by decide +kernel
theorem dX8_route_81 : decode cX8_route 81 = .ok (.goto 22, 3) := by decide +kernel
theorem dX8_route_84 : decode cX8_route 84 = .ok (.iload_n 3, 1) := by decide +kernel
theorem dX8_route_85 : decode cX8_route 85 = .ok (.iconst (-1), 1) := by decide +kernel
theorem dX8_route_86 : decode cX8_route 86 = .ok (.if_icmp .eq 14, 3) := by decide +kernel
theorem dX8_route_89 : decode cX8_route 89 = .ok (.iload 5, 2) := by decide +kernel
theorem dX8_route_91 : decode cX8_route 91 = .ok (.aload_n 0, 1) := by decide +kernel
theorem dX8_route_92 : decode cX8_route 92 = .ok (.iload_n 3, 1) := by decide +kernel
theorem dX8_route_93 : decode cX8_route 93 = .ok (.iload_n 1, 1) := by decide +kernel
theorem dX8_route_94 : decode cX8_route 94 = .ok (.invokevirtual 111, 3) := by decide +kernel
theorem dX8_route_97 : decode cX8_route 97 = .ok (.if_icmp .ge 6, 3) := by decide +kernel
theorem dX8_route_100 : decode cX8_route 100 = .ok (.iload 4, 2) := by decide +kernel
theorem dX8_route_102 : decode cX8_route 102 = .ok (.istore_n 3, 1) := by decide +kernel
theorem dX8_route_103 : decode cX8_route 103 = .ok (.iinc 4 1, 3) := by decide +kernel
theorem dX8_route_106 : decode cX8_route 106 = .ok (.goto (-84), 3) := by decide +kernel
theorem dX8_route_109 : decode cX8_route 109 = .ok (.iload_n 3, 1) := by decide +kernel
theorem dX8_route_110 : decode cX8_route 110 = .ok (.ireturn, 1) := by decide +kernel
theorem dX8_parts_0 : decode cX8_parts 0 = .ok (.iload_n 3, 1) := by decide +kernel
theorem dX8_parts_1 : decode cX8_parts 1 = .ok (.iconst 0, 1) := by decide +kernel
theorem dX8_parts_2 : decode cX8_parts 2 = .ok (.ldc 97, 2) := by decide +kernel
theorem dX8_parts_4 : decode cX8_parts 4 = .ok (.invokestatic 93, 3) := by decide +kernel
theorem dX8_parts_7 : decode cX8_parts 7 = .ok (.ifCond .eq 13, 3) := by decide +kernel
theorem dX8_parts_10 : decode cX8_parts 10 = .ok (.aload_n 0, 1) := by decide +kernel
theorem dX8_parts_11 : decode cX8_parts 11 = .ok (.iload_n 1, 1) := by decide +kernel
theorem dX8_parts_12 : decode cX8_parts 12 = .ok (.iload_n 2, 1) := by decide +kernel
theorem dX8_parts_13 : decode cX8_parts 13 = .ok (.invokevirtual 114, 3) := by decide +kernel
theorem dX8_parts_16 : decode cX8_parts 16 = .ok (.iconst (-1), 1) := by decide +kernel
theorem dX8_parts_17 : decode cX8_parts 17 = .ok (.if_icmp .ne 5, 3) := by decide +kernel
theorem dX8_parts_20 : decode cX8_parts 20 = .ok (.iconst 0, 1) := by decide +kernel
theorem dX8_parts_21 : decode cX8_parts 21 = .ok (.ireturn, 1) := by decide +kernel
theorem dX8_parts_22 : decode cX8_parts 22 = .ok (.iconst 0, 1) := by decide +kernel
theorem dX8_parts_23 : decode cX8_parts 23 = .ok (.istore 4, 2) := by decide +kernel
theorem dX8_parts_25 : decode cX8_parts 25 = .ok (.iload 4, 2) := by decide +kernel
theorem dX8_parts_27 : decode cX8_parts 27 = .ok (.bipush 8, 2) := by decide +kernel
theorem dX8_parts_29 : decode cX8_parts 29 = .ok (.if_icmp .ge 25, 3) := by decide +kernel
theorem dX8_parts_32 : decode cX8_parts 32 = .ok (.aload_n 0, 1) := by decide +kernel
theorem dX8_parts_33 : decode cX8_parts 33 = .ok (.getfield 59, 3) := by decide +kernel
theorem dX8_parts_36 : decode cX8_parts 36 = .ok (.iload 4, 2) := by decide +kernel
theorem dX8_parts_38 : decode cX8_parts 38 = .ok (.iconst 0, 1) := by decide +kernel
theorem dX8_parts_39 : decode cX8_parts 39 = .ok (.iastore, 1) := by decide +kernel
theorem dX8_parts_40 : decode cX8_parts 40 = .ok (.aload_n 0, 1) := by decide +kernel
theorem dX8_parts_41 : decode cX8_parts 41 = .ok (.getfield 62, 3) := by decide +kernel
theorem dX8_parts_44 : decode cX8_parts 44 = .ok (.iload 4, 2) := by decide +kernel
theorem dX8_parts_46 : decode cX8_parts 46 = .ok (.iconst 0, 1) := by decide +kernel
theorem dX8_parts_47 : decode cX8_parts 47 = .ok (.iastore, 1) := by decide +kernel
theorem dX8_parts_48 : decode cX8_parts 48 = .ok (.iinc 4 1, 3) := by decide +kernel
theorem dX8_parts_51 : decode cX8_parts 51 = .ok (.goto (-26), 3) := by decide +kernel
theorem dX8_parts_54 : decode cX8_parts 54 = .ok (.iload_n 1, 1) := by decide +kernel
theorem dX8_parts_55 : decode cX8_parts 55 = .ok (.istore 4, 2) := by decide +kernel
theorem dX8_parts_57 : decode cX8_parts 57 = .ok (.iconst (-1), 1) := by decide +kernel
theorem dX8_parts_58 : decode cX8_parts 58 = .ok (.istore 5, 2) := by decide +kernel
theorem dX8_parts_60 : decode cX8_parts 60 = .ok (.iload 4, 2) := by decide +kernel
theorem dX8_parts_62 : decode cX8_parts 62 = .ok (.iload_n 2, 1) := by decide +kernel
theorem dX8_parts_63 : decode cX8_parts 63 = .ok (.if_icmp .eq 47, 3) := by decide +kernel
theorem dX8_parts_66 : decode cX8_parts 66 = .ok (.aload_n 0, 1) := by decide +kernel
theorem dX8_parts_67 : decode cX8_parts 67 = .ok (.iload 4, 2) := by decide +kernel
theorem dX8_parts_69 : decode cX8_parts 69 = .ok (.iload_n 2, 1) := by decide +kernel
theorem dX8_parts_70 : decode cX8_parts 70 = .ok (.invokevirtual 114, 3) := by decide +kernel
theorem dX8_parts_73 : decode cX8_parts 73 = .ok (.istore 5, 2) := by decide +kernel
theorem dX8_parts_75 : decode cX8_parts 75 = .ok (.aload_n 0, 1) := by decide +kernel
theorem dX8_parts_76 : decode cX8_parts 76 = .ok (.getfield 62, 3) := by decide +kernel
theorem dX8_parts_79 : decode cX8_parts 79 = .ok (.aload_n 0, 1) := by decide +kernel
theorem dX8_parts_80 : decode cX8_parts 80 = .ok (.getfield 16, 3) := by decide +kernel
theorem dX8_parts_83 : decode cX8_parts 83 = .ok (.iload 5, 2) := by decide +kernel
theorem dX8_parts_85 : decode cX8_parts 85 = .ok (.iaload, 1) := by decide +kernel
theorem dX8_parts_86 : decode cX8_parts 86 = .ok (.dup2, 1) := by decide +kernel
theorem dX8_parts_87 : decode cX8_parts 87 = .ok (.iaload, 1) := by decide +kernel
theorem dX8_parts_88 : decode cX8_parts 88 = .ok (.aload_n 0, 1) := by decide +kernel
theorem dX8_parts_89 : decode cX8_parts 89 = .ok (.getfield 19, 3) := by decide +kernel
theorem dX8_parts_92 : decode cX8_parts 92 = .ok (.iload 5, 2) := by decide +kernel
theorem dX8_parts_94 : decode cX8_parts 94 = .ok (.iaload, 1) := by decide +kernel
theorem dX8_parts_95 : decode cX8_parts 95 = .ok (.iadd, 1) := by decide +kernel
theorem dX8_parts_96 : decode cX8_parts 96 = .ok (.iastore, 1) := by decide +kernel
theorem dX8_parts_97 : decode cX8_parts 97 = .ok (.aload_n 0, 1) := by decide +kernel
theorem dX8_parts_98 : decode cX8_parts 98 = .ok (.iload 5, 2) := by decide +kernel
theorem dX8_parts_100 : decode cX8_parts 100 = .ok (.iload 4, 2) := by decide +kernel
theorem dX8_parts_102 : decode cX8_parts 102 = .ok (.invokevirtual 111, 3) := by decide +kernel
theorem dX8_parts_105 : decode cX8_parts 105 = .ok (.istore 4, 2) := by decide +kernel
theorem dX8_parts_107 : decode cX8_parts 107 = .ok (.goto (-47), 3) := by decide +kernel
theorem dX8_parts_110 : decode cX8_parts 110 = .ok (.iload_n 3, 1) := by decide +kernel
theorem dX8_parts_111 : decode cX8_parts 111 = .ok (.bipush 10, 2) := by decide +kernel
theorem dX8_parts_113 : decode cX8_parts 113 = .ok (.idiv, 1) := by decide +kernel
theorem dX8_parts_114 : decode cX8_parts 114 = .ok (.istore 6, 2) := by decide +kernel
theorem dX8_parts_116 : decode cX8_parts 116 = .ok (.iload_n 3, 1) := by decide +kernel
theorem dX8_parts_117 : decode cX8_parts 117 = .ok (.iconst 2, 1) := by decide +kernel
theorem dX8_parts_118 : decode cX8_parts 118 = .ok (.iload 6, 2) := by decide +kernel
theorem dX8_parts_120 : decode cX8_parts 120 = .ok (.imul, 1) := by decide +kernel
theorem dX8_parts_121 : decode cX8_parts 121 = .ok (.isub, 1) := by decide +kernel
theorem dX8_parts_122 : decode cX8_parts 122 = .ok (.istore 7, 2) := by decide +kernel
theorem dX8_parts_124 : decode cX8_parts 124 = .ok (.aload_n 0, 1) := by decide +kernel
theorem dX8_parts_125 : decode cX8_parts 125 = .ok (.iload_n 1, 1) := by decide +kernel
theorem dX8_parts_126 : decode cX8_parts 126 = .ok (.iload_n 2, 1) := by decide +kernel
theorem dX8_parts_127 : decode cX8_parts 127 = .ok (.invokevirtual 108, 3) := by decide +kernel
theorem dX8_parts_130 : decode cX8_parts 130 = .ok (.istore 8, 2) := by decide +kernel
theorem dX8_parts_132 : decode cX8_parts 132 = .ok (.iload 7, 2) := by decide +kernel
theorem dX8_parts_134 : decode cX8_parts 134 = .ok (.istore 9, 2) := by decide +kernel
theorem dX8_parts_136 : decode cX8_parts 136 = .ok (.iconst 0, 1) := by decide +kernel
theorem dX8_parts_137 : decode cX8_parts 137 = .ok (.istore 10, 2) := by decide +kernel
theorem dX8_parts_139 : decode cX8_parts 139 = .ok (.iload 10, 2) := by decide +kernel
theorem dX8_parts_141 : decode cX8_parts 141 = .ok (.bipush 8, 2) := by decide +kernel
theorem dX8_parts_143 : decode cX8_parts 143 = .ok (.if_icmp .ge 78, 3) := by decide +kernel
theorem dX8_parts_146 : decode cX8_parts 146 = .ok (.iload 7, 2) := by decide +kernel
theorem dX8_parts_148 : decode cX8_parts 148 = .ok (.i2l, 1) := by decide +kernel
theorem dX8_parts_149 : decode cX8_parts 149 = .ok (.aload_n 0, 1) := by decide +kernel
theorem dX8_parts_150 : decode cX8_parts 150 = .ok (.getfield 62, 3) := by decide +kernel
theorem dX8_parts_153 : decode cX8_parts 153 = .ok (.iload 10, 2) := by decide +kernel
theorem dX8_parts_155 : decode cX8_parts 155 = .ok (.iaload, 1) := by decide +kernel
theorem dX8_parts_156 : decode cX8_parts 156 = .ok (.i2l, 1) := by decide +kernel
theorem dX8_parts_157 : decode cX8_parts 157 = .ok (.lmul, 1) := by decide +kernel
theorem dX8_parts_158 : decode cX8_parts 158 = .ok (.lstore 11, 2) := by decide +kernel
theorem dX8_parts_160 : decode cX8_parts 160 = .ok (.aload_n 0, 1) := by decide +kernel
theorem dX8_parts_161 : decode cX8_parts 161 = .ok (.getfield 59, 3) := by decide +kernel
theorem dX8_parts_164 : decode cX8_parts 164 = .ok (.iload 10, 2) := by decide +kernel
theorem dX8_parts_166 : decode cX8_parts 166 = .ok (.lload 11, 2) := by decide +kernel
theorem dX8_parts_168 : decode cX8_parts 168 = .ok (.iload 8, 2) := by decide +kernel
theorem dX8_parts_170 : decode cX8_parts 170 = .ok (.i2l, 1) := by decide +kernel
theorem dX8_parts_171 : decode cX8_parts 171 = .ok (.ldiv, 1) := by decide +kernel
theorem dX8_parts_172 : decode cX8_parts 172 = .ok (.l2i, 1) := by decide +kernel
theorem dX8_parts_173 : decode cX8_parts 173 = .ok (.iastore, 1) := by decide +kernel
theorem dX8_parts_174 : decode cX8_parts 174 = .ok (.aload_n 0, 1) := by decide +kernel
theorem dX8_parts_175 : decode cX8_parts 175 = .ok (.getfield 65, 3) := by decide +kernel
theorem dX8_parts_178 : decode cX8_parts 178 = .ok (.iload 10, 2) := by decide +kernel
theorem dX8_parts_180 : decode cX8_parts 180 = .ok (.aload_n 0, 1) := by decide +kernel
theorem dX8_parts_181 : decode cX8_parts 181 = .ok (.getfield 62, 3) := by decide +kernel
theorem dX8_parts_184 : decode cX8_parts 184 = .ok (.iload 10, 2) := by decide +kernel
theorem dX8_parts_186 : decode cX8_parts 186 = .ok (.iaload, 1) := by decide +kernel
theorem dX8_parts_187 : decode cX8_parts 187 = .ok (.ifCond .ne 9, 3) := by decide +kernel
theorem dX8_parts_190 : decode cX8_parts 190 = .ok (.ldc2_w 117, 3) := by decide +kernel
theorem dX8_parts_193 : decode cX8_parts 193 = .ok (.goto 9, 3) := by decide +kernel
theorem dX8_parts_196 : decode cX8_parts 196 = .ok (.lload 11, 2) := by decide +kernel
theorem dX8_parts_198 : decode cX8_parts 198 = .ok (.iload 8, 2) := by decide +kernel
theorem dX8_parts_200 : decode cX8_parts 200 = .ok (.i2l, 1) := by decide +kernel
theorem dX8_parts_201 : decode cX8_parts 201 = .ok (.lrem, 1) := by decide +kernel
theorem dX8_parts_202 : decode cX8_parts 202 = .ok (.lastore, 1) := by decide +kernel
theorem dX8_parts_203 : decode cX8_parts 203 = .ok (.iload 9, 2) := by decide +kernel
theorem dX8_parts_205 : decode cX8_parts 205 = .ok (.aload_n 0, 1) := by decide +kernel
theorem dX8_parts_206 : decode cX8_parts 206 = .ok (.getfield 59, 3) := by decide +kernel
theorem dX8_parts_209 : decode cX8_parts 209 = .ok (.iload 10, 2) := by decide +kernel
theorem dX8_parts_211 : decode cX8_parts 211 = .ok (.iaload, 1) := by decide +kernel
theorem dX8_parts_212 : decode cX8_parts 212 = .ok (.isub, 1) := by decide +kernel
theorem dX8_parts_213 : decode cX8_parts 213 = .ok (.istore 9, 2) := by decide +kernel
theorem dX8_parts_215 : decode cX8_parts 215 = .ok (.iinc 10 1, 3) := by decide +kernel
theorem dX8_parts_218 : decode cX8_parts 218 = .ok (.goto (-79), 3) := by decide +kernel
theorem dX8_parts_221 : decode cX8_parts 221 = .ok (.iload 9, 2) := by decide +kernel
theorem dX8_parts_223 : decode cX8_parts 223 = .ok (.ifCond .le 71, 3) := by decide +kernel
theorem dX8_parts_226 : decode cX8_parts 226 = .ok (.iconst 0, 1) := by decide +kernel
theorem dX8_parts_227 : decode cX8_parts 227 = .ok (.istore 10, 2) := by decide +kernel
theorem dX8_parts_229 : decode cX8_parts 229 = .ok (.iconst 1, 1) := by decide +kernel
theorem dX8_parts_230 : decode cX8_parts 230 = .ok (.istore 11, 2) := by decide +kernel
theorem dX8_parts_232 : decode cX8_parts 232 = .ok (.iload 11, 2) := by decide +kernel
theorem dX8_parts_234 : decode cX8_parts 234 = .ok (.bipush 8, 2) := by decide +kernel
theorem dX8_parts_236 : decode cX8_parts 236 = .ok (.if_icmp .ge 31, 3) := by decide +kernel
theorem dX8_parts_239 : decode cX8_parts 239 = .ok (.aload_n 0, 1) := by decide +kernel
theorem dX8_parts_240 : decode cX8_parts 240 = .ok (.getfield 65, 3) := by decide +kernel
theorem dX8_parts_243 : decode cX8_parts 243 = .ok (.iload 11, 2) := by decide +kernel
theorem dX8_parts_245 : decode cX8_parts 245 = .ok (.laload, 1) := by decide +kernel
theorem dX8_parts_246 : decode cX8_parts 246 = .ok (.aload_n 0, 1) := by decide +kernel
theorem dX8_parts_247 : decode cX8_parts 247 = .ok (.getfield 65, 3) := by decide +kernel
theorem dX8_parts_250 : decode cX8_parts 250 = .ok (.iload 10, 2) := by decide +kernel
theorem dX8_parts_252 : decode cX8_parts 252 = .ok (.laload, 1) := by decide +kernel
theorem dX8_parts_253 : decode cX8_parts 253 = .ok (.lcmp, 1) := by decide +kernel
theorem dX8_parts_254 : decode cX8_parts 254 = .ok (.ifCond .le 7, 3) := by decide +kernel
theorem dX8_parts_257 : decode cX8_parts 257 = .ok (.iload 11, 2) := by decide +kernel
theorem dX8_parts_259 : decode cX8_parts 259 = .ok (.istore 10, 2) := by decide +kernel
theorem dX8_parts_261 : decode cX8_parts 261 = .ok (.iinc 11 1, 3) := by decide +kernel
theorem dX8_parts_264 : decode cX8_parts 264 = .ok (.goto (-32), 3) := by decide +kernel
theorem dX8_parts_267 : decode cX8_parts 267 = .ok (.aload_n 0, 1) := by decide +kernel
theorem dX8_parts_268 : decode cX8_parts 268 = .ok (.getfield 59, 3) := by decide +kernel
theorem dX8_parts_271 : decode cX8_parts 271 = .ok (.iload 10, 2) := by decide +kernel
theorem dX8_parts_273 : decode cX8_parts 273 = .ok (.dup2, 1) := by decide +kernel
theorem dX8_parts_274 : decode cX8_parts 274 = .ok (.iaload, 1) := by decide +kernel
theorem dX8_parts_275 : decode cX8_parts 275 = .ok (.iconst 1, 1) := by decide +kernel
theorem dX8_parts_276 : decode cX8_parts 276 = .ok (.iadd, 1) := by decide +kernel
theorem dX8_parts_277 : decode cX8_parts 277 = .ok (.iastore, 1) := by decide +kernel
theorem dX8_parts_278 : decode cX8_parts 278 = .ok (.aload_n 0, 1) := by decide +kernel
theorem dX8_parts_279 : decode cX8_parts 279 = .ok (.getfield 65, 3) := by decide +kernel
theorem dX8_parts_282 : decode cX8_parts 282 = .ok (.iload 10, 2) := by decide +kernel
theorem dX8_parts_284 : decode cX8_parts 284 = .ok (.ldc2_w 117, 3) := by decide +kernel
theorem dX8_parts_287 : decode cX8_parts 287 = .ok (.lastore, 1) := by decide +kernel
theorem dX8_parts_288 : decode cX8_parts 288 = .ok (.iinc 9 (-1), 3) := by decide +kernel
theorem dX8_parts_291 : decode cX8_parts 291 = .ok (.goto (-70), 3) := by decide +kernel
theorem dX8_parts_294 : decode cX8_parts 294 = .ok (.aload_n 0, 1) := by decide +kernel
theorem dX8_parts_295 : decode cX8_parts 295 = .ok (.getfield 59, 3) := by decide +kernel
theorem dX8_parts_298 : decode cX8_parts 298 = .ok (.aload_n 0, 1) := by decide +kernel
theorem dX8_parts_299 : decode cX8_parts 299 = .ok (.getfield 16, 3) := by decide +kernel
theorem dX8_parts_302 : decode cX8_parts 302 = .ok (.aload_n 0, 1) := by decide +kernel
theorem dX8_parts_303 : decode cX8_parts 303 = .ok (.iload_n 1, 1) := by decide +kernel
theorem dX8_parts_304 : decode cX8_parts 304 = .ok (.iload_n 2, 1) := by decide +kernel
theorem dX8_parts_305 : decode cX8_parts 305 = .ok (.invokevirtual 114, 3) := by decide +kernel
theorem dX8_parts_308 : decode cX8_parts 308 = .ok (.iaload, 1) := by decide +kernel
theorem dX8_parts_309 : decode cX8_parts 309 = .ok (.dup2, 1) := by decide +kernel
theorem dX8_parts_310 : decode cX8_parts 310 = .ok (.iaload, 1) := by decide +kernel
theorem dX8_parts_311 : decode cX8_parts 311 = .ok (.iload 6, 2) := by decide +kernel
theorem dX8_parts_313 : decode cX8_parts 313 = .ok (.iadd, 1) := by decide +kernel
theorem dX8_parts_314 : decode cX8_parts 314 = .ok (.iastore, 1) := by decide +kernel
theorem dX8_parts_315 : decode cX8_parts 315 = .ok (.aload_n 0, 1) := by decide +kernel
theorem dX8_parts_316 : decode cX8_parts 316 = .ok (.getfield 59, 3) := by decide +kernel
theorem dX8_parts_319 : decode cX8_parts 319 = .ok (.aload_n 0, 1) := by decide +kernel
theorem dX8_parts_320 : decode cX8_parts 320 = .ok (.getfield 16, 3) := by decide +kernel
theorem dX8_parts_323 : decode cX8_parts 323 = .ok (.iload 5, 2) := by decide +kernel
theorem dX8_parts_325 : decode cX8_parts 325 = .ok (.iaload, 1) := by decide +kernel
theorem dX8_parts_326 : decode cX8_parts 326 = .ok (.dup2, 1) := by decide +kernel
theorem dX8_parts_327 : decode cX8_parts 327 = .ok (.iaload, 1) := by decide +kernel
theorem dX8_parts_328 : decode cX8_parts 328 = .ok (.iload 6, 2) := by decide +kernel
theorem dX8_parts_330 : decode cX8_parts 330 = .ok (.iadd, 1) := by decide +kernel
theorem dX8_parts_331 : decode cX8_parts 331 = .ok (.iastore, 1) := by decide +kernel
theorem dX8_parts_332 : decode cX8_parts 332 = .ok (.iconst 1, 1) := by decide +kernel
theorem dX8_parts_333 : decode cX8_parts 333 = .ok (.ireturn, 1) := by decide +kernel
theorem dX8_part_0 : decode cX8_part 0 = .ok (.iload 4, 2) := by decide +kernel
theorem dX8_part_2 : decode cX8_part 2 = .ok (.invokestatic 105, 3) := by decide +kernel
theorem dX8_part_5 : decode cX8_part 5 = .ok (.ifCond .eq 23, 3) := by decide +kernel
theorem dX8_part_8 : decode cX8_part 8 = .ok (.aload_n 0, 1) := by decide +kernel
theorem dX8_part_9 : decode cX8_part 9 = .ok (.iload_n 1, 1) := by decide +kernel
theorem dX8_part_10 : decode cX8_part 10 = .ok (.iload_n 2, 1) := by decide +kernel
theorem dX8_part_11 : decode cX8_part 11 = .ok (.iload_n 3, 1) := by decide +kernel
theorem dX8_part_12 : decode cX8_part 12 = .ok (.invokevirtual 119, 3) := by decide +kernel
theorem dX8_part_15 : decode cX8_part 15 = .ok (.ifCond .eq 13, 3) := by decide +kernel
theorem dX8_part_18 : decode cX8_part 18 = .ok (.aload_n 0, 1) := by decide +kernel
theorem dX8_part_19 : decode cX8_part 19 = .ok (.getfield 59, 3) := by decide +kernel
theorem dX8_part_22 : decode cX8_part 22 = .ok (.iload 4, 2) := by decide +kernel
theorem dX8_part_24 : decode cX8_part 24 = .ok (.iaload, 1) := by decide +kernel
theorem dX8_part_25 : decode cX8_part 25 = .ok (.goto 4, 3) := by decide +kernel
theorem dX8_part_28 : decode cX8_part 28 = .ok (.iconst (-1), 1) := by decide +kernel
theorem dX8_part_29 : decode cX8_part 29 = .ok (.ireturn, 1) := by decide +kernel
theorem dX8_book_0 : decode cX8_book 0 = .ok (.iload 4, 2) := by decide +kernel
theorem dX8_book_2 : decode cX8_book 2 = .ok (.invokestatic 105, 3) := by decide +kernel
theorem dX8_book_5 : decode cX8_book 5 = .ok (.ifCond .eq 23, 3) := by decide +kernel
theorem dX8_book_8 : decode cX8_book 8 = .ok (.aload_n 0, 1) := by decide +kernel
theorem dX8_book_9 : decode cX8_book 9 = .ok (.getfield 121, 3) := by decide +kernel
theorem dX8_book_12 : decode cX8_book 12 = .ok (.sipush 1000, 3) := by decide +kernel
theorem dX8_book_15 : decode cX8_book 15 = .ok (.if_icmp .eq 13, 3) := by decide +kernel
theorem dX8_book_18 : decode cX8_book 18 = .ok (.aload_n 0, 1) := by decide +kernel
theorem dX8_book_19 : decode cX8_book 19 = .ok (.iload_n 1, 1) := by decide +kernel
theorem dX8_book_20 : decode cX8_book 20 = .ok (.iload_n 2, 1) := by decide +kernel
theorem dX8_book_21 : decode cX8_book 21 = .ok (.iload_n 3, 1) := by decide +kernel
theorem dX8_book_22 : decode cX8_book 22 = .ok (.invokevirtual 119, 3) := by decide +kernel
theorem dX8_book_25 : decode cX8_book 25 = .ok (.ifCond .ne 5, 3) := by decide +kernel
theorem dX8_book_28 : decode cX8_book 28 = .ok (.iconst 0, 1) := by decide +kernel
theorem dX8_book_29 : decode cX8_book 29 = .ok (.ireturn, 1) := by decide +kernel
theorem dX8_book_30 : decode cX8_book 30 = .ok (.iconst 0, 1) := by decide +kernel
theorem dX8_book_31 : decode cX8_book 31 = .ok (.istore 5, 2) := by decide +kernel
theorem dX8_book_33 : decode cX8_book 33 = .ok (.iload 5, 2) := by decide +kernel
theorem dX8_book_35 : decode cX8_book 35 = .ok (.bipush 8, 2) := by decide +kernel
theorem dX8_book_37 : decode cX8_book 37 = .ok (.if_icmp .ge 43, 3) := by decide +kernel
theorem dX8_book_40 : decode cX8_book 40 = .ok (.aload_n 0, 1) := by decide +kernel
theorem dX8_book_41 : decode cX8_book 41 = .ok (.getfield 50, 3) := by decide +kernel
theorem dX8_book_44 : decode cX8_book 44 = .ok (.iload 5, 2) := by decide +kernel
theorem dX8_book_46 : decode cX8_book 46 = .ok (.dup2, 1) := by decide +kernel
theorem dX8_book_47 : decode cX8_book 47 = .ok (.iaload, 1) := by decide +kernel
theorem dX8_book_48 : decode cX8_book 48 = .ok (.aload_n 0, 1) := by decide +kernel
theorem dX8_book_49 : decode cX8_book 49 = .ok (.getfield 59, 3) := by decide +kernel
theorem dX8_book_52 : decode cX8_book 52 = .ok (.iload 5, 2) := by decide +kernel
theorem dX8_book_54 : decode cX8_book 54 = .ok (.iaload, 1) := by decide +kernel
theorem dX8_book_55 : decode cX8_book 55 = .ok (.iadd, 1) := by decide +kernel
theorem dX8_book_56 : decode cX8_book 56 = .ok (.iastore, 1) := by decide +kernel
theorem dX8_book_57 : decode cX8_book 57 = .ok (.aload_n 0, 1) := by decide +kernel
theorem dX8_book_58 : decode cX8_book 58 = .ok (.getfield 50, 3) := by decide +kernel
theorem dX8_book_61 : decode cX8_book 61 = .ok (.iload 4, 2) := by decide +kernel
theorem dX8_book_63 : decode cX8_book 63 = .ok (.dup2, 1) := by decide +kernel
theorem dX8_book_64 : decode cX8_book 64 = .ok (.iaload, 1) := by decide +kernel
theorem dX8_book_65 : decode cX8_book 65 = .ok (.aload_n 0, 1) := by decide +kernel
theorem dX8_book_66 : decode cX8_book 66 = .ok (.getfield 59, 3) := by decide +kernel
theorem dX8_book_69 : decode cX8_book 69 = .ok (.iload 5, 2) := by decide +kernel
theorem dX8_book_71 : decode cX8_book 71 = .ok (.iaload, 1) := by decide +kernel
theorem dX8_book_72 : decode cX8_book 72 = .ok (.isub, 1) := by decide +kernel
theorem dX8_book_73 : decode cX8_book 73 = .ok (.iastore, 1) := by decide +kernel
theorem dX8_book_74 : decode cX8_book 74 = .ok (.iinc 5 1, 3) := by decide +kernel
theorem dX8_book_77 : decode cX8_book 77 = .ok (.goto (-44), 3) := by decide +kernel
theorem dX8_book_80 : decode cX8_book 80 = .ok (.aload_n 0, 1) := by decide +kernel
theorem dX8_book_81 : decode cX8_book 81 = .ok (.dup, 1) := by decide +kernel
theorem dX8_book_82 : decode cX8_book 82 = .ok (.getfield 121, 3) := by decide +kernel
theorem dX8_book_85 : decode cX8_book 85 = .ok (.iconst 1, 1) := by decide +kernel
theorem dX8_book_86 : decode cX8_book 86 = .ok (.iadd, 1) := by decide +kernel
theorem dX8_book_87 : decode cX8_book 87 = .ok (.putfield 121, 3) := by decide +kernel
theorem dX8_book_90 : decode cX8_book 90 = .ok (.iconst 1, 1) := by decide +kernel
theorem dX8_book_91 : decode cX8_book 91 = .ok (.ireturn, 1) := by decide +kernel
theorem dX8_wagon_0 : decode cX8_wagon 0 = .ok (.iload_n 1, 1) := by decide +kernel
theorem dX8_wagon_1 : decode cX8_wagon 1 = .ok (.sipush 10000, 3) := by decide +kernel
theorem dX8_wagon_4 : decode cX8_wagon 4 = .ok (.ldc 124, 2) := by decide +kernel
theorem dX8_wagon_6 : decode cX8_wagon 6 = .ok (.invokestatic 93, 3) := by decide +kernel
theorem dX8_wagon_9 : decode cX8_wagon 9 = .ok (.ifCond .eq 18, 3) := by decide +kernel
theorem dX8_wagon_12 : decode cX8_wagon 12 = .ok (.iload_n 2, 1) := by decide +kernel
theorem dX8_wagon_13 : decode cX8_wagon 13 = .ok (.invokestatic 105, 3) := by decide +kernel
theorem dX8_wagon_16 : decode cX8_wagon 16 = .ok (.ifCond .eq 11, 3) := by decide +kernel
theorem dX8_wagon_19 : decode cX8_wagon 19 = .ok (.aload_n 0, 1) := by decide +kernel
theorem dX8_wagon_20 : decode cX8_wagon 20 = .ok (.getfield 125, 3) := by decide +kernel
theorem dX8_wagon_23 : decode cX8_wagon 23 = .ok (.iconst 4, 1) := by decide +kernel
theorem dX8_wagon_24 : decode cX8_wagon 24 = .ok (.if_icmp .ne 5, 3) := by decide +kernel
theorem dX8_wagon_27 : decode cX8_wagon 27 = .ok (.iconst (-1), 1) := by decide +kernel
theorem dX8_wagon_28 : decode cX8_wagon 28 = .ok (.ireturn, 1) := by decide +kernel
theorem dX8_wagon_29 : decode cX8_wagon 29 = .ok (.iconst 0, 1) := by decide +kernel
theorem dX8_wagon_30 : decode cX8_wagon 30 = .ok (.istore_n 3, 1) := by decide +kernel
theorem dX8_wagon_31 : decode cX8_wagon 31 = .ok (.iload_n 3, 1) := by decide +kernel
theorem dX8_wagon_32 : decode cX8_wagon 32 = .ok (.aload_n 0, 1) := by decide +kernel
theorem dX8_wagon_33 : decode cX8_wagon 33 = .ok (.getfield 125, 3) := by decide +kernel
theorem dX8_wagon_36 : decode cX8_wagon 36 = .ok (.if_icmp .ge 21, 3) := by decide +kernel
theorem dX8_wagon_39 : decode cX8_wagon 39 = .ok (.aload_n 0, 1) := by decide +kernel
theorem dX8_wagon_40 : decode cX8_wagon 40 = .ok (.getfield 25, 3) := by decide +kernel
theorem dX8_wagon_43 : decode cX8_wagon 43 = .ok (.iload_n 3, 1) := by decide +kernel
theorem dX8_wagon_44 : decode cX8_wagon 44 = .ok (.iaload, 1) := by decide +kernel
theorem dX8_wagon_45 : decode cX8_wagon 45 = .ok (.iload_n 1, 1) := by decide +kernel
theorem dX8_wagon_46 : decode cX8_wagon 46 = .ok (.if_icmp .ne 5, 3) := by decide +kernel
theorem dX8_wagon_49 : decode cX8_wagon 49 = .ok (.iconst (-1), 1) := by decide +kernel
theorem dX8_wagon_50 : decode cX8_wagon 50 = .ok (.ireturn, 1) := by decide +kernel
theorem dX8_wagon_51 : decode cX8_wagon 51 = .ok (.iinc 3 1, 3) := by decide +kernel
theorem dX8_wagon_54 : decode cX8_wagon 54 = .ok (.goto (-23), 3) := by decide +kernel
theorem dX8_wagon_57 : decode cX8_wagon 57 = .ok (.aload_n 0, 1) := by decide +kernel
theorem dX8_wagon_58 : decode cX8_wagon 58 = .ok (.getfield 25, 3) := by decide +kernel
theorem dX8_wagon_61 : decode cX8_wagon 61 = .ok (.aload_n 0, 1) := by decide +kernel
theorem dX8_wagon_62 : decode cX8_wagon 62 = .ok (.getfield 125, 3) := by decide +kernel
theorem dX8_wagon_65 : decode cX8_wagon 65 = .ok (.iload_n 1, 1) := by decide +kernel
theorem dX8_wagon_66 : decode cX8_wagon 66 = .ok (.iastore, 1) := by decide +kernel
theorem dX8_wagon_67 : decode cX8_wagon 67 = .ok (.aload_n 0, 1) := by decide +kernel
theorem dX8_wagon_68 : decode cX8_wagon 68 = .ok (.getfield 28, 3) := by decide +kernel
theorem dX8_wagon_71 : decode cX8_wagon 71 = .ok (.aload_n 0, 1) := by decide +kernel
theorem dX8_wagon_72 : decode cX8_wagon 72 = .ok (.getfield 125, 3) := by decide +kernel
theorem dX8_wagon_75 : decode cX8_wagon 75 = .ok (.iload_n 2, 1) := by decide +kernel
theorem dX8_wagon_76 : decode cX8_wagon 76 = .ok (.iastore, 1) := by decide +kernel
theorem dX8_wagon_77 : decode cX8_wagon 77 = .ok (.aload_n 0, 1) := by decide +kernel
theorem dX8_wagon_78 : decode cX8_wagon 78 = .ok (.dup, 1) := by decide +kernel
theorem dX8_wagon_79 : decode cX8_wagon 79 = .ok (.getfield 125, 3) := by decide +kernel
theorem dX8_wagon_82 : decode cX8_wagon 82 = .ok (.iconst 1, 1) := by decide +kernel
theorem dX8_wagon_83 : decode cX8_wagon 83 = .ok (.iadd, 1) := by decide +kernel
theorem dX8_wagon_84 : decode cX8_wagon 84 = .ok (.putfield 125, 3) := by decide +kernel
theorem dX8_wagon_87 : decode cX8_wagon 87 = .ok (.aload_n 0, 1) := by decide +kernel
theorem dX8_wagon_88 : decode cX8_wagon 88 = .ok (.getfield 125, 3) := by decide +kernel
theorem dX8_wagon_91 : decode cX8_wagon 91 = .ok (.iconst 1, 1) := by decide +kernel
theorem dX8_wagon_92 : decode cX8_wagon 92 = .ok (.isub, 1) := by decide +kernel
theorem dX8_wagon_93 : decode cX8_wagon 93 = .ok (.ireturn, 1) := by decide +kernel
theorem dX8_see_0 : decode cX8_see 0 = .ok (.iload_n 1, 1) := by decide +kernel
theorem dX8_see_1 : decode cX8_see 1 = .ok (.sipush 10000, 3) := by decide +kernel
theorem dX8_see_4 : decode cX8_see 4 = .ok (.ldc 124, 2) := by decide +kernel
theorem dX8_see_6 : decode cX8_see 6 = .ok (.invokestatic 93, 3) := by decide +kernel
theorem dX8_see_9 : decode cX8_see 9 = .ok (.ifCond .eq 38, 3) := by decide +kernel
theorem dX8_see_12 : decode cX8_see 12 = .ok (.iload_n 2, 1) := by decide +kernel
theorem dX8_see_13 : decode cX8_see 13 = .ok (.invokestatic 101, 3) := by decide +kernel
theorem dX8_see_16 : decode cX8_see 16 = .ok (.ifCond .eq 31, 3) := by decide +kernel
theorem dX8_see_19 : decode cX8_see 19 = .ok (.iload_n 3, 1) := by decide +kernel
theorem dX8_see_20 : decode cX8_see 20 = .ok (.iconst 0, 1) := by decide +kernel
theorem dX8_see_21 : decode cX8_see 21 = .ok (.sipush 999, 3) := by decide +kernel
theorem dX8_see_24 : decode cX8_see 24 = .ok (.invokestatic 93, 3) := by decide +kernel
theorem dX8_see_27 : decode cX8_see 27 = .ok (.ifCond .eq 20, 3) := by decide +kernel
theorem dX8_see_30 : decode cX8_see 30 = .ok (.iload 4, 2) := by decide +kernel
theorem dX8_see_32 : decode cX8_see 32 = .ok (.invokestatic 105, 3) := by decide +kernel
theorem dX8_see_35 : decode cX8_see 35 = .ok (.ifCond .eq 12, 3) := by decide +kernel
theorem dX8_see_38 : decode cX8_see 38 = .ok (.aload_n 0, 1) := by decide +kernel
theorem dX8_see_39 : decode cX8_see 39 = .ok (.getfield 128, 3) := by decide +kernel
theorem dX8_see_42 : decode cX8_see 42 = .ok (.bipush 7, 2) := by decide +kernel
theorem dX8_see_44 : decode cX8_see 44 = .ok (.if_icmp .ne 5, 3) := by decide +kernel
theorem dX8_see_47 : decode cX8_see 47 = .ok (.iconst (-1), 1) := by decide +kernel
theorem dX8_see_48 : decode cX8_see 48 = .ok (.ireturn, 1) := by decide +kernel
theorem dX8_see_49 : decode cX8_see 49 = .ok (.aload_n 0, 1) := by decide +kernel
theorem dX8_see_50 : decode cX8_see 50 = .ok (.getfield 128, 3) := by decide +kernel
theorem dX8_see_53 : decode cX8_see 53 = .ok (.ifCond .le 20, 3) := by decide +kernel
theorem dX8_see_56 : decode cX8_see 56 = .ok (.iload_n 3, 1) := by decide +kernel
theorem dX8_see_57 : decode cX8_see 57 = .ok (.aload_n 0, 1) := by decide +kernel
theorem dX8_see_58 : decode cX8_see 58 = .ok (.getfield 37, 3) := by decide +kernel
theorem dX8_see_61 : decode cX8_see 61 = .ok (.aload_n 0, 1) := by decide +kernel
theorem dX8_see_62 : decode cX8_see 62 = .ok (.getfield 128, 3) := by decide +kernel
theorem dX8_see_65 : decode cX8_see 65 = .ok (.iconst 1, 1) := by decide +kernel
theorem dX8_see_66 : decode cX8_see 66 = .ok (.isub, 1) := by decide +kernel
theorem dX8_see_67 : decode cX8_see 67 = .ok (.iaload, 1) := by decide +kernel
theorem dX8_see_68 : decode cX8_see 68 = .ok (.if_icmp .ge 5, 3) := by decide +kernel
theorem dX8_see_71 : decode cX8_see 71 = .ok (.iconst (-1), 1) := by decide +kernel
theorem dX8_see_72 : decode cX8_see 72 = .ok (.ireturn, 1) := by decide +kernel
theorem dX8_see_73 : decode cX8_see 73 = .ok (.aload_n 0, 1) := by decide +kernel
theorem dX8_see_74 : decode cX8_see 74 = .ok (.getfield 31, 3) := by decide +kernel
theorem dX8_see_77 : decode cX8_see 77 = .ok (.aload_n 0, 1) := by decide +kernel
theorem dX8_see_78 : decode cX8_see 78 = .ok (.getfield 128, 3) := by decide +kernel
theorem dX8_see_81 : decode cX8_see 81 = .ok (.iload_n 1, 1) := by decide +kernel
theorem dX8_see_82 : decode cX8_see 82 = .ok (.iastore, 1) := by decide +kernel
theorem dX8_see_83 : decode cX8_see 83 = .ok (.aload_n 0, 1) := by decide +kernel
theorem dX8_see_84 : decode cX8_see 84 = .ok (.getfield 34, 3) := by decide +kernel
theorem dX8_see_87 : decode cX8_see 87 = .ok (.aload_n 0, 1) := by decide +kernel
theorem dX8_see_88 : decode cX8_see 88 = .ok (.getfield 128, 3) := by decide +kernel
theorem dX8_see_91 : decode cX8_see 91 = .ok (.iload_n 2, 1) := by decide +kernel
theorem dX8_see_92 : decode cX8_see 92 = .ok (.iastore, 1) := by decide +kernel
theorem dX8_see_93 : decode cX8_see 93 = .ok (.aload_n 0, 1) := by decide +kernel
theorem dX8_see_94 : decode cX8_see 94 = .ok (.getfield 37, 3) := by decide +kernel
theorem dX8_see_97 : decode cX8_see 97 = .ok (.aload_n 0, 1) := by decide +kernel
theorem dX8_see_98 : decode cX8_see 98 = .ok (.getfield 128, 3) := by decide +kernel
theorem dX8_see_101 : decode cX8_see 101 = .ok (.iload_n 3, 1) := by decide +kernel
theorem dX8_see_102 : decode cX8_see 102 = .ok (.iastore, 1) := by decide +kernel
theorem dX8_see_103 : decode cX8_see 103 = .ok (.aload_n 0, 1) := by decide +kernel
theorem dX8_see_104 : decode cX8_see 104 = .ok (.getfield 40, 3) := by decide +kernel
theorem dX8_see_107 : decode cX8_see 107 = .ok (.aload_n 0, 1) := by decide +kernel
theorem dX8_see_108 : decode cX8_see 108 = .ok (.getfield 128, 3) := by decide +kernel
theorem dX8_see_111 : decode cX8_see 111 = .ok (.iload 4, 2) := by decide +kernel
theorem dX8_see_113 : decode cX8_see 113 = .ok (.iastore, 1) := by decide +kernel
theorem dX8_see_114 : decode cX8_see 114 = .ok (.aload_n 0, 1) := by decide +kernel
theorem dX8_see_115 : decode cX8_see 115 = .ok (.dup, 1) := by decide +kernel
theorem dX8_see_116 : decode cX8_see 116 = .ok (.getfield 128, 3) := by decide +kernel
theorem dX8_see_119 : decode cX8_see 119 = .ok (.iconst 1, 1) := by decide +kernel
theorem dX8_see_120 : decode cX8_see 120 = .ok (.iadd, 1) := by decide +kernel
theorem dX8_see_121 : decode cX8_see 121 = .ok (.putfield 128, 3) := by decide +kernel
theorem dX8_see_124 : decode cX8_see 124 = .ok (.aload_n 0, 1) := by decide +kernel
theorem dX8_see_125 : decode cX8_see 125 = .ok (.getfield 128, 3) := by decide +kernel
theorem dX8_see_128 : decode cX8_see 128 = .ok (.iconst 1, 1) := by decide +kernel
theorem dX8_see_129 : decode cX8_see 129 = .ok (.isub, 1) := by decide +kernel
theorem dX8_see_130 : decode cX8_see 130 = .ok (.ireturn, 1) := by decide +kernel
theorem dX8_digit_0 : decode cX8_digit 0 = .ok (.iload_n 0, 1) := by decide +kernel
theorem dX8_digit_1 : decode cX8_digit 1 = .ok (.istore_n 2, 1) := by decide +kernel
theorem dX8_digit_2 : decode cX8_digit 2 = .ok (.iconst 0, 1) := by decide +kernel
theorem dX8_digit_3 : decode cX8_digit 3 = .ok (.istore_n 3, 1) := by decide +kernel
theorem dX8_digit_4 : decode cX8_digit 4 = .ok (.iload_n 3, 1) := by decide +kernel
theorem dX8_digit_5 : decode cX8_digit 5 = .ok (.iload_n 1, 1) := by decide +kernel
theorem dX8_digit_6 : decode cX8_digit 6 = .ok (.if_icmp .ge 14, 3) := by decide +kernel
theorem dX8_digit_9 : decode cX8_digit 9 = .ok (.iload_n 2, 1) := by decide +kernel
theorem dX8_digit_10 : decode cX8_digit 10 = .ok (.bipush 10, 2) := by decide +kernel
theorem dX8_digit_12 : decode cX8_digit 12 = .ok (.idiv, 1) := by decide +kernel
theorem dX8_digit_13 : decode cX8_digit 13 = .ok (.istore_n 2, 1) := by decide +kernel
theorem dX8_digit_14 : decode cX8_digit 14 = .ok (.iinc 3 1, 3) := by decide +kernel
theorem dX8_digit_17 : decode cX8_digit 17 = .ok (.goto (-13), 3) := by decide +kernel
theorem dX8_digit_20 : decode cX8_digit 20 = .ok (.iload_n 2, 1) := by decide +kernel
theorem dX8_digit_21 : decode cX8_digit 21 = .ok (.bipush 10, 2) := by decide +kernel
theorem dX8_digit_23 : decode cX8_digit 23 = .ok (.irem, 1) := by decide +kernel
theorem dX8_digit_24 : decode cX8_digit 24 = .ok (.ireturn, 1) := by decide +kernel
theorem dX8_errorOf_0 : decode cX8_errorOf 0 = .ok (.iconst 0, 1) := by decide +kernel
theorem dX8_errorOf_1 : decode cX8_errorOf 1 = .ok (.istore_n 2, 1) := by decide +kernel
theorem dX8_errorOf_2 : decode cX8_errorOf 2 = .ok (.iconst 0, 1) := by decide +kernel
theorem dX8_errorOf_3 : decode cX8_errorOf 3 = .ok (.istore_n 3, 1) := by decide +kernel
theorem dX8_errorOf_4 : decode cX8_errorOf 4 = .ok (.iconst 0, 1) := by decide +kernel
theorem dX8_errorOf_5 : decode cX8_errorOf 5 = .ok (.istore 4, 2) := by decide +kernel
theorem dX8_errorOf_7 : decode cX8_errorOf 7 = .ok (.iload 4, 2) := by decide +kernel
theorem dX8_errorOf_9 : decode cX8_errorOf 9 = .ok (.iconst 5, 1) := by decide +kernel
theorem dX8_errorOf_10 : decode cX8_errorOf 10 = .ok (.if_icmp .ge 97, 3) := by decide +kernel
theorem dX8_errorOf_13 : decode cX8_errorOf 13 = .ok (.iload_n 2, 1) := by decide +kernel
theorem dX8_errorOf_14 : decode cX8_errorOf 14 = .ok (.iload_n 0, 1) := by decide +kernel
theorem dX8_errorOf_15 : decode cX8_errorOf 15 = .ok (.iload 4, 2) := by decide +kernel
theorem dX8_errorOf_17 : decode cX8_errorOf 17 = .ok (.invokestatic 131, 3) := by decide +kernel
theorem dX8_errorOf_20 : decode cX8_errorOf 20 = .ok (.iload_n 1, 1) := by decide +kernel
theorem dX8_errorOf_21 : decode cX8_errorOf 21 = .ok (.iload 4, 2) := by decide +kernel
theorem dX8_errorOf_23 : decode cX8_errorOf 23 = .ok (.invokestatic 131, 3) := by decide +kernel
theorem dX8_errorOf_26 : decode cX8_errorOf 26 = .ok (.if_icmp .eq 7, 3) := by decide +kernel
theorem dX8_errorOf_29 : decode cX8_errorOf 29 = .ok (.iconst 1, 1) := by decide +kernel
theorem dX8_errorOf_30 : decode cX8_errorOf 30 = .ok (.goto 4, 3) := by decide +kernel
theorem dX8_errorOf_33 : decode cX8_errorOf 33 = .ok (.iconst 0, 1) := by decide +kernel
theorem dX8_errorOf_34 : decode cX8_errorOf 34 = .ok (.iadd, 1) := by decide +kernel
theorem dX8_errorOf_35 : decode cX8_errorOf 35 = .ok (.istore_n 2, 1) := by decide +kernel
theorem dX8_errorOf_36 : decode cX8_errorOf 36 = .ok (.iload_n 3, 1) := by decide +kernel
theorem dX8_errorOf_37 : decode cX8_errorOf 37 = .ok (.ifCond .ne 58, 3) := by decide +kernel
theorem dX8_errorOf_40 : decode cX8_errorOf 40 = .ok (.iload 4, 2) := by decide +kernel
theorem dX8_errorOf_42 : decode cX8_errorOf 42 = .ok (.iconst 4, 1) := by decide +kernel
theorem dX8_errorOf_43 : decode cX8_errorOf 43 = .ok (.if_icmp .ge 56, 3) := by decide +kernel
theorem dX8_errorOf_46 : decode cX8_errorOf 46 = .ok (.iload_n 0, 1) := by decide +kernel
theorem dX8_errorOf_47 : decode cX8_errorOf 47 = .ok (.iload 4, 2) := by decide +kernel
theorem dX8_errorOf_49 : decode cX8_errorOf 49 = .ok (.invokestatic 131, 3) := by decide +kernel
theorem dX8_errorOf_52 : decode cX8_errorOf 52 = .ok (.iload_n 1, 1) := by decide +kernel
theorem dX8_errorOf_53 : decode cX8_errorOf 53 = .ok (.iload 4, 2) := by decide +kernel
theorem dX8_errorOf_55 : decode cX8_errorOf 55 = .ok (.invokestatic 131, 3) := by decide +kernel
theorem dX8_errorOf_58 : decode cX8_errorOf 58 = .ok (.if_icmp .eq 41, 3) := by decide +kernel
theorem dX8_errorOf_61 : decode cX8_errorOf 61 = .ok (.iload_n 0, 1) := by decide +kernel
theorem dX8_errorOf_62 : decode cX8_errorOf 62 = .ok (.iload 4, 2) := by decide +kernel
theorem dX8_errorOf_64 : decode cX8_errorOf 64 = .ok (.invokestatic 131, 3) := by decide +kernel
theorem dX8_errorOf_67 : decode cX8_errorOf 67 = .ok (.iload_n 1, 1) := by decide +kernel
theorem dX8_errorOf_68 : decode cX8_errorOf 68 = .ok (.iload 4, 2) := by decide +kernel
theorem dX8_errorOf_70 : decode cX8_errorOf 70 = .ok (.iconst 1, 1) := by decide +kernel
theorem dX8_errorOf_71 : decode cX8_errorOf 71 = .ok (.iadd, 1) := by decide +kernel
theorem dX8_errorOf_72 : decode cX8_errorOf 72 = .ok (.invokestatic 131, 3) := by decide +kernel
theorem dX8_errorOf_75 : decode cX8_errorOf 75 = .ok (.if_icmp .ne 24, 3) := by decide +kernel
theorem dX8_errorOf_78 : decode cX8_errorOf 78 = .ok (.iload_n 0, 1) := by decide +kernel
theorem dX8_errorOf_79 : decode cX8_errorOf 79 = .ok (.iload 4, 2) := by decide +kernel
theorem dX8_errorOf_81 : decode cX8_errorOf 81 = .ok (.iconst 1, 1) := by decide +kernel
theorem dX8_errorOf_82 : decode cX8_errorOf 82 = .ok (.iadd, 1) := by decide +kernel
theorem dX8_errorOf_83 : decode cX8_errorOf 83 = .ok (.invokestatic 131, 3) := by decide +kernel
theorem dX8_errorOf_86 : decode cX8_errorOf 86 = .ok (.iload_n 1, 1) := by decide +kernel
theorem dX8_errorOf_87 : decode cX8_errorOf 87 = .ok (.iload 4, 2) := by decide +kernel
theorem dX8_errorOf_89 : decode cX8_errorOf 89 = .ok (.invokestatic 131, 3) := by decide +kernel
theorem dX8_errorOf_92 : decode cX8_errorOf 92 = .ok (.if_icmp .ne 7, 3) := by decide +kernel
theorem dX8_errorOf_95 : decode cX8_errorOf 95 = .ok (.iconst 1, 1) := by decide +kernel
theorem dX8_errorOf_96 : decode cX8_errorOf 96 = .ok (.goto 4, 3) := by decide +kernel
theorem dX8_errorOf_99 : decode cX8_errorOf 99 = .ok (.iconst 0, 1) := by decide +kernel
theorem dX8_errorOf_100 : decode cX8_errorOf 100 = .ok (.istore_n 3, 1) := by decide +kernel
theorem dX8_errorOf_101 : decode cX8_errorOf 101 = .ok (.iinc 4 1, 3) := by decide +kernel
theorem dX8_errorOf_104 : decode cX8_errorOf 104 = .ok (.goto (-97), 3) := by decide +kernel
theorem dX8_errorOf_107 : decode cX8_errorOf 107 = .ok (.iload_n 2, 1) := by decide +kernel
theorem dX8_errorOf_108 : decode cX8_errorOf 108 = .ok (.iconst 2, 1) := by decide +kernel
theorem dX8_errorOf_109 : decode cX8_errorOf 109 = .ok (.if_icmp .le 8, 3) := by decide +kernel
theorem dX8_errorOf_112 : decode cX8_errorOf 112 = .ok (.bipush 9, 2) := by decide +kernel
theorem dX8_errorOf_114 : decode cX8_errorOf 114 = .ok (.goto 17, 3) := by decide +kernel
theorem dX8_errorOf_117 : decode cX8_errorOf 117 = .ok (.iload_n 2, 1) := by decide +kernel
theorem dX8_errorOf_118 : decode cX8_errorOf 118 = .ok (.iconst 2, 1) := by decide +kernel
theorem dX8_errorOf_119 : decode cX8_errorOf 119 = .ok (.if_icmp .ne 11, 3) := by decide +kernel
theorem dX8_errorOf_122 : decode cX8_errorOf 122 = .ok (.iload_n 3, 1) := by decide +kernel
theorem dX8_errorOf_123 : decode cX8_errorOf 123 = .ok (.ifCond .eq 7, 3) := by decide +kernel
theorem dX8_errorOf_126 : decode cX8_errorOf 126 = .ok (.iconst 1, 1) := by decide +kernel
theorem dX8_errorOf_127 : decode cX8_errorOf 127 = .ok (.goto 4, 3) := by decide +kernel
theorem dX8_errorOf_130 : decode cX8_errorOf 130 = .ok (.iload_n 2, 1) := by decide +kernel
theorem dX8_errorOf_131 : decode cX8_errorOf 131 = .ok (.ireturn, 1) := by decide +kernel
theorem dX8_error_0 : decode cX8_error 0 = .ok (.iload_n 1, 1) := by decide +kernel
theorem dX8_error_1 : decode cX8_error 1 = .ok (.iconst 0, 1) := by decide +kernel
theorem dX8_error_2 : decode cX8_error 2 = .ok (.aload_n 0, 1) := by decide +kernel
theorem dX8_error_3 : decode cX8_error 3 = .ok (.getfield 128, 3) := by decide +kernel
theorem dX8_error_6 : decode cX8_error 6 = .ok (.iconst 1, 1) := by decide +kernel
theorem dX8_error_7 : decode cX8_error 7 = .ok (.isub, 1) := by decide +kernel
theorem dX8_error_8 : decode cX8_error 8 = .ok (.invokestatic 93, 3) := by decide +kernel
theorem dX8_error_11 : decode cX8_error 11 = .ok (.ifCond .eq 35, 3) := by decide +kernel
theorem dX8_error_14 : decode cX8_error 14 = .ok (.iload_n 2, 1) := by decide +kernel
theorem dX8_error_15 : decode cX8_error 15 = .ok (.iconst 0, 1) := by decide +kernel
theorem dX8_error_16 : decode cX8_error 16 = .ok (.aload_n 0, 1) := by decide +kernel
theorem dX8_error_17 : decode cX8_error 17 = .ok (.getfield 125, 3) := by decide +kernel
theorem dX8_error_20 : decode cX8_error 20 = .ok (.iconst 1, 1) := by decide +kernel
theorem dX8_error_21 : decode cX8_error 21 = .ok (.isub, 1) := by decide +kernel
theorem dX8_error_22 : decode cX8_error 22 = .ok (.invokestatic 93, 3) := by decide +kernel
theorem dX8_error_25 : decode cX8_error 25 = .ok (.ifCond .eq 21, 3) := by decide +kernel
theorem dX8_error_28 : decode cX8_error 28 = .ok (.aload_n 0, 1) := by decide +kernel
theorem dX8_error_29 : decode cX8_error 29 = .ok (.getfield 31, 3) := by decide +kernel
theorem dX8_error_32 : decode cX8_error 32 = .ok (.iload_n 1, 1) := by decide +kernel
theorem dX8_error_33 : decode cX8_error 33 = .ok (.iaload, 1) := by decide +kernel
theorem dX8_error_34 : decode cX8_error 34 = .ok (.aload_n 0, 1) := by decide +kernel
theorem dX8_error_35 : decode cX8_error 35 = .ok (.getfield 25, 3) := by decide +kernel
theorem dX8_error_38 : decode cX8_error 38 = .ok (.iload_n 2, 1) := by decide +kernel
theorem dX8_error_39 : decode cX8_error 39 = .ok (.iaload, 1) := by decide +kernel
theorem dX8_error_40 : decode cX8_error 40 = .ok (.invokestatic 134, 3) := by decide +kernel
theorem dX8_error_43 : decode cX8_error 43 = .ok (.goto 4, 3) := by decide +kernel
theorem dX8_error_46 : decode cX8_error 46 = .ok (.iconst (-1), 1) := by decide +kernel
theorem dX8_error_47 : decode cX8_error 47 = .ok (.ireturn, 1) := by decide +kernel
theorem dX8_canBe_0 : decode cX8_canBe 0 = .ok (.aload_n 0, 1) := by decide +kernel
theorem dX8_canBe_1 : decode cX8_canBe 1 = .ok (.getfield 69, 3) := by decide +kernel
theorem dX8_canBe_4 : decode cX8_canBe 4 = .ok (.iload_n 1, 1) := by decide +kernel
theorem dX8_canBe_5 : decode cX8_canBe 5 = .ok (.iaload, 1) := by decide +kernel
theorem dX8_canBe_6 : decode cX8_canBe 6 = .ok (.istore_n 2, 1) := by decide +kernel
theorem dX8_canBe_7 : decode cX8_canBe 7 = .ok (.iload_n 2, 1) := by decide +kernel
theorem dX8_canBe_8 : decode cX8_canBe 8 = .ok (.aload_n 0, 1) := by decide +kernel
theorem dX8_canBe_9 : decode cX8_canBe 9 = .ok (.getfield 125, 3) := by decide +kernel
theorem dX8_canBe_12 : decode cX8_canBe 12 = .ok (.if_icmp .ne 5, 3) := by decide +kernel
theorem dX8_canBe_15 : decode cX8_canBe 15 = .ok (.iconst 1, 1) := by decide +kernel
theorem dX8_canBe_16 : decode cX8_canBe 16 = .ok (.ireturn, 1) := by decide +kernel
theorem dX8_canBe_17 : decode cX8_canBe 17 = .ok (.aload_n 0, 1) := by decide +kernel
theorem dX8_canBe_18 : decode cX8_canBe 18 = .ok (.getfield 31, 3) := by decide +kernel
theorem dX8_canBe_21 : decode cX8_canBe 21 = .ok (.iload_n 1, 1) := by decide +kernel
theorem dX8_canBe_22 : decode cX8_canBe 22 = .ok (.iaload, 1) := by decide +kernel
theorem dX8_canBe_23 : decode cX8_canBe 23 = .ok (.aload_n 0, 1) := by decide +kernel
theorem dX8_canBe_24 : decode cX8_canBe 24 = .ok (.getfield 25, 3) := by decide +kernel
theorem dX8_canBe_27 : decode cX8_canBe 27 = .ok (.iload_n 2, 1) := by decide +kernel
theorem dX8_canBe_28 : decode cX8_canBe 28 = .ok (.iaload, 1) := by decide +kernel
theorem dX8_canBe_29 : decode cX8_canBe 29 = .ok (.invokestatic 134, 3) := by decide +kernel
theorem dX8_canBe_32 : decode cX8_canBe 32 = .ok (.iconst 2, 1) := by decide +kernel
theorem dX8_canBe_33 : decode cX8_canBe 33 = .ok (.if_icmp .le 5, 3) := by decide +kernel
theorem dX8_canBe_36 : decode cX8_canBe 36 = .ok (.iconst 0, 1) := by decide +kernel
theorem dX8_canBe_37 : decode cX8_canBe 37 = .ok (.ireturn, 1) := by decide +kernel
theorem dX8_canBe_38 : decode cX8_canBe 38 = .ok (.iload_n 1, 1) := by decide +kernel
theorem dX8_canBe_39 : decode cX8_canBe 39 = .ok (.iconst 1, 1) := by decide +kernel
theorem dX8_canBe_40 : decode cX8_canBe 40 = .ok (.isub, 1) := by decide +kernel
theorem dX8_canBe_41 : decode cX8_canBe 41 = .ok (.istore_n 3, 1) := by decide +kernel
theorem dX8_canBe_42 : decode cX8_canBe 42 = .ok (.iload_n 3, 1) := by decide +kernel
theorem dX8_canBe_43 : decode cX8_canBe 43 = .ok (.ifCond .lt 76, 3) := by decide +kernel
theorem dX8_canBe_46 : decode cX8_canBe 46 = .ok (.aload_n 0, 1) := by decide +kernel
theorem dX8_canBe_47 : decode cX8_canBe 47 = .ok (.getfield 69, 3) := by decide +kernel
theorem dX8_canBe_50 : decode cX8_canBe 50 = .ok (.iload_n 3, 1) := by decide +kernel
theorem dX8_canBe_51 : decode cX8_canBe 51 = .ok (.iaload, 1) := by decide +kernel
theorem dX8_canBe_52 : decode cX8_canBe 52 = .ok (.iload_n 2, 1) := by decide +kernel
theorem dX8_canBe_53 : decode cX8_canBe 53 = .ok (.if_icmp .eq 6, 3) := by decide +kernel
theorem dX8_canBe_56 : decode cX8_canBe 56 = .ok (.goto 57, 3) := by decide +kernel
theorem dX8_canBe_59 : decode cX8_canBe 59 = .ok (.aload_n 0, 1) := by decide +kernel
theorem dX8_canBe_60 : decode cX8_canBe 60 = .ok (.aload_n 0, 1) := by decide +kernel
theorem dX8_canBe_61 : decode cX8_canBe 61 = .ok (.getfield 34, 3) := by decide +kernel
theorem dX8_canBe_64 : decode cX8_canBe 64 = .ok (.iload_n 3, 1) := by decide +kernel
theorem dX8_canBe_65 : decode cX8_canBe 65 = .ok (.iaload, 1) := by decide +kernel
theorem dX8_canBe_66 : decode cX8_canBe 66 = .ok (.aload_n 0, 1) := by decide +kernel
theorem dX8_canBe_67 : decode cX8_canBe 67 = .ok (.getfield 34, 3) := by decide +kernel
theorem dX8_canBe_70 : decode cX8_canBe 70 = .ok (.iload_n 1, 1) := by decide +kernel
theorem dX8_canBe_71 : decode cX8_canBe 71 = .ok (.iaload, 1) := by decide +kernel
theorem dX8_canBe_72 : decode cX8_canBe 72 = .ok (.invokevirtual 108, 3) := by decide +kernel
theorem dX8_canBe_75 : decode cX8_canBe 75 = .ok (.istore 4, 2) := by decide +kernel
theorem dX8_canBe_77 : decode cX8_canBe 77 = .ok (.iload 4, 2) := by decide +kernel
theorem dX8_canBe_79 : decode cX8_canBe 79 = .ok (.iconst (-1), 1) := by decide +kernel
theorem dX8_canBe_80 : decode cX8_canBe 80 = .ok (.if_icmp .eq 31, 3) := by decide +kernel
theorem dX8_canBe_83 : decode cX8_canBe 83 = .ok (.aload_n 0, 1) := by decide +kernel
theorem dX8_canBe_84 : decode cX8_canBe 84 = .ok (.getfield 37, 3) := by decide +kernel
theorem dX8_canBe_87 : decode cX8_canBe 87 = .ok (.iload_n 1, 1) := by decide +kernel
theorem dX8_canBe_88 : decode cX8_canBe 88 = .ok (.iaload, 1) := by decide +kernel
theorem dX8_canBe_89 : decode cX8_canBe 89 = .ok (.aload_n 0, 1) := by decide +kernel
theorem dX8_canBe_90 : decode cX8_canBe 90 = .ok (.getfield 37, 3) := by decide +kernel
theorem dX8_canBe_93 : decode cX8_canBe 93 = .ok (.iload_n 3, 1) := by decide +kernel
theorem dX8_canBe_94 : decode cX8_canBe 94 = .ok (.iaload, 1) := by decide +kernel
theorem dX8_canBe_95 : decode cX8_canBe 95 = .ok (.isub, 1) := by decide +kernel
theorem dX8_canBe_96 : decode cX8_canBe 96 = .ok (.iload 4, 2) := by decide +kernel
theorem dX8_canBe_98 : decode cX8_canBe 98 = .ok (.bipush 99, 2) := by decide +kernel
theorem dX8_canBe_100 : decode cX8_canBe 100 = .ok (.iadd, 1) := by decide +kernel
theorem dX8_canBe_101 : decode cX8_canBe 101 = .ok (.bipush 100, 2) := by decide +kernel
theorem dX8_canBe_103 : decode cX8_canBe 103 = .ok (.idiv, 1) := by decide +kernel
theorem dX8_canBe_104 : decode cX8_canBe 104 = .ok (.if_icmp .lt 7, 3) := by decide +kernel
theorem dX8_canBe_107 : decode cX8_canBe 107 = .ok (.iconst 1, 1) := by decide +kernel
theorem dX8_canBe_108 : decode cX8_canBe 108 = .ok (.goto 4, 3) := by decide +kernel
theorem dX8_canBe_111 : decode cX8_canBe 111 = .ok (.iconst 0, 1) := by decide +kernel
theorem dX8_canBe_112 : decode cX8_canBe 112 = .ok (.ireturn, 1) := by decide +kernel
theorem dX8_canBe_113 : decode cX8_canBe 113 = .ok (.iinc 3 (-1), 3) := by decide +kernel
theorem dX8_canBe_116 : decode cX8_canBe 116 = .ok (.goto (-74), 3) := by decide +kernel
theorem dX8_canBe_119 : decode cX8_canBe 119 = .ok (.iconst 1, 1) := by decide +kernel
theorem dX8_canBe_120 : decode cX8_canBe 120 = .ok (.ireturn, 1) := by decide +kernel
theorem dX8_joins_0 : decode cX8_joins 0 = .ok (.ldc 97, 2) := by decide +kernel
theorem dX8_joins_2 : decode cX8_joins 2 = .ok (.istore_n 1, 1) := by decide +kernel
theorem dX8_joins_3 : decode cX8_joins 3 = .ok (.iconst 0, 1) := by decide +kernel
theorem dX8_joins_4 : decode cX8_joins 4 = .ok (.istore_n 2, 1) := by decide +kernel
theorem dX8_joins_5 : decode cX8_joins 5 = .ok (.aload_n 0, 1) := by decide +kernel
theorem dX8_joins_6 : decode cX8_joins 6 = .ok (.getfield 69, 3) := by decide +kernel
theorem dX8_joins_9 : decode cX8_joins 9 = .ok (.iconst 0, 1) := by decide +kernel
theorem dX8_joins_10 : decode cX8_joins 10 = .ok (.iconst (-1), 1) := by decide +kernel
theorem dX8_joins_11 : decode cX8_joins 11 = .ok (.iastore, 1) := by decide +kernel
theorem dX8_joins_12 : decode cX8_joins 12 = .ok (.aload_n 0, 1) := by decide +kernel
theorem dX8_joins_13 : decode cX8_joins 13 = .ok (.getfield 128, 3) := by decide +kernel
theorem dX8_joins_16 : decode cX8_joins 16 = .ok (.ifCond .ne 5, 3) := by decide +kernel
theorem dX8_joins_19 : decode cX8_joins 19 = .ok (.iconst 0, 1) := by decide +kernel
theorem dX8_joins_20 : decode cX8_joins 20 = .ok (.ireturn, 1) := by decide +kernel
theorem dX8_joins_21 : decode cX8_joins 21 = .ok (.iload_n 2, 1) := by decide +kernel
theorem dX8_joins_22 : decode cX8_joins 22 = .ok (.ifCond .lt 174, 3) := by decide +kernel
theorem dX8_joins_25 : decode cX8_joins 25 = .ok (.aload_n 0, 1) := by decide +kernel
theorem dX8_joins_26 : decode cX8_joins 26 = .ok (.getfield 69, 3) := by decide +kernel
theorem dX8_joins_29 : decode cX8_joins 29 = .ok (.iload_n 2, 1) := by decide +kernel
theorem dX8_joins_30 : decode cX8_joins 30 = .ok (.dup2, 1) := by decide +kernel
theorem dX8_joins_31 : decode cX8_joins 31 = .ok (.iaload, 1) := by decide +kernel
theorem dX8_joins_32 : decode cX8_joins 32 = .ok (.iconst 1, 1) := by decide +kernel
theorem dX8_joins_33 : decode cX8_joins 33 = .ok (.iadd, 1) := by decide +kernel
theorem dX8_joins_34 : decode cX8_joins 34 = .ok (.iastore, 1) := by decide +kernel
theorem dX8_joins_35 : decode cX8_joins 35 = .ok (.aload_n 0, 1) := by decide +kernel
theorem dX8_joins_36 : decode cX8_joins 36 = .ok (.getfield 69, 3) := by decide +kernel
theorem dX8_joins_39 : decode cX8_joins 39 = .ok (.iload_n 2, 1) := by decide +kernel
theorem dX8_joins_40 : decode cX8_joins 40 = .ok (.iaload, 1) := by decide +kernel
theorem dX8_joins_41 : decode cX8_joins 41 = .ok (.aload_n 0, 1) := by decide +kernel
theorem dX8_joins_42 : decode cX8_joins 42 = .ok (.getfield 125, 3) := by decide +kernel
theorem dX8_joins_45 : decode cX8_joins 45 = .ok (.if_icmp .le 9, 3) := by decide +kernel
theorem dX8_joins_48 : decode cX8_joins 48 = .ok (.iinc 2 (-1), 3) := by decide +kernel
theorem dX8_joins_51 : decode cX8_joins 51 = .ok (.goto (-30), 3) := by decide +kernel
theorem dX8_joins_54 : decode cX8_joins 54 = .ok (.aload_n 0, 1) := by decide +kernel
theorem dX8_joins_55 : decode cX8_joins 55 = .ok (.iload_n 2, 1) := by decide +kernel
theorem dX8_joins_56 : decode cX8_joins 56 = .ok (.invokevirtual 137, 3) := by decide +kernel
theorem dX8_joins_59 : decode cX8_joins 59 = .ok (.ifCond .ne 6, 3) := by decide +kernel
theorem dX8_joins_62 : decode cX8_joins 62 = .ok (.goto (-41), 3) := by decide +kernel
theorem dX8_joins_65 : decode cX8_joins 65 = .ok (.iload_n 2, 1) := by decide +kernel
theorem dX8_joins_66 : decode cX8_joins 66 = .ok (.iconst 1, 1) := by decide +kernel
theorem dX8_joins_67 : decode cX8_joins 67 = .ok (.iadd, 1) := by decide +kernel
theorem dX8_joins_68 : decode cX8_joins 68 = .ok (.aload_n 0, 1) := by decide +kernel
theorem dX8_joins_69 : decode cX8_joins 69 = .ok (.getfield 128, 3) := by decide +kernel
theorem dX8_joins_72 : decode cX8_joins 72 = .ok (.if_icmp .ge 16, 3) := by decide +kernel
theorem dX8_joins_75 : decode cX8_joins 75 = .ok (.iinc 2 1, 3) := by decide +kernel
theorem dX8_joins_78 : decode cX8_joins 78 = .ok (.aload_n 0, 1) := by decide +kernel
theorem dX8_joins_79 : decode cX8_joins 79 = .ok (.getfield 69, 3) := by decide +kernel
theorem dX8_joins_82 : decode cX8_joins 82 = .ok (.iload_n 2, 1) := by decide +kernel
theorem dX8_joins_83 : decode cX8_joins 83 = .ok (.iconst (-1), 1) := by decide +kernel
theorem dX8_joins_84 : decode cX8_joins 84 = .ok (.iastore, 1) := by decide +kernel
theorem dX8_joins_85 : decode cX8_joins 85 = .ok (.goto (-64), 3) := by decide +kernel
theorem dX8_joins_88 : decode cX8_joins 88 = .ok (.iconst 0, 1) := by decide +kernel
theorem dX8_joins_89 : decode cX8_joins 89 = .ok (.istore_n 3, 1) := by decide +kernel
theorem dX8_joins_90 : decode cX8_joins 90 = .ok (.iconst 0, 1) := by decide +kernel
theorem dX8_joins_91 : decode cX8_joins 91 = .ok (.istore 4, 2) := by decide +kernel
theorem dX8_joins_93 : decode cX8_joins 93 = .ok (.iload 4, 2) := by decide +kernel
theorem dX8_joins_95 : decode cX8_joins 95 = .ok (.aload_n 0, 1) := by decide +kernel
theorem dX8_joins_96 : decode cX8_joins 96 = .ok (.getfield 128, 3) := by decide +kernel
theorem dX8_joins_99 : decode cX8_joins 99 = .ok (.if_icmp .ge 52, 3) := by decide +kernel
theorem dX8_joins_102 : decode cX8_joins 102 = .ok (.iload_n 3, 1) := by decide +kernel
theorem dX8_joins_103 : decode cX8_joins 103 = .ok (.aload_n 0, 1) := by decide +kernel
theorem dX8_joins_104 : decode cX8_joins 104 = .ok (.getfield 69, 3) := by decide +kernel
theorem dX8_joins_107 : decode cX8_joins 107 = .ok (.iload 4, 2) := by decide +kernel
theorem dX8_joins_109 : decode cX8_joins 109 = .ok (.iaload, 1) := by decide +kernel
theorem dX8_joins_110 : decode cX8_joins 110 = .ok (.aload_n 0, 1) := by decide +kernel
theorem dX8_joins_111 : decode cX8_joins 111 = .ok (.getfield 125, 3) := by decide +kernel
theorem dX8_joins_114 : decode cX8_joins 114 = .ok (.if_icmp .ne 7, 3) := by decide +kernel
theorem dX8_joins_117 : decode cX8_joins 117 = .ok (.iconst 3, 1) := by decide +kernel
theorem dX8_joins_118 : decode cX8_joins 118 = .ok (.goto 25, 3) := by decide +kernel
theorem dX8_joins_121 : decode cX8_joins 121 = .ok (.aload_n 0, 1) := by decide +kernel
theorem dX8_joins_122 : decode cX8_joins 122 = .ok (.getfield 31, 3) := by decide +kernel
theorem dX8_joins_125 : decode cX8_joins 125 = .ok (.iload 4, 2) := by decide +kernel
theorem dX8_joins_127 : decode cX8_joins 127 = .ok (.iaload, 1) := by decide +kernel
theorem dX8_joins_128 : decode cX8_joins 128 = .ok (.aload_n 0, 1) := by decide +kernel
theorem dX8_joins_129 : decode cX8_joins 129 = .ok (.getfield 25, 3) := by decide +kernel
theorem dX8_joins_132 : decode cX8_joins 132 = .ok (.aload_n 0, 1) := by decide +kernel
theorem dX8_joins_133 : decode cX8_joins 133 = .ok (.getfield 69, 3) := by decide +kernel
theorem dX8_joins_136 : decode cX8_joins 136 = .ok (.iload 4, 2) := by decide +kernel
theorem dX8_joins_138 : decode cX8_joins 138 = .ok (.iaload, 1) := by decide +kernel
theorem dX8_joins_139 : decode cX8_joins 139 = .ok (.iaload, 1) := by decide +kernel
theorem dX8_joins_140 : decode cX8_joins 140 = .ok (.invokestatic 134, 3) := by decide +kernel
theorem dX8_joins_143 : decode cX8_joins 143 = .ok (.iadd, 1) := by decide +kernel
theorem dX8_joins_144 : decode cX8_joins 144 = .ok (.istore_n 3, 1) := by decide +kernel
theorem dX8_joins_145 : decode cX8_joins 145 = .ok (.iinc 4 1, 3) := by decide +kernel
theorem dX8_joins_148 : decode cX8_joins 148 = .ok (.goto (-55), 3) := by decide +kernel
theorem dX8_joins_151 : decode cX8_joins 151 = .ok (.iload_n 3, 1) := by decide +kernel
theorem dX8_joins_152 : decode cX8_joins 152 = .ok (.iload_n 1, 1) := by decide +kernel
theorem dX8_joins_153 : decode cX8_joins 153 = .ok (.if_icmp .lt 6, 3) := by decide +kernel
theorem dX8_joins_156 : decode cX8_joins 156 = .ok (.goto (-135), 3) := by decide +kernel
theorem dX8_joins_159 : decode cX8_joins 159 = .ok (.iload_n 3, 1) := by decide +kernel
theorem dX8_joins_160 : decode cX8_joins 160 = .ok (.istore_n 1, 1) := by decide +kernel
theorem dX8_joins_161 : decode cX8_joins 161 = .ok (.iconst 0, 1) := by decide +kernel
theorem dX8_joins_162 : decode cX8_joins 162 = .ok (.istore 4, 2) := by decide +kernel
theorem dX8_joins_164 : decode cX8_joins 164 = .ok (.iload 4, 2) := by decide +kernel
theorem dX8_joins_166 : decode cX8_joins 166 = .ok (.aload_n 0, 1) := by decide +kernel
theorem dX8_joins_167 : decode cX8_joins 167 = .ok (.getfield 128, 3) := by decide +kernel
theorem dX8_joins_170 : decode cX8_joins 170 = .ok (.if_icmp .ge 23, 3) := by decide +kernel
theorem dX8_joins_173 : decode cX8_joins 173 = .ok (.aload_n 0, 1) := by decide +kernel
theorem dX8_joins_174 : decode cX8_joins 174 = .ok (.getfield 72, 3) := by decide +kernel
theorem dX8_joins_177 : decode cX8_joins 177 = .ok (.iload 4, 2) := by decide +kernel
theorem dX8_joins_179 : decode cX8_joins 179 = .ok (.aload_n 0, 1) := by decide +kernel
theorem dX8_joins_180 : decode cX8_joins 180 = .ok (.getfield 69, 3) := by decide +kernel
theorem dX8_joins_183 : decode cX8_joins 183 = .ok (.iload 4, 2) := by decide +kernel
theorem dX8_joins_185 : decode cX8_joins 185 = .ok (.iaload, 1) := by decide +kernel
theorem dX8_joins_186 : decode cX8_joins 186 = .ok (.iastore, 1) := by decide +kernel
theorem dX8_joins_187 : decode cX8_joins 187 = .ok (.iinc 4 1, 3) := by decide +kernel
theorem dX8_joins_190 : decode cX8_joins 190 = .ok (.goto (-26), 3) := by decide +kernel
theorem dX8_joins_193 : decode cX8_joins 193 = .ok (.goto (-172), 3) := by decide +kernel
theorem dX8_joins_196 : decode cX8_joins 196 = .ok (.iload_n 1, 1) := by decide +kernel
theorem dX8_joins_197 : decode cX8_joins 197 = .ok (.ireturn, 1) := by decide +kernel
theorem dX8_whose_0 : decode cX8_whose 0 = .ok (.iload_n 1, 1) := by decide +kernel
theorem dX8_whose_1 : decode cX8_whose 1 = .ok (.iconst 0, 1) := by decide +kernel
theorem dX8_whose_2 : decode cX8_whose 2 = .ok (.aload_n 0, 1) := by decide +kernel
theorem dX8_whose_3 : decode cX8_whose 3 = .ok (.getfield 128, 3) := by decide +kernel
theorem dX8_whose_6 : decode cX8_whose 6 = .ok (.iconst 1, 1) := by decide +kernel
theorem dX8_whose_7 : decode cX8_whose 7 = .ok (.isub, 1) := by decide +kernel
theorem dX8_whose_8 : decode cX8_whose 8 = .ok (.invokestatic 93, 3) := by decide +kernel
theorem dX8_whose_11 : decode cX8_whose 11 = .ok (.ifCond .ne 5, 3) := by decide +kernel
theorem dX8_whose_14 : decode cX8_whose 14 = .ok (.iconst (-1), 1) := by decide +kernel
theorem dX8_whose_15 : decode cX8_whose 15 = .ok (.ireturn, 1) := by decide +kernel
theorem dX8_whose_16 : decode cX8_whose 16 = .ok (.aload_n 0, 1) := by decide +kernel
theorem dX8_whose_17 : decode cX8_whose 17 = .ok (.invokevirtual 140, 3) := by decide +kernel
theorem dX8_whose_20 : decode cX8_whose 20 = .ok (.pop, 1) := by decide +kernel
theorem dX8_whose_21 : decode cX8_whose 21 = .ok (.aload_n 0, 1) := by decide +kernel
theorem dX8_whose_22 : decode cX8_whose 22 = .ok (.getfield 72, 3) := by decide +kernel
theorem dX8_whose_25 : decode cX8_whose 25 = .ok (.iload_n 1, 1) := by decide +kernel
theorem dX8_whose_26 : decode cX8_whose 26 = .ok (.iaload, 1) := by decide +kernel
theorem dX8_whose_27 : decode cX8_whose 27 = .ok (.aload_n 0, 1) := by decide +kernel
theorem dX8_whose_28 : decode cX8_whose 28 = .ok (.getfield 125, 3) := by decide +kernel
theorem dX8_whose_31 : decode cX8_whose 31 = .ok (.if_icmp .ne 7, 3) := by decide +kernel
theorem dX8_whose_34 : decode cX8_whose 34 = .ok (.iconst (-1), 1) := by decide +kernel
theorem dX8_whose_35 : decode cX8_whose 35 = .ok (.goto 9, 3) := by decide +kernel
theorem dX8_whose_38 : decode cX8_whose 38 = .ok (.aload_n 0, 1) := by decide +kernel
theorem dX8_whose_39 : decode cX8_whose 39 = .ok (.getfield 72, 3) := by decide +kernel
theorem dX8_whose_42 : decode cX8_whose 42 = .ok (.iload_n 1, 1) := by decide +kernel
theorem dX8_whose_43 : decode cX8_whose 43 = .ok (.iaload, 1) := by decide +kernel
theorem dX8_whose_44 : decode cX8_whose 44 = .ok (.ireturn, 1) := by decide +kernel
theorem dX8_cost_0 : decode cX8_cost 0 = .ok (.aload_n 0, 1) := by decide +kernel
theorem dX8_cost_1 : decode cX8_cost 1 = .ok (.invokevirtual 140, 3) := by decide +kernel
theorem dX8_cost_4 : decode cX8_cost 4 = .ok (.ireturn, 1) := by decide +kernel
theorem dX8_terms_0 : decode cX8_terms 0 = .ok (.iload_n 1, 1) := by decide +kernel
theorem dX8_terms_1 : decode cX8_terms 1 = .ok (.iconst 0, 1) := by decide +kernel
theorem dX8_terms_2 : decode cX8_terms 2 = .ok (.bipush 30, 2) := by decide +kernel
theorem dX8_terms_4 : decode cX8_terms 4 = .ok (.invokestatic 93, 3) := by decide +kernel
theorem dX8_terms_7 : decode cX8_terms 7 = .ok (.ifCond .eq 13, 3) := by decide +kernel
theorem dX8_terms_10 : decode cX8_terms 10 = .ok (.iload_n 2, 1) := by decide +kernel
theorem dX8_terms_11 : decode cX8_terms 11 = .ok (.iconst 0, 1) := by decide +kernel
theorem dX8_terms_12 : decode cX8_terms 12 = .ok (.bipush 100, 2) := by decide +kernel
theorem dX8_terms_14 : decode cX8_terms 14 = .ok (.invokestatic 93, 3) := by decide +kernel
theorem dX8_terms_17 : decode cX8_terms 17 = .ok (.ifCond .ne 5, 3) := by decide +kernel
theorem dX8_terms_20 : decode cX8_terms 20 = .ok (.iconst 0, 1) := by decide +kernel
theorem dX8_terms_21 : decode cX8_terms 21 = .ok (.ireturn, 1) := by decide +kernel
theorem dX8_terms_22 : decode cX8_terms 22 = .ok (.aload_n 0, 1) := by decide +kernel
theorem dX8_terms_23 : decode cX8_terms 23 = .ok (.iload_n 1, 1) := by decide +kernel
theorem dX8_terms_24 : decode cX8_terms 24 = .ok (.putfield 43, 3) := by decide +kernel
theorem dX8_terms_27 : decode cX8_terms 27 = .ok (.aload_n 0, 1) := by decide +kernel
theorem dX8_terms_28 : decode cX8_terms 28 = .ok (.iload_n 2, 1) := by decide +kernel
theorem dX8_terms_29 : decode cX8_terms 29 = .ok (.putfield 47, 3) := by decide +kernel
theorem dX8_terms_32 : decode cX8_terms 32 = .ok (.iconst 1, 1) := by decide +kernel
theorem dX8_terms_33 : decode cX8_terms 33 = .ok (.ireturn, 1) := by decide +kernel
theorem dX8_owes_0 : decode cX8_owes 0 = .ok (.iconst 0, 1) := by decide +kernel
theorem dX8_owes_1 : decode cX8_owes 1 = .ok (.istore_n 3, 1) := by decide +kernel
theorem dX8_owes_2 : decode cX8_owes 2 = .ok (.iconst (-1), 1) := by decide +kernel
theorem dX8_owes_3 : decode cX8_owes 3 = .ok (.istore 4, 2) := by decide +kernel
theorem dX8_owes_5 : decode cX8_owes 5 = .ok (.iconst 0, 1) := by decide +kernel
theorem dX8_owes_6 : decode cX8_owes 6 = .ok (.istore 5, 2) := by decide +kernel
theorem dX8_owes_8 : decode cX8_owes 8 = .ok (.iload 5, 2) := by decide +kernel
theorem dX8_owes_10 : decode cX8_owes 10 = .ok (.aload_n 0, 1) := by decide +kernel
theorem dX8_owes_11 : decode cX8_owes 11 = .ok (.getfield 128, 3) := by decide +kernel
theorem dX8_owes_14 : decode cX8_owes 14 = .ok (.if_icmp .ge 95, 3) := by decide +kernel
theorem dX8_owes_17 : decode cX8_owes 17 = .ok (.aload_n 0, 1) := by decide +kernel
theorem dX8_owes_18 : decode cX8_owes 18 = .ok (.getfield 72, 3) := by decide +kernel
theorem dX8_owes_21 : decode cX8_owes 21 = .ok (.iload 5, 2) := by decide +kernel
theorem dX8_owes_23 : decode cX8_owes 23 = .ok (.iaload, 1) := by decide +kernel
theorem dX8_owes_24 : decode cX8_owes 24 = .ok (.iload_n 1, 1) := by decide +kernel
theorem dX8_owes_25 : decode cX8_owes 25 = .ok (.if_icmp .eq 6, 3) := by decide +kernel
theorem dX8_owes_28 : decode cX8_owes 28 = .ok (.goto 75, 3) := by decide +kernel
theorem dX8_owes_31 : decode cX8_owes 31 = .ok (.iload 4, 2) := by decide +kernel
theorem dX8_owes_33 : decode cX8_owes 33 = .ok (.iconst (-1), 1) := by decide +kernel
theorem dX8_owes_34 : decode cX8_owes 34 = .ok (.if_icmp .ne 7, 3) := by decide +kernel
theorem dX8_owes_37 : decode cX8_owes 37 = .ok (.iconst 0, 1) := by decide +kernel
theorem dX8_owes_38 : decode cX8_owes 38 = .ok (.goto 18, 3) := by decide +kernel
theorem dX8_owes_41 : decode cX8_owes 41 = .ok (.aload_n 0, 1) := by decide +kernel
theorem dX8_owes_42 : decode cX8_owes 42 = .ok (.getfield 37, 3) := by decide +kernel
theorem dX8_owes_45 : decode cX8_owes 45 = .ok (.iload 5, 2) := by decide +kernel
theorem dX8_owes_47 : decode cX8_owes 47 = .ok (.iaload, 1) := by decide +kernel
theorem dX8_owes_48 : decode cX8_owes 48 = .ok (.aload_n 0, 1) := by decide +kernel
theorem dX8_owes_49 : decode cX8_owes 49 = .ok (.getfield 37, 3) := by decide +kernel
theorem dX8_owes_52 : decode cX8_owes 52 = .ok (.iload 4, 2) := by decide +kernel
theorem dX8_owes_54 : decode cX8_owes 54 = .ok (.iaload, 1) := by decide +kernel
theorem dX8_owes_55 : decode cX8_owes 55 = .ok (.isub, 1) := by decide +kernel
theorem dX8_owes_56 : decode cX8_owes 56 = .ok (.istore 6, 2) := by decide +kernel
theorem dX8_owes_58 : decode cX8_owes 58 = .ok (.iload 4, 2) := by decide +kernel
theorem dX8_owes_60 : decode cX8_owes 60 = .ok (.iconst (-1), 1) := by decide +kernel
theorem dX8_owes_61 : decode cX8_owes 61 = .ok (.if_icmp .eq 38, 3) := by decide +kernel
theorem dX8_owes_64 : decode cX8_owes 64 = .ok (.aload_n 0, 1) := by decide +kernel
theorem dX8_owes_65 : decode cX8_owes 65 = .ok (.getfield 40, 3) := by decide +kernel
theorem dX8_owes_68 : decode cX8_owes 68 = .ok (.iload 4, 2) := by decide +kernel
theorem dX8_owes_70 : decode cX8_owes 70 = .ok (.iaload, 1) := by decide +kernel
theorem dX8_owes_71 : decode cX8_owes 71 = .ok (.iload_n 2, 1) := by decide +kernel
theorem dX8_owes_72 : decode cX8_owes 72 = .ok (.if_icmp .ne 27, 3) := by decide +kernel
theorem dX8_owes_75 : decode cX8_owes 75 = .ok (.iload 6, 2) := by decide +kernel
theorem dX8_owes_77 : decode cX8_owes 77 = .ok (.aload_n 0, 1) := by decide +kernel
theorem dX8_owes_78 : decode cX8_owes 78 = .ok (.getfield 43, 3) := by decide +kernel
theorem dX8_owes_81 : decode cX8_owes 81 = .ok (.if_icmp .le 18, 3) := by decide +kernel
theorem dX8_owes_84 : decode cX8_owes 84 = .ok (.iload_n 3, 1) := by decide +kernel
theorem dX8_owes_85 : decode cX8_owes 85 = .ok (.iload 6, 2) := by decide +kernel
theorem dX8_owes_87 : decode cX8_owes 87 = .ok (.aload_n 0, 1) := by decide +kernel
theorem dX8_owes_88 : decode cX8_owes 88 = .ok (.getfield 43, 3) := by decide +kernel
theorem dX8_owes_91 : decode cX8_owes 91 = .ok (.isub, 1) := by decide +kernel
theorem dX8_owes_92 : decode cX8_owes 92 = .ok (.aload_n 0, 1) := by decide +kernel
theorem dX8_owes_93 : decode cX8_owes 93 = .ok (.getfield 47, 3) := by decide +kernel
theorem dX8_owes_96 : decode cX8_owes 96 = .ok (.imul, 1) := by decide +kernel
theorem dX8_owes_97 : decode cX8_owes 97 = .ok (.iadd, 1) := by decide +kernel
theorem dX8_owes_98 : decode cX8_owes 98 = .ok (.istore_n 3, 1) := by decide +kernel
theorem dX8_owes_99 : decode cX8_owes 99 = .ok (.iload 5, 2) := by decide +kernel
theorem dX8_owes_101 : decode cX8_owes 101 = .ok (.istore 4, 2) := by decide +kernel
theorem dX8_owes_103 : decode cX8_owes 103 = .ok (.iinc 5 1, 3) := by decide +kernel
theorem dX8_owes_106 : decode cX8_owes 106 = .ok (.goto (-98), 3) := by decide +kernel
theorem dX8_owes_109 : decode cX8_owes 109 = .ok (.iload_n 2, 1) := by decide +kernel
theorem dX8_owes_110 : decode cX8_owes 110 = .ok (.aload_n 0, 1) := by decide +kernel
theorem dX8_owes_111 : decode cX8_owes 111 = .ok (.getfield 28, 3) := by decide +kernel
theorem dX8_owes_114 : decode cX8_owes 114 = .ok (.iload_n 1, 1) := by decide +kernel
theorem dX8_owes_115 : decode cX8_owes 115 = .ok (.iaload, 1) := by decide +kernel
theorem dX8_owes_116 : decode cX8_owes 116 = .ok (.if_icmp .ne 7, 3) := by decide +kernel
theorem dX8_owes_119 : decode cX8_owes 119 = .ok (.iconst 0, 1) := by decide +kernel
theorem dX8_owes_120 : decode cX8_owes 120 = .ok (.goto 4, 3) := by decide +kernel
theorem dX8_owes_123 : decode cX8_owes 123 = .ok (.iload_n 3, 1) := by decide +kernel
theorem dX8_owes_124 : decode cX8_owes 124 = .ok (.ireturn, 1) := by decide +kernel
theorem dX8_charge_0 : decode cX8_charge 0 = .ok (.iload_n 1, 1) := by decide +kernel
theorem dX8_charge_1 : decode cX8_charge 1 = .ok (.iconst 0, 1) := by decide +kernel
theorem dX8_charge_2 : decode cX8_charge 2 = .ok (.aload_n 0, 1) := by decide +kernel
theorem dX8_charge_3 : decode cX8_charge 3 = .ok (.getfield 125, 3) := by decide +kernel
theorem dX8_charge_6 : decode cX8_charge 6 = .ok (.iconst 1, 1) := by decide +kernel
theorem dX8_charge_7 : decode cX8_charge 7 = .ok (.isub, 1) := by decide +kernel
theorem dX8_charge_8 : decode cX8_charge 8 = .ok (.invokestatic 93, 3) := by decide +kernel
theorem dX8_charge_11 : decode cX8_charge 11 = .ok (.ifCond .eq 10, 3) := by decide +kernel
theorem dX8_charge_14 : decode cX8_charge 14 = .ok (.iload_n 2, 1) := by decide +kernel
theorem dX8_charge_15 : decode cX8_charge 15 = .ok (.invokestatic 105, 3) := by decide +kernel
theorem dX8_charge_18 : decode cX8_charge 18 = .ok (.ifCond .ne 5, 3) := by decide +kernel
theorem dX8_charge_21 : decode cX8_charge 21 = .ok (.iconst 0, 1) := by decide +kernel
theorem dX8_charge_22 : decode cX8_charge 22 = .ok (.ireturn, 1) := by decide +kernel
theorem dX8_charge_23 : decode cX8_charge 23 = .ok (.aload_n 0, 1) := by decide +kernel
theorem dX8_charge_24 : decode cX8_charge 24 = .ok (.invokevirtual 140, 3) := by decide +kernel
theorem dX8_charge_27 : decode cX8_charge 27 = .ok (.pop, 1) := by decide +kernel
theorem dX8_charge_28 : decode cX8_charge 28 = .ok (.aload_n 0, 1) := by decide +kernel
theorem dX8_charge_29 : decode cX8_charge 29 = .ok (.iload_n 1, 1) := by decide +kernel
theorem dX8_charge_30 : decode cX8_charge 30 = .ok (.iload_n 2, 1) := by decide +kernel
theorem dX8_charge_31 : decode cX8_charge 31 = .ok (.invokevirtual 144, 3) := by decide +kernel
theorem dX8_charge_34 : decode cX8_charge 34 = .ok (.ireturn, 1) := by decide +kernel
theorem dX8_close_0 : decode cX8_close 0 = .ok (.aload_n 0, 1) := by decide +kernel
theorem dX8_close_1 : decode cX8_close 1 = .ok (.getfield 128, 3) := by decide +kernel
theorem dX8_close_4 : decode cX8_close 4 = .ok (.istore_n 1, 1) := by decide +kernel
theorem dX8_close_5 : decode cX8_close 5 = .ok (.iconst 0, 1) := by decide +kernel
theorem dX8_close_6 : decode cX8_close 6 = .ok (.istore_n 2, 1) := by decide +kernel
theorem dX8_close_7 : decode cX8_close 7 = .ok (.iload_n 2, 1) := by decide +kernel
theorem dX8_close_8 : decode cX8_close 8 = .ok (.bipush 8, 2) := by decide +kernel
theorem dX8_close_10 : decode cX8_close 10 = .ok (.if_icmp .ge 20, 3) := by decide +kernel
theorem dX8_close_13 : decode cX8_close 13 = .ok (.aload_n 0, 1) := by decide +kernel
theorem dX8_close_14 : decode cX8_close 14 = .ok (.getfield 75, 3) := by decide +kernel
theorem dX8_close_17 : decode cX8_close 17 = .ok (.iload_n 2, 1) := by decide +kernel
theorem dX8_close_18 : decode cX8_close 18 = .ok (.aload_n 0, 1) := by decide +kernel
theorem dX8_close_19 : decode cX8_close 19 = .ok (.iload_n 2, 1) := by decide +kernel
theorem dX8_close_20 : decode cX8_close 20 = .ok (.invokevirtual 147, 3) := by decide +kernel
theorem dX8_close_23 : decode cX8_close 23 = .ok (.iastore, 1) := by decide +kernel
theorem dX8_close_24 : decode cX8_close 24 = .ok (.iinc 2 1, 3) := by decide +kernel
theorem dX8_close_27 : decode cX8_close 27 = .ok (.goto (-20), 3) := by decide +kernel
theorem dX8_close_30 : decode cX8_close 30 = .ok (.iconst 0, 1) := by decide +kernel
theorem dX8_close_31 : decode cX8_close 31 = .ok (.istore_n 2, 1) := by decide +kernel
theorem dX8_close_32 : decode cX8_close 32 = .ok (.iload_n 2, 1) := by decide +kernel
theorem dX8_close_33 : decode cX8_close 33 = .ok (.bipush 8, 2) := by decide +kernel
theorem dX8_close_35 : decode cX8_close 35 = .ok (.if_icmp .ge 21, 3) := by decide +kernel
theorem dX8_close_38 : decode cX8_close 38 = .ok (.aload_n 0, 1) := by decide +kernel
theorem dX8_close_39 : decode cX8_close 39 = .ok (.getfield 50, 3) := by decide +kernel
theorem dX8_close_42 : decode cX8_close 42 = .ok (.iload_n 2, 1) := by decide +kernel
theorem dX8_close_43 : decode cX8_close 43 = .ok (.aload_n 0, 1) := by decide +kernel
theorem dX8_close_44 : decode cX8_close 44 = .ok (.getfield 75, 3) := by decide +kernel
theorem dX8_close_47 : decode cX8_close 47 = .ok (.iload_n 2, 1) := by decide +kernel
theorem dX8_close_48 : decode cX8_close 48 = .ok (.iaload, 1) := by decide +kernel
theorem dX8_close_49 : decode cX8_close 49 = .ok (.iastore, 1) := by decide +kernel
theorem dX8_close_50 : decode cX8_close 50 = .ok (.iinc 2 1, 3) := by decide +kernel
theorem dX8_close_53 : decode cX8_close 53 = .ok (.goto (-21), 3) := by decide +kernel
theorem dX8_close_56 : decode cX8_close 56 = .ok (.aload_n 0, 1) := by decide +kernel
theorem dX8_close_57 : decode cX8_close 57 = .ok (.iconst 0, 1) := by decide +kernel
theorem dX8_close_58 : decode cX8_close 58 = .ok (.putfield 128, 3) := by decide +kernel
theorem dX8_close_61 : decode cX8_close 61 = .ok (.iload_n 1, 1) := by decide +kernel
theorem dX8_close_62 : decode cX8_close 62 = .ok (.ireturn, 1) := by decide +kernel
theorem dX8_balance_0 : decode cX8_balance 0 = .ok (.iload_n 1, 1) := by decide +kernel
theorem dX8_balance_1 : decode cX8_balance 1 = .ok (.invokestatic 105, 3) := by decide +kernel
theorem dX8_balance_4 : decode cX8_balance 4 = .ok (.ifCond .ne 5, 3) := by decide +kernel
theorem dX8_balance_7 : decode cX8_balance 7 = .ok (.iconst 0, 1) := by decide +kernel
theorem dX8_balance_8 : decode cX8_balance 8 = .ok (.ireturn, 1) := by decide +kernel
theorem dX8_balance_9 : decode cX8_balance 9 = .ok (.aload_n 0, 1) := by decide +kernel
theorem dX8_balance_10 : decode cX8_balance 10 = .ok (.invokevirtual 140, 3) := by decide +kernel
theorem dX8_balance_13 : decode cX8_balance 13 = .ok (.pop, 1) := by decide +kernel
theorem dX8_balance_14 : decode cX8_balance 14 = .ok (.aload_n 0, 1) := by decide +kernel
theorem dX8_balance_15 : decode cX8_balance 15 = .ok (.getfield 50, 3) := by decide +kernel
theorem dX8_balance_18 : decode cX8_balance 18 = .ok (.iload_n 1, 1) := by decide +kernel
theorem dX8_balance_19 : decode cX8_balance 19 = .ok (.iaload, 1) := by decide +kernel
theorem dX8_balance_20 : decode cX8_balance 20 = .ok (.istore_n 2, 1) := by decide +kernel
theorem dX8_balance_21 : decode cX8_balance 21 = .ok (.iconst 0, 1) := by decide +kernel
theorem dX8_balance_22 : decode cX8_balance 22 = .ok (.istore_n 3, 1) := by decide +kernel
theorem dX8_balance_23 : decode cX8_balance 23 = .ok (.iload_n 3, 1) := by decide +kernel
theorem dX8_balance_24 : decode cX8_balance 24 = .ok (.aload_n 0, 1) := by decide +kernel
theorem dX8_balance_25 : decode cX8_balance 25 = .ok (.getfield 125, 3) := by decide +kernel
theorem dX8_balance_28 : decode cX8_balance 28 = .ok (.if_icmp .ge 61, 3) := by decide +kernel
theorem dX8_balance_31 : decode cX8_balance 31 = .ok (.aload_n 0, 1) := by decide +kernel
theorem dX8_balance_32 : decode cX8_balance 32 = .ok (.getfield 128, 3) := by decide +kernel
theorem dX8_balance_35 : decode cX8_balance 35 = .ok (.ifCond .le 54, 3) := by decide +kernel
theorem dX8_balance_38 : decode cX8_balance 38 = .ok (.iload_n 2, 1) := by decide +kernel
theorem dX8_balance_39 : decode cX8_balance 39 = .ok (.aload_n 0, 1) := by decide +kernel
theorem dX8_balance_40 : decode cX8_balance 40 = .ok (.iload_n 3, 1) := by decide +kernel
theorem dX8_balance_41 : decode cX8_balance 41 = .ok (.iload_n 1, 1) := by decide +kernel
theorem dX8_balance_42 : decode cX8_balance 42 = .ok (.invokevirtual 144, 3) := by decide +kernel
theorem dX8_balance_45 : decode cX8_balance 45 = .ok (.isub, 1) := by decide +kernel
theorem dX8_balance_46 : decode cX8_balance 46 = .ok (.istore_n 2, 1) := by decide +kernel
theorem dX8_balance_47 : decode cX8_balance 47 = .ok (.iconst 0, 1) := by decide +kernel
theorem dX8_balance_48 : decode cX8_balance 48 = .ok (.istore 4, 2) := by decide +kernel
theorem dX8_balance_50 : decode cX8_balance 50 = .ok (.iload 4, 2) := by decide +kernel
theorem dX8_balance_52 : decode cX8_balance 52 = .ok (.bipush 8, 2) := by decide +kernel
theorem dX8_balance_54 : decode cX8_balance 54 = .ok (.if_icmp .ge 29, 3) := by decide +kernel
theorem dX8_balance_57 : decode cX8_balance 57 = .ok (.aload_n 0, 1) := by decide +kernel
theorem dX8_balance_58 : decode cX8_balance 58 = .ok (.getfield 28, 3) := by decide +kernel
theorem dX8_balance_61 : decode cX8_balance 61 = .ok (.iload_n 3, 1) := by decide +kernel
theorem dX8_balance_62 : decode cX8_balance 62 = .ok (.iaload, 1) := by decide +kernel
theorem dX8_balance_63 : decode cX8_balance 63 = .ok (.iload_n 1, 1) := by decide +kernel
theorem dX8_balance_64 : decode cX8_balance 64 = .ok (.if_icmp .ne 13, 3) := by decide +kernel
theorem dX8_balance_67 : decode cX8_balance 67 = .ok (.iload_n 2, 1) := by decide +kernel
theorem dX8_balance_68 : decode cX8_balance 68 = .ok (.aload_n 0, 1) := by decide +kernel
theorem dX8_balance_69 : decode cX8_balance 69 = .ok (.iload_n 3, 1) := by decide +kernel
theorem dX8_balance_70 : decode cX8_balance 70 = .ok (.iload 4, 2) := by decide +kernel
theorem dX8_balance_72 : decode cX8_balance 72 = .ok (.invokevirtual 144, 3) := by decide +kernel
theorem dX8_balance_75 : decode cX8_balance 75 = .ok (.iadd, 1) := by decide +kernel
theorem dX8_balance_76 : decode cX8_balance 76 = .ok (.istore_n 2, 1) := by decide +kernel
theorem dX8_balance_77 : decode cX8_balance 77 = .ok (.iinc 4 1, 3) := by decide +kernel
theorem dX8_balance_80 : decode cX8_balance 80 = .ok (.goto (-30), 3) := by decide +kernel
theorem dX8_balance_83 : decode cX8_balance 83 = .ok (.iinc 3 1, 3) := by decide +kernel
theorem dX8_balance_86 : decode cX8_balance 86 = .ok (.goto (-63), 3) := by decide +kernel
theorem dX8_balance_89 : decode cX8_balance 89 = .ok (.iload_n 2, 1) := by decide +kernel
theorem dX8_balance_90 : decode cX8_balance 90 = .ok (.ireturn, 1) := by decide +kernel
theorem dX8_sumOf_0 : decode cX8_sumOf 0 = .ok (.lconst 0, 1) := by decide +kernel
theorem dX8_sumOf_1 : decode cX8_sumOf 1 = .ok (.lstore_n 2, 1) := by decide +kernel
theorem dX8_sumOf_2 : decode cX8_sumOf 2 = .ok (.iconst 0, 1) := by decide +kernel
theorem dX8_sumOf_3 : decode cX8_sumOf 3 = .ok (.istore 4, 2) := by decide +kernel
theorem dX8_sumOf_5 : decode cX8_sumOf 5 = .ok (.iload 4, 2) := by decide +kernel
theorem dX8_sumOf_7 : decode cX8_sumOf 7 = .ok (.bipush 8, 2) := by decide +kernel
theorem dX8_sumOf_9 : decode cX8_sumOf 9 = .ok (.if_icmp .ge 30, 3) := by decide +kernel
theorem dX8_sumOf_12 : decode cX8_sumOf 12 = .ok (.iload_n 1, 1) := by decide +kernel
theorem dX8_sumOf_13 : decode cX8_sumOf 13 = .ok (.iload 4, 2) := by decide +kernel
theorem dX8_sumOf_15 : decode cX8_sumOf 15 = .ok (.ishr, 1) := by decide +kernel
theorem dX8_sumOf_16 : decode cX8_sumOf 16 = .ok (.iconst 1, 1) := by decide +kernel
theorem dX8_sumOf_17 : decode cX8_sumOf 17 = .ok (.iand, 1) := by decide +kernel
theorem dX8_sumOf_18 : decode cX8_sumOf 18 = .ok (.iconst 1, 1) := by decide +kernel
theorem dX8_sumOf_19 : decode cX8_sumOf 19 = .ok (.if_icmp .ne 14, 3) := by decide +kernel
theorem dX8_sumOf_22 : decode cX8_sumOf 22 = .ok (.lload_n 2, 1) := by decide +kernel
theorem dX8_sumOf_23 : decode cX8_sumOf 23 = .ok (.aload_n 0, 1) := by decide +kernel
theorem dX8_sumOf_24 : decode cX8_sumOf 24 = .ok (.getfield 75, 3) := by decide +kernel
theorem dX8_sumOf_27 : decode cX8_sumOf 27 = .ok (.iload 4, 2) := by decide +kernel
theorem dX8_sumOf_29 : decode cX8_sumOf 29 = .ok (.iaload, 1) := by decide +kernel
theorem dX8_sumOf_30 : decode cX8_sumOf 30 = .ok (.i2l, 1) := by decide +kernel
theorem dX8_sumOf_31 : decode cX8_sumOf 31 = .ok (.ladd, 1) := by decide +kernel
theorem dX8_sumOf_32 : decode cX8_sumOf 32 = .ok (.lstore_n 2, 1) := by decide +kernel
theorem dX8_sumOf_33 : decode cX8_sumOf 33 = .ok (.iinc 4 1, 3) := by decide +kernel
theorem dX8_sumOf_36 : decode cX8_sumOf 36 = .ok (.goto (-31), 3) := by decide +kernel
theorem dX8_sumOf_39 : decode cX8_sumOf 39 = .ok (.lload_n 2, 1) := by decide +kernel
theorem dX8_sumOf_40 : decode cX8_sumOf 40 = .ok (.lreturn, 1) := by decide +kernel
theorem dX8_groups_0 : decode cX8_groups 0 = .ok (.iconst 0, 1) := by decide +kernel
theorem dX8_groups_1 : decode cX8_groups 1 = .ok (.istore_n 1, 1) := by decide +kernel
theorem dX8_groups_2 : decode cX8_groups 2 = .ok (.iconst 0, 1) := by decide +kernel
theorem dX8_groups_3 : decode cX8_groups 3 = .ok (.istore_n 2, 1) := by decide +kernel
theorem dX8_groups_4 : decode cX8_groups 4 = .ok (.iload_n 2, 1) := by decide +kernel
theorem dX8_groups_5 : decode cX8_groups 5 = .ok (.bipush 8, 2) := by decide +kernel
theorem dX8_groups_7 : decode cX8_groups 7 = .ok (.if_icmp .ge 39, 3) := by decide +kernel
theorem dX8_groups_10 : decode cX8_groups 10 = .ok (.aload_n 0, 1) := by decide +kernel
theorem dX8_groups_11 : decode cX8_groups 11 = .ok (.getfield 75, 3) := by decide +kernel
theorem dX8_groups_14 : decode cX8_groups 14 = .ok (.iload_n 2, 1) := by decide +kernel
theorem dX8_groups_15 : decode cX8_groups 15 = .ok (.aload_n 0, 1) := by decide +kernel
theorem dX8_groups_16 : decode cX8_groups 16 = .ok (.iload_n 2, 1) := by decide +kernel
theorem dX8_groups_17 : decode cX8_groups 17 = .ok (.invokevirtual 147, 3) := by decide +kernel
theorem dX8_groups_20 : decode cX8_groups 20 = .ok (.iastore, 1) := by decide +kernel
theorem dX8_groups_21 : decode cX8_groups 21 = .ok (.iload_n 1, 1) := by decide +kernel
theorem dX8_groups_22 : decode cX8_groups 22 = .ok (.aload_n 0, 1) := by decide +kernel
theorem dX8_groups_23 : decode cX8_groups 23 = .ok (.getfield 75, 3) := by decide +kernel
theorem dX8_groups_26 : decode cX8_groups 26 = .ok (.iload_n 2, 1) := by decide +kernel
theorem dX8_groups_27 : decode cX8_groups 27 = .ok (.iaload, 1) := by decide +kernel
theorem dX8_groups_28 : decode cX8_groups 28 = .ok (.ifCond .eq 9, 3) := by decide +kernel
theorem dX8_groups_31 : decode cX8_groups 31 = .ok (.iconst 1, 1) := by decide +kernel
theorem dX8_groups_32 : decode cX8_groups 32 = .ok (.iload_n 2, 1) := by decide +kernel
theorem dX8_groups_33 : decode cX8_groups 33 = .ok (.ishl, 1) := by decide +kernel
theorem dX8_groups_34 : decode cX8_groups 34 = .ok (.goto 4, 3) := by decide +kernel
theorem dX8_groups_37 : decode cX8_groups 37 = .ok (.iconst 0, 1) := by decide +kernel
theorem dX8_groups_38 : decode cX8_groups 38 = .ok (.ior, 1) := by decide +kernel
theorem dX8_groups_39 : decode cX8_groups 39 = .ok (.istore_n 1, 1) := by decide +kernel
theorem dX8_groups_40 : decode cX8_groups 40 = .ok (.iinc 2 1, 3) := by decide +kernel
theorem dX8_groups_43 : decode cX8_groups 43 = .ok (.goto (-39), 3) := by decide +kernel
theorem dX8_groups_46 : decode cX8_groups 46 = .ok (.iconst 0, 1) := by decide +kernel
theorem dX8_groups_47 : decode cX8_groups 47 = .ok (.istore_n 2, 1) := by decide +kernel
theorem dX8_groups_48 : decode cX8_groups 48 = .ok (.iload_n 2, 1) := by decide +kernel
theorem dX8_groups_49 : decode cX8_groups 49 = .ok (.sipush 256, 3) := by decide +kernel
theorem dX8_groups_52 : decode cX8_groups 52 = .ok (.if_icmp .ge 132, 3) := by decide +kernel
theorem dX8_groups_55 : decode cX8_groups 55 = .ok (.aload_n 0, 1) := by decide +kernel
theorem dX8_groups_56 : decode cX8_groups 56 = .ok (.getfield 78, 3) := by decide +kernel
theorem dX8_groups_59 : decode cX8_groups 59 = .ok (.iload_n 2, 1) := by decide +kernel
theorem dX8_groups_60 : decode cX8_groups 60 = .ok (.iload_n 2, 1) := by decide +kernel
theorem dX8_groups_61 : decode cX8_groups 61 = .ok (.ifCond .ne 7, 3) := by decide +kernel
theorem dX8_groups_64 : decode cX8_groups 64 = .ok (.iconst 0, 1) := by decide +kernel
theorem dX8_groups_65 : decode cX8_groups 65 = .ok (.goto 4, 3) := by decide +kernel
theorem dX8_groups_68 : decode cX8_groups 68 = .ok (.iconst (-1), 1) := by decide +kernel
theorem dX8_groups_69 : decode cX8_groups 69 = .ok (.iastore, 1) := by decide +kernel
theorem dX8_groups_70 : decode cX8_groups 70 = .ok (.iload_n 2, 1) := by decide +kernel
theorem dX8_groups_71 : decode cX8_groups 71 = .ok (.ifCond .eq 107, 3) := by decide +kernel
theorem dX8_groups_74 : decode cX8_groups 74 = .ok (.iload_n 2, 1) := by decide +kernel
theorem dX8_groups_75 : decode cX8_groups 75 = .ok (.iload_n 1, 1) := by decide +kernel
theorem dX8_groups_76 : decode cX8_groups 76 = .ok (.iconst (-1), 1) := by decide +kernel
theorem dX8_groups_77 : decode cX8_groups 77 = .ok (.ixor, 1) := by decide +kernel
theorem dX8_groups_78 : decode cX8_groups 78 = .ok (.iand, 1) := by decide +kernel
theorem dX8_groups_79 : decode cX8_groups 79 = .ok (.ifCond .ne 99, 3) := by decide +kernel
theorem dX8_groups_82 : decode cX8_groups 82 = .ok (.aload_n 0, 1) := by decide +kernel
theorem dX8_groups_83 : decode cX8_groups 83 = .ok (.iload_n 2, 1) := by decide +kernel
theorem dX8_groups_84 : decode cX8_groups 84 = .ok (.invokevirtual 151, 3) := by decide +kernel
theorem dX8_groups_87 : decode cX8_groups 87 = .ok (.lconst 0, 1) := by decide +kernel
theorem dX8_groups_88 : decode cX8_groups 88 = .ok (.lcmp, 1) := by decide +kernel
theorem dX8_groups_89 : decode cX8_groups 89 = .ok (.ifCond .eq 6, 3) := by decide +kernel
theorem dX8_groups_92 : decode cX8_groups 92 = .ok (.goto 86, 3) := by decide +kernel
theorem dX8_groups_95 : decode cX8_groups 95 = .ok (.iconst 1, 1) := by decide +kernel
theorem dX8_groups_96 : decode cX8_groups 96 = .ok (.istore_n 3, 1) := by decide +kernel
theorem dX8_groups_97 : decode cX8_groups 97 = .ok (.iload_n 3, 1) := by decide +kernel
theorem dX8_groups_98 : decode cX8_groups 98 = .ok (.iload_n 2, 1) := by decide +kernel
theorem dX8_groups_99 : decode cX8_groups 99 = .ok (.if_icmp .gt 79, 3) := by decide +kernel
theorem dX8_groups_102 : decode cX8_groups 102 = .ok (.iload_n 3, 1) := by decide +kernel
theorem dX8_groups_103 : decode cX8_groups 103 = .ok (.iload_n 2, 1) := by decide +kernel
theorem dX8_groups_104 : decode cX8_groups 104 = .ok (.iconst (-1), 1) := by decide +kernel
theorem dX8_groups_105 : decode cX8_groups 105 = .ok (.ixor, 1) := by decide +kernel
theorem dX8_groups_106 : decode cX8_groups 106 = .ok (.iand, 1) := by decide +kernel
theorem dX8_groups_107 : decode cX8_groups 107 = .ok (.ifCond .ne 65, 3) := by decide +kernel
theorem dX8_groups_110 : decode cX8_groups 110 = .ok (.aload_n 0, 1) := by decide +kernel
theorem dX8_groups_111 : decode cX8_groups 111 = .ok (.iload_n 3, 1) := by decide +kernel
theorem dX8_groups_112 : decode cX8_groups 112 = .ok (.invokevirtual 151, 3) := by decide +kernel
theorem dX8_groups_115 : decode cX8_groups 115 = .ok (.lconst 0, 1) := by decide +kernel
theorem dX8_groups_116 : decode cX8_groups 116 = .ok (.lcmp, 1) := by decide +kernel
theorem dX8_groups_117 : decode cX8_groups 117 = .ok (.ifCond .ne 55, 3) := by decide +kernel
theorem dX8_groups_120 : decode cX8_groups 120 = .ok (.aload_n 0, 1) := by decide +kernel
theorem dX8_groups_121 : decode cX8_groups 121 = .ok (.getfield 78, 3) := by decide +kernel
theorem dX8_groups_124 : decode cX8_groups 124 = .ok (.iload_n 2, 1) := by decide +kernel
theorem dX8_groups_125 : decode cX8_groups 125 = .ok (.iload_n 3, 1) := by decide +kernel
theorem dX8_groups_126 : decode cX8_groups 126 = .ok (.iconst (-1), 1) := by decide +kernel
theorem dX8_groups_127 : decode cX8_groups 127 = .ok (.ixor, 1) := by decide +kernel
theorem dX8_groups_128 : decode cX8_groups 128 = .ok (.iand, 1) := by decide +kernel
theorem dX8_groups_129 : decode cX8_groups 129 = .ok (.iaload, 1) := by decide +kernel
theorem dX8_groups_130 : decode cX8_groups 130 = .ok (.ifCond .lt 42, 3) := by decide +kernel
theorem dX8_groups_133 : decode cX8_groups 133 = .ok (.aload_n 0, 1) := by decide +kernel
theorem dX8_groups_134 : decode cX8_groups 134 = .ok (.getfield 78, 3) := by decide +kernel
theorem dX8_groups_137 : decode cX8_groups 137 = .ok (.iload_n 2, 1) := by decide +kernel
theorem dX8_groups_138 : decode cX8_groups 138 = .ok (.iload_n 3, 1) := by decide +kernel
theorem dX8_groups_139 : decode cX8_groups 139 = .ok (.iconst (-1), 1) := by decide +kernel
theorem dX8_groups_140 : decode cX8_groups 140 = .ok (.ixor, 1) := by decide +kernel
theorem dX8_groups_141 : decode cX8_groups 141 = .ok (.iand, 1) := by decide +kernel
theorem dX8_groups_142 : decode cX8_groups 142 = .ok (.iaload, 1) := by decide +kernel
theorem dX8_groups_143 : decode cX8_groups 143 = .ok (.iconst 1, 1) := by decide +kernel
theorem dX8_groups_144 : decode cX8_groups 144 = .ok (.iadd, 1) := by decide +kernel
theorem dX8_groups_145 : decode cX8_groups 145 = .ok (.aload_n 0, 1) := by decide +kernel
theorem dX8_groups_146 : decode cX8_groups 146 = .ok (.getfield 78, 3) := by decide +kernel
theorem dX8_groups_149 : decode cX8_groups 149 = .ok (.iload_n 2, 1) := by decide +kernel
theorem dX8_groups_150 : decode cX8_groups 150 = .ok (.iaload, 1) := by decide +kernel
theorem dX8_groups_151 : decode cX8_groups 151 = .ok (.if_icmp .le 21, 3) := by decide +kernel
theorem dX8_groups_154 : decode cX8_groups 154 = .ok (.aload_n 0, 1) := by decide +kernel
theorem dX8_groups_155 : decode cX8_groups 155 = .ok (.getfield 78, 3) := by decide +kernel
theorem dX8_groups_158 : decode cX8_groups 158 = .ok (.iload_n 2, 1) := by decide +kernel
theorem dX8_groups_159 : decode cX8_groups 159 = .ok (.aload_n 0, 1) := by decide +kernel
theorem dX8_groups_160 : decode cX8_groups 160 = .ok (.getfield 78, 3) := by decide +kernel
theorem dX8_groups_163 : decode cX8_groups 163 = .ok (.iload_n 2, 1) := by decide +kernel
theorem dX8_groups_164 : decode cX8_groups 164 = .ok (.iload_n 3, 1) := by decide +kernel
theorem dX8_groups_165 : decode cX8_groups 165 = .ok (.iconst (-1), 1) := by decide +kernel
theorem dX8_groups_166 : decode cX8_groups 166 = .ok (.ixor, 1) := by decide +kernel
theorem dX8_groups_167 : decode cX8_groups 167 = .ok (.iand, 1) := by decide +kernel
theorem dX8_groups_168 : decode cX8_groups 168 = .ok (.iaload, 1) := by decide +kernel
theorem dX8_groups_169 : decode cX8_groups 169 = .ok (.iconst 1, 1) := by decide +kernel
theorem dX8_groups_170 : decode cX8_groups 170 = .ok (.iadd, 1) := by decide +kernel
theorem dX8_groups_171 : decode cX8_groups 171 = .ok (.iastore, 1) := by decide +kernel
theorem dX8_groups_172 : decode cX8_groups 172 = .ok (.iinc 3 1, 3) := by decide +kernel
theorem dX8_groups_175 : decode cX8_groups 175 = .ok (.goto (-78), 3) := by decide +kernel
theorem dX8_groups_178 : decode cX8_groups 178 = .ok (.iinc 2 1, 3) := by decide +kernel
theorem dX8_groups_181 : decode cX8_groups 181 = .ok (.goto (-133), 3) := by decide +kernel
theorem dX8_groups_184 : decode cX8_groups 184 = .ok (.iload_n 1, 1) := by decide +kernel
theorem dX8_groups_185 : decode cX8_groups 185 = .ok (.ireturn, 1) := by decide +kernel
theorem dX8_fewest_0 : decode cX8_fewest 0 = .ok (.aload_n 0, 1) := by decide +kernel
theorem dX8_fewest_1 : decode cX8_fewest 1 = .ok (.invokevirtual 155, 3) := by decide +kernel
theorem dX8_fewest_4 : decode cX8_fewest 4 = .ok (.istore_n 1, 1) := by decide +kernel
theorem dX8_fewest_5 : decode cX8_fewest 5 = .ok (.iconst 0, 1) := by decide +kernel
theorem dX8_fewest_6 : decode cX8_fewest 6 = .ok (.istore_n 2, 1) := by decide +kernel
theorem dX8_fewest_7 : decode cX8_fewest 7 = .ok (.iconst 0, 1) := by decide +kernel
theorem dX8_fewest_8 : decode cX8_fewest 8 = .ok (.istore_n 3, 1) := by decide +kernel
theorem dX8_fewest_9 : decode cX8_fewest 9 = .ok (.iload_n 3, 1) := by decide +kernel
theorem dX8_fewest_10 : decode cX8_fewest 10 = .ok (.bipush 8, 2) := by decide +kernel
theorem dX8_fewest_12 : decode cX8_fewest 12 = .ok (.if_icmp .ge 17, 3) := by decide +kernel
theorem dX8_fewest_15 : decode cX8_fewest 15 = .ok (.iload_n 2, 1) := by decide +kernel
theorem dX8_fewest_16 : decode cX8_fewest 16 = .ok (.iload_n 1, 1) := by decide +kernel
theorem dX8_fewest_17 : decode cX8_fewest 17 = .ok (.iload_n 3, 1) := by decide +kernel
theorem dX8_fewest_18 : decode cX8_fewest 18 = .ok (.ishr, 1) := by decide +kernel
theorem dX8_fewest_19 : decode cX8_fewest 19 = .ok (.iconst 1, 1) := by decide +kernel
theorem dX8_fewest_20 : decode cX8_fewest 20 = .ok (.iand, 1) := by decide +kernel
theorem dX8_fewest_21 : decode cX8_fewest 21 = .ok (.iadd, 1) := by decide +kernel
theorem dX8_fewest_22 : decode cX8_fewest 22 = .ok (.istore_n 2, 1) := by decide +kernel
theorem dX8_fewest_23 : decode cX8_fewest 23 = .ok (.iinc 3 1, 3) := by decide +kernel
theorem dX8_fewest_26 : decode cX8_fewest 26 = .ok (.goto (-17), 3) := by decide +kernel
theorem dX8_fewest_29 : decode cX8_fewest 29 = .ok (.iload_n 2, 1) := by decide +kernel
theorem dX8_fewest_30 : decode cX8_fewest 30 = .ok (.aload_n 0, 1) := by decide +kernel
theorem dX8_fewest_31 : decode cX8_fewest 31 = .ok (.getfield 78, 3) := by decide +kernel
theorem dX8_fewest_34 : decode cX8_fewest 34 = .ok (.iload_n 1, 1) := by decide +kernel
theorem dX8_fewest_35 : decode cX8_fewest 35 = .ok (.iaload, 1) := by decide +kernel
theorem dX8_fewest_36 : decode cX8_fewest 36 = .ok (.isub, 1) := by decide +kernel
theorem dX8_fewest_37 : decode cX8_fewest 37 = .ok (.ireturn, 1) := by decide +kernel
theorem dX8_group_0 : decode cX8_group 0 = .ok (.iload_n 1, 1) := by decide +kernel
theorem dX8_group_1 : decode cX8_group 1 = .ok (.invokestatic 105, 3) := by decide +kernel
theorem dX8_group_4 : decode cX8_group 4 = .ok (.ifCond .ne 5, 3) := by decide +kernel
theorem dX8_group_7 : decode cX8_group 7 = .ok (.iconst 0, 1) := by decide +kernel
theorem dX8_group_8 : decode cX8_group 8 = .ok (.ireturn, 1) := by decide +kernel
theorem dX8_group_9 : decode cX8_group 9 = .ok (.aload_n 0, 1) := by decide +kernel
theorem dX8_group_10 : decode cX8_group 10 = .ok (.invokevirtual 155, 3) := by decide +kernel
theorem dX8_group_13 : decode cX8_group 13 = .ok (.istore_n 2, 1) := by decide +kernel
theorem dX8_group_14 : decode cX8_group 14 = .ok (.iload_n 2, 1) := by decide +kernel
theorem dX8_group_15 : decode cX8_group 15 = .ok (.ifCond .eq 102, 3) := by decide +kernel
theorem dX8_group_18 : decode cX8_group 18 = .ok (.iconst 0, 1) := by decide +kernel
theorem dX8_group_19 : decode cX8_group 19 = .ok (.istore_n 3, 1) := by decide +kernel
theorem dX8_group_20 : decode cX8_group 20 = .ok (.iload_n 2, 1) := by decide +kernel
theorem dX8_group_21 : decode cX8_group 21 = .ok (.iload_n 3, 1) := by decide +kernel
theorem dX8_group_22 : decode cX8_group 22 = .ok (.ishr, 1) := by decide +kernel
theorem dX8_group_23 : decode cX8_group 23 = .ok (.iconst 1, 1) := by decide +kernel
theorem dX8_group_24 : decode cX8_group 24 = .ok (.iand, 1) := by decide +kernel
theorem dX8_group_25 : decode cX8_group 25 = .ok (.ifCond .ne 9, 3) := by decide +kernel
theorem dX8_group_28 : decode cX8_group 28 = .ok (.iinc 3 1, 3) := by decide +kernel
theorem dX8_group_31 : decode cX8_group 31 = .ok (.goto (-11), 3) := by decide +kernel
theorem dX8_group_34 : decode cX8_group 34 = .ok (.iconst 1, 1) := by decide +kernel
theorem dX8_group_35 : decode cX8_group 35 = .ok (.istore 4, 2) := by decide +kernel
theorem dX8_group_37 : decode cX8_group 37 = .ok (.iload 4, 2) := by decide +kernel
theorem dX8_group_39 : decode cX8_group 39 = .ok (.iload_n 2, 1) := by decide +kernel
theorem dX8_group_40 : decode cX8_group 40 = .ok (.iconst (-1), 1) := by decide +kernel
theorem dX8_group_41 : decode cX8_group 41 = .ok (.ixor, 1) := by decide +kernel
theorem dX8_group_42 : decode cX8_group 42 = .ok (.iand, 1) := by decide +kernel
theorem dX8_group_43 : decode cX8_group 43 = .ok (.ifCond .ne 45, 3) := by decide +kernel
theorem dX8_group_46 : decode cX8_group 46 = .ok (.iload 4, 2) := by decide +kernel
theorem dX8_group_48 : decode cX8_group 48 = .ok (.iload_n 3, 1) := by decide +kernel
theorem dX8_group_49 : decode cX8_group 49 = .ok (.ishr, 1) := by decide +kernel
theorem dX8_group_50 : decode cX8_group 50 = .ok (.iconst 1, 1) := by decide +kernel
theorem dX8_group_51 : decode cX8_group 51 = .ok (.iand, 1) := by decide +kernel
theorem dX8_group_52 : decode cX8_group 52 = .ok (.ifCond .eq 36, 3) := by decide +kernel
theorem dX8_group_55 : decode cX8_group 55 = .ok (.aload_n 0, 1) := by decide +kernel
theorem dX8_group_56 : decode cX8_group 56 = .ok (.iload 4, 2) := by decide +kernel
theorem dX8_group_58 : decode cX8_group 58 = .ok (.invokevirtual 151, 3) := by decide +kernel
theorem dX8_group_61 : decode cX8_group 61 = .ok (.lconst 0, 1) := by decide +kernel
theorem dX8_group_62 : decode cX8_group 62 = .ok (.lcmp, 1) := by decide +kernel
theorem dX8_group_63 : decode cX8_group 63 = .ok (.ifCond .ne 25, 3) := by decide +kernel
theorem dX8_group_66 : decode cX8_group 66 = .ok (.aload_n 0, 1) := by decide +kernel
theorem dX8_group_67 : decode cX8_group 67 = .ok (.getfield 78, 3) := by decide +kernel
theorem dX8_group_70 : decode cX8_group 70 = .ok (.iload_n 2, 1) := by decide +kernel
theorem dX8_group_71 : decode cX8_group 71 = .ok (.iload 4, 2) := by decide +kernel
theorem dX8_group_73 : decode cX8_group 73 = .ok (.iconst (-1), 1) := by decide +kernel
theorem dX8_group_74 : decode cX8_group 74 = .ok (.ixor, 1) := by decide +kernel
theorem dX8_group_75 : decode cX8_group 75 = .ok (.iand, 1) := by decide +kernel
theorem dX8_group_76 : decode cX8_group 76 = .ok (.iaload, 1) := by decide +kernel
theorem dX8_group_77 : decode cX8_group 77 = .ok (.iconst 1, 1) := by decide +kernel
theorem dX8_group_78 : decode cX8_group 78 = .ok (.iadd, 1) := by decide +kernel
theorem dX8_group_79 : decode cX8_group 79 = .ok (.aload_n 0, 1) := by decide +kernel
theorem dX8_group_80 : decode cX8_group 80 = .ok (.getfield 78, 3) := by decide +kernel
theorem dX8_group_83 : decode cX8_group 83 = .ok (.iload_n 2, 1) := by decide +kernel
theorem dX8_group_84 : decode cX8_group 84 = .ok (.iaload, 1) := by decide +kernel
theorem dX8_group_85 : decode cX8_group 85 = .ok (.if_icmp .eq 9, 3) := by decide +kernel
theorem dX8_group_88 : decode cX8_group 88 = .ok (.iinc 4 1, 3) := by decide +kernel
theorem dX8_group_91 : decode cX8_group 91 = .ok (.goto (-54), 3) := by decide +kernel
theorem dX8_group_94 : decode cX8_group 94 = .ok (.iload 4, 2) := by decide +kernel
theorem dX8_group_96 : decode cX8_group 96 = .ok (.iload_n 1, 1) := by decide +kernel
theorem dX8_group_97 : decode cX8_group 97 = .ok (.ishr, 1) := by decide +kernel
theorem dX8_group_98 : decode cX8_group 98 = .ok (.iconst 1, 1) := by decide +kernel
theorem dX8_group_99 : decode cX8_group 99 = .ok (.iand, 1) := by decide +kernel
theorem dX8_group_100 : decode cX8_group 100 = .ok (.iconst 1, 1) := by decide +kernel
theorem dX8_group_101 : decode cX8_group 101 = .ok (.if_icmp .ne 6, 3) := by decide +kernel
theorem dX8_group_104 : decode cX8_group 104 = .ok (.iload 4, 2) := by decide +kernel
theorem dX8_group_106 : decode cX8_group 106 = .ok (.ireturn, 1) := by decide +kernel
theorem dX8_group_107 : decode cX8_group 107 = .ok (.iload_n 2, 1) := by decide +kernel
theorem dX8_group_108 : decode cX8_group 108 = .ok (.iload 4, 2) := by decide +kernel
theorem dX8_group_110 : decode cX8_group 110 = .ok (.iconst (-1), 1) := by decide +kernel
theorem dX8_group_111 : decode cX8_group 111 = .ok (.ixor, 1) := by decide +kernel
theorem dX8_group_112 : decode cX8_group 112 = .ok (.iand, 1) := by decide +kernel
theorem dX8_group_113 : decode cX8_group 113 = .ok (.istore_n 2, 1) := by decide +kernel
theorem dX8_group_114 : decode cX8_group 114 = .ok (.goto (-100), 3) := by decide +kernel
theorem dX8_group_117 : decode cX8_group 117 = .ok (.iconst 0, 1) := by decide +kernel
theorem dX8_group_118 : decode cX8_group 118 = .ok (.ireturn, 1) := by decide +kernel
theorem dX8_empties_0 : decode cX8_empties 0 = .ok (.iload_n 1, 1) := by decide +kernel
theorem dX8_empties_1 : decode cX8_empties 1 = .ok (.invokestatic 101, 3) := by decide +kernel
theorem dX8_empties_4 : decode cX8_empties 4 = .ok (.ifCond .eq 23, 3) := by decide +kernel
theorem dX8_empties_7 : decode cX8_empties 7 = .ok (.iload_n 2, 1) := by decide +kernel
theorem dX8_empties_8 : decode cX8_empties 8 = .ok (.iconst 0, 1) := by decide +kernel
theorem dX8_empties_9 : decode cX8_empties 9 = .ok (.bipush 9, 2) := by decide +kernel
theorem dX8_empties_11 : decode cX8_empties 11 = .ok (.invokestatic 93, 3) := by decide +kernel
theorem dX8_empties_14 : decode cX8_empties 14 = .ok (.ifCond .eq 13, 3) := by decide +kernel
theorem dX8_empties_17 : decode cX8_empties 17 = .ok (.iload_n 3, 1) := by decide +kernel
theorem dX8_empties_18 : decode cX8_empties 18 = .ok (.iconst 0, 1) := by decide +kernel
theorem dX8_empties_19 : decode cX8_empties 19 = .ok (.bipush 9, 2) := by decide +kernel
theorem dX8_empties_21 : decode cX8_empties 21 = .ok (.invokestatic 93, 3) := by decide +kernel
theorem dX8_empties_24 : decode cX8_empties 24 = .ok (.ifCond .ne 5, 3) := by decide +kernel
theorem dX8_empties_27 : decode cX8_empties 27 = .ok (.iconst 0, 1) := by decide +kernel
theorem dX8_empties_28 : decode cX8_empties 28 = .ok (.ireturn, 1) := by decide +kernel
theorem dX8_empties_29 : decode cX8_empties 29 = .ok (.aload_n 0, 1) := by decide +kernel
theorem dX8_empties_30 : decode cX8_empties 30 = .ok (.getfield 53, 3) := by decide +kernel
theorem dX8_empties_33 : decode cX8_empties 33 = .ok (.iload_n 1, 1) := by decide +kernel
theorem dX8_empties_34 : decode cX8_empties 34 = .ok (.iload_n 2, 1) := by decide +kernel
theorem dX8_empties_35 : decode cX8_empties 35 = .ok (.iastore, 1) := by decide +kernel
theorem dX8_empties_36 : decode cX8_empties 36 = .ok (.aload_n 0, 1) := by decide +kernel
theorem dX8_empties_37 : decode cX8_empties 37 = .ok (.getfield 56, 3) := by decide +kernel
theorem dX8_empties_40 : decode cX8_empties 40 = .ok (.iload_n 1, 1) := by decide +kernel
theorem dX8_empties_41 : decode cX8_empties 41 = .ok (.iload_n 3, 1) := by decide +kernel
theorem dX8_empties_42 : decode cX8_empties 42 = .ok (.iastore, 1) := by decide +kernel
theorem dX8_empties_43 : decode cX8_empties 43 = .ok (.iconst 1, 1) := by decide +kernel
theorem dX8_empties_44 : decode cX8_empties 44 = .ok (.ireturn, 1) := by decide +kernel
theorem dX8_leads_0 : decode cX8_leads 0 = .ok (.iconst 0, 1) := by decide +kernel
theorem dX8_leads_1 : decode cX8_leads 1 = .ok (.istore_n 1, 1) := by decide +kernel
theorem dX8_leads_2 : decode cX8_leads 2 = .ok (.iload_n 1, 1) := by decide +kernel
theorem dX8_leads_3 : decode cX8_leads 3 = .ok (.sipush 144, 3) := by decide +kernel
theorem dX8_leads_6 : decode cX8_leads 6 = .ok (.if_icmp .ge 16, 3) := by decide +kernel
theorem dX8_leads_9 : decode cX8_leads 9 = .ok (.aload_n 0, 1) := by decide +kernel
theorem dX8_leads_10 : decode cX8_leads 10 = .ok (.getfield 81, 3) := by decide +kernel
theorem dX8_leads_13 : decode cX8_leads 13 = .ok (.iload_n 1, 1) := by decide +kernel
theorem dX8_leads_14 : decode cX8_leads 14 = .ok (.iconst 0, 1) := by decide +kernel
theorem dX8_leads_15 : decode cX8_leads 15 = .ok (.iastore, 1) := by decide +kernel
theorem dX8_leads_16 : decode cX8_leads 16 = .ok (.iinc 1 1, 3) := by decide +kernel
theorem dX8_leads_19 : decode cX8_leads 19 = .ok (.goto (-17), 3) := by decide +kernel
theorem dX8_leads_22 : decode cX8_leads 22 = .ok (.aload_n 0, 1) := by decide +kernel
theorem dX8_leads_23 : decode cX8_leads 23 = .ok (.iconst 0, 1) := by decide +kernel
theorem dX8_leads_24 : decode cX8_leads 24 = .ok (.putfield 158, 3) := by decide +kernel
theorem dX8_leads_27 : decode cX8_leads 27 = .ok (.iconst 0, 1) := by decide +kernel
theorem dX8_leads_28 : decode cX8_leads 28 = .ok (.istore_n 1, 1) := by decide +kernel
theorem dX8_leads_29 : decode cX8_leads 29 = .ok (.aload_n 0, 1) := by decide +kernel
theorem dX8_leads_30 : decode cX8_leads 30 = .ok (.invokevirtual 161, 3) := by decide +kernel
theorem dX8_leads_33 : decode cX8_leads 33 = .ok (.istore_n 2, 1) := by decide +kernel
theorem dX8_leads_34 : decode cX8_leads 34 = .ok (.iload_n 2, 1) := by decide +kernel
theorem dX8_leads_35 : decode cX8_leads 35 = .ok (.iconst (-1), 1) := by decide +kernel
theorem dX8_leads_36 : decode cX8_leads 36 = .ok (.if_icmp .eq 103, 3) := by decide +kernel
theorem dX8_leads_39 : decode cX8_leads 39 = .ok (.aload_n 0, 1) := by decide +kernel
theorem dX8_leads_40 : decode cX8_leads 40 = .ok (.dup, 1) := by decide +kernel
theorem dX8_leads_41 : decode cX8_leads 41 = .ok (.getfield 158, 3) := by decide +kernel
theorem dX8_leads_44 : decode cX8_leads 44 = .ok (.aload_n 0, 1) := by decide +kernel
theorem dX8_leads_45 : decode cX8_leads 45 = .ok (.getfield 84, 3) := by decide +kernel
theorem dX8_leads_48 : decode cX8_leads 48 = .ok (.iload_n 2, 1) := by decide +kernel
theorem dX8_leads_49 : decode cX8_leads 49 = .ok (.iaload, 1) := by decide +kernel
theorem dX8_leads_50 : decode cX8_leads 50 = .ok (.iadd, 1) := by decide +kernel
theorem dX8_leads_51 : decode cX8_leads 51 = .ok (.putfield 158, 3) := by decide +kernel
theorem dX8_leads_54 : decode cX8_leads 54 = .ok (.iinc 1 1, 3) := by decide +kernel
theorem dX8_leads_57 : decode cX8_leads 57 = .ok (.iload_n 2, 1) := by decide +kernel
theorem dX8_leads_58 : decode cX8_leads 58 = .ok (.istore_n 3, 1) := by decide +kernel
theorem dX8_leads_59 : decode cX8_leads 59 = .ok (.iload_n 3, 1) := by decide +kernel
theorem dX8_leads_60 : decode cX8_leads 60 = .ok (.iconst (-1), 1) := by decide +kernel
theorem dX8_leads_61 : decode cX8_leads 61 = .ok (.if_icmp .eq 70, 3) := by decide +kernel
theorem dX8_leads_64 : decode cX8_leads 64 = .ok (.aload_n 0, 1) := by decide +kernel
theorem dX8_leads_65 : decode cX8_leads 65 = .ok (.getfield 87, 3) := by decide +kernel
theorem dX8_leads_68 : decode cX8_leads 68 = .ok (.iload_n 3, 1) := by decide +kernel
theorem dX8_leads_69 : decode cX8_leads 69 = .ok (.iaload, 1) := by decide +kernel
theorem dX8_leads_70 : decode cX8_leads 70 = .ok (.istore 4, 2) := by decide +kernel
theorem dX8_leads_72 : decode cX8_leads 72 = .ok (.iload 4, 2) := by decide +kernel
theorem dX8_leads_74 : decode cX8_leads 74 = .ok (.iconst (-1), 1) := by decide +kernel
theorem dX8_leads_75 : decode cX8_leads 75 = .ok (.if_icmp .eq 50, 3) := by decide +kernel
theorem dX8_leads_78 : decode cX8_leads 78 = .ok (.iload_n 3, 1) := by decide +kernel
theorem dX8_leads_79 : decode cX8_leads 79 = .ok (.bipush 12, 2) := by decide +kernel
theorem dX8_leads_81 : decode cX8_leads 81 = .ok (.if_icmp .lt 25, 3) := by decide +kernel
theorem dX8_leads_84 : decode cX8_leads 84 = .ok (.aload_n 0, 1) := by decide +kernel
theorem dX8_leads_85 : decode cX8_leads 85 = .ok (.getfield 81, 3) := by decide +kernel
theorem dX8_leads_88 : decode cX8_leads 88 = .ok (.bipush 12, 2) := by decide +kernel
theorem dX8_leads_90 : decode cX8_leads 90 = .ok (.iload 4, 2) := by decide +kernel
theorem dX8_leads_92 : decode cX8_leads 92 = .ok (.imul, 1) := by decide +kernel
theorem dX8_leads_93 : decode cX8_leads 93 = .ok (.iload_n 3, 1) := by decide +kernel
theorem dX8_leads_94 : decode cX8_leads 94 = .ok (.iadd, 1) := by decide +kernel
theorem dX8_leads_95 : decode cX8_leads 95 = .ok (.bipush 12, 2) := by decide +kernel
theorem dX8_leads_97 : decode cX8_leads 97 = .ok (.isub, 1) := by decide +kernel
theorem dX8_leads_98 : decode cX8_leads 98 = .ok (.dup2, 1) := by decide +kernel
theorem dX8_leads_99 : decode cX8_leads 99 = .ok (.iaload, 1) := by decide +kernel
theorem dX8_leads_100 : decode cX8_leads 100 = .ok (.iconst 1, 1) := by decide +kernel
theorem dX8_leads_101 : decode cX8_leads 101 = .ok (.iadd, 1) := by decide +kernel
theorem dX8_leads_102 : decode cX8_leads 102 = .ok (.iastore, 1) := by decide +kernel
theorem dX8_leads_103 : decode cX8_leads 103 = .ok (.goto 22, 3) := by decide +kernel
theorem dX8_leads_106 : decode cX8_leads 106 = .ok (.aload_n 0, 1) := by decide +kernel
theorem dX8_leads_107 : decode cX8_leads 107 = .ok (.getfield 81, 3) := by decide +kernel
theorem dX8_leads_110 : decode cX8_leads 110 = .ok (.bipush 12, 2) := by decide +kernel
theorem dX8_leads_112 : decode cX8_leads 112 = .ok (.iload_n 3, 1) := by decide +kernel
theorem dX8_leads_113 : decode cX8_leads 113 = .ok (.imul, 1) := by decide +kernel
theorem dX8_leads_114 : decode cX8_leads 114 = .ok (.iload 4, 2) := by decide +kernel
theorem dX8_leads_116 : decode cX8_leads 116 = .ok (.iadd, 1) := by decide +kernel
theorem dX8_leads_117 : decode cX8_leads 117 = .ok (.bipush 12, 2) := by decide +kernel
theorem dX8_leads_119 : decode cX8_leads 119 = .ok (.isub, 1) := by decide +kernel
theorem dX8_leads_120 : decode cX8_leads 120 = .ok (.dup2, 1) := by decide +kernel
theorem dX8_leads_121 : decode cX8_leads 121 = .ok (.iaload, 1) := by decide +kernel
theorem dX8_leads_122 : decode cX8_leads 122 = .ok (.iconst 1, 1) := by decide +kernel
theorem dX8_leads_123 : decode cX8_leads 123 = .ok (.isub, 1) := by decide +kernel
theorem dX8_leads_124 : decode cX8_leads 124 = .ok (.iastore, 1) := by decide +kernel
theorem dX8_leads_125 : decode cX8_leads 125 = .ok (.iload 4, 2) := by decide +kernel
theorem dX8_leads_127 : decode cX8_leads 127 = .ok (.istore_n 3, 1) := by decide +kernel
theorem dX8_leads_128 : decode cX8_leads 128 = .ok (.goto (-69), 3) := by decide +kernel
theorem dX8_leads_131 : decode cX8_leads 131 = .ok (.aload_n 0, 1) := by decide +kernel
theorem dX8_leads_132 : decode cX8_leads 132 = .ok (.invokevirtual 161, 3) := by decide +kernel
theorem dX8_leads_135 : decode cX8_leads 135 = .ok (.istore_n 2, 1) := by decide +kernel
theorem dX8_leads_136 : decode cX8_leads 136 = .ok (.goto (-102), 3) := by decide +kernel
theorem dX8_leads_139 : decode cX8_leads 139 = .ok (.iload_n 1, 1) := by decide +kernel
theorem dX8_leads_140 : decode cX8_leads 140 = .ok (.ireturn, 1) := by decide +kernel
theorem dX8_left_0 : decode cX8_left 0 = .ok (.aload_n 0, 1) := by decide +kernel
theorem dX8_left_1 : decode cX8_left 1 = .ok (.getfield 53, 3) := by decide +kernel
theorem dX8_left_4 : decode cX8_left 4 = .ok (.iload_n 1, 1) := by decide +kernel
theorem dX8_left_5 : decode cX8_left 5 = .ok (.iaload, 1) := by decide +kernel
theorem dX8_left_6 : decode cX8_left 6 = .ok (.istore_n 2, 1) := by decide +kernel
theorem dX8_left_7 : decode cX8_left 7 = .ok (.iconst 0, 1) := by decide +kernel
theorem dX8_left_8 : decode cX8_left 8 = .ok (.istore_n 3, 1) := by decide +kernel
theorem dX8_left_9 : decode cX8_left 9 = .ok (.iload_n 3, 1) := by decide +kernel
theorem dX8_left_10 : decode cX8_left 10 = .ok (.bipush 12, 2) := by decide +kernel
theorem dX8_left_12 : decode cX8_left 12 = .ok (.if_icmp .ge 23, 3) := by decide +kernel
theorem dX8_left_15 : decode cX8_left 15 = .ok (.iload_n 2, 1) := by decide +kernel
theorem dX8_left_16 : decode cX8_left 16 = .ok (.aload_n 0, 1) := by decide +kernel
theorem dX8_left_17 : decode cX8_left 17 = .ok (.getfield 81, 3) := by decide +kernel
theorem dX8_left_20 : decode cX8_left 20 = .ok (.bipush 12, 2) := by decide +kernel
theorem dX8_left_22 : decode cX8_left 22 = .ok (.iload_n 1, 1) := by decide +kernel
theorem dX8_left_23 : decode cX8_left 23 = .ok (.imul, 1) := by decide +kernel
theorem dX8_left_24 : decode cX8_left 24 = .ok (.iload_n 3, 1) := by decide +kernel
theorem dX8_left_25 : decode cX8_left 25 = .ok (.iadd, 1) := by decide +kernel
theorem dX8_left_26 : decode cX8_left 26 = .ok (.iaload, 1) := by decide +kernel
theorem dX8_left_27 : decode cX8_left 27 = .ok (.isub, 1) := by decide +kernel
theorem dX8_left_28 : decode cX8_left 28 = .ok (.istore_n 2, 1) := by decide +kernel
theorem dX8_left_29 : decode cX8_left 29 = .ok (.iinc 3 1, 3) := by decide +kernel
theorem dX8_left_32 : decode cX8_left 32 = .ok (.goto (-23), 3) := by decide +kernel
theorem dX8_left_35 : decode cX8_left 35 = .ok (.iload_n 2, 1) := by decide +kernel
theorem dX8_left_36 : decode cX8_left 36 = .ok (.ireturn, 1) := by decide +kernel
theorem dX8_lacks_0 : decode cX8_lacks 0 = .ok (.aload_n 0, 1) := by decide +kernel
theorem dX8_lacks_1 : decode cX8_lacks 1 = .ok (.getfield 56, 3) := by decide +kernel
theorem dX8_lacks_4 : decode cX8_lacks 4 = .ok (.iload_n 1, 1) := by decide +kernel
theorem dX8_lacks_5 : decode cX8_lacks 5 = .ok (.iaload, 1) := by decide +kernel
theorem dX8_lacks_6 : decode cX8_lacks 6 = .ok (.istore_n 2, 1) := by decide +kernel
theorem dX8_lacks_7 : decode cX8_lacks 7 = .ok (.iconst 0, 1) := by decide +kernel
theorem dX8_lacks_8 : decode cX8_lacks 8 = .ok (.istore_n 3, 1) := by decide +kernel
theorem dX8_lacks_9 : decode cX8_lacks 9 = .ok (.iload_n 3, 1) := by decide +kernel
theorem dX8_lacks_10 : decode cX8_lacks 10 = .ok (.bipush 12, 2) := by decide +kernel
theorem dX8_lacks_12 : decode cX8_lacks 12 = .ok (.if_icmp .ge 23, 3) := by decide +kernel
theorem dX8_lacks_15 : decode cX8_lacks 15 = .ok (.iload_n 2, 1) := by decide +kernel
theorem dX8_lacks_16 : decode cX8_lacks 16 = .ok (.aload_n 0, 1) := by decide +kernel
theorem dX8_lacks_17 : decode cX8_lacks 17 = .ok (.getfield 81, 3) := by decide +kernel
theorem dX8_lacks_20 : decode cX8_lacks 20 = .ok (.bipush 12, 2) := by decide +kernel
theorem dX8_lacks_22 : decode cX8_lacks 22 = .ok (.iload_n 3, 1) := by decide +kernel
theorem dX8_lacks_23 : decode cX8_lacks 23 = .ok (.imul, 1) := by decide +kernel
theorem dX8_lacks_24 : decode cX8_lacks 24 = .ok (.iload_n 1, 1) := by decide +kernel
theorem dX8_lacks_25 : decode cX8_lacks 25 = .ok (.iadd, 1) := by decide +kernel
theorem dX8_lacks_26 : decode cX8_lacks 26 = .ok (.iaload, 1) := by decide +kernel
theorem dX8_lacks_27 : decode cX8_lacks 27 = .ok (.isub, 1) := by decide +kernel
theorem dX8_lacks_28 : decode cX8_lacks 28 = .ok (.istore_n 2, 1) := by decide +kernel
theorem dX8_lacks_29 : decode cX8_lacks 29 = .ok (.iinc 3 1, 3) := by decide +kernel
theorem dX8_lacks_32 : decode cX8_lacks 32 = .ok (.goto (-23), 3) := by decide +kernel
theorem dX8_lacks_35 : decode cX8_lacks 35 = .ok (.iload_n 2, 1) := by decide +kernel
theorem dX8_lacks_36 : decode cX8_lacks 36 = .ok (.ireturn, 1) := by decide +kernel
theorem dX8_seeks_0 : decode cX8_seeks 0 = .ok (.iconst 0, 1) := by decide +kernel
theorem dX8_seeks_1 : decode cX8_seeks 1 = .ok (.istore_n 1, 1) := by decide +kernel
theorem dX8_seeks_2 : decode cX8_seeks 2 = .ok (.iload_n 1, 1) := by decide +kernel
theorem dX8_seeks_3 : decode cX8_seeks 3 = .ok (.bipush 24, 2) := by decide +kernel
theorem dX8_seeks_5 : decode cX8_seeks 5 = .ok (.if_icmp .ge 42, 3) := by decide +kernel
theorem dX8_seeks_8 : decode cX8_seeks 8 = .ok (.aload_n 0, 1) := by decide +kernel
theorem dX8_seeks_9 : decode cX8_seeks 9 = .ok (.getfield 84, 3) := by decide +kernel
theorem dX8_seeks_12 : decode cX8_seeks 12 = .ok (.iload_n 1, 1) := by decide +kernel
theorem dX8_seeks_13 : decode cX8_seeks 13 = .ok (.iload_n 1, 1) := by decide +kernel
theorem dX8_seeks_14 : decode cX8_seeks 14 = .ok (.bipush 12, 2) := by decide +kernel
theorem dX8_seeks_16 : decode cX8_seeks 16 = .ok (.if_icmp .ge 15, 3) := by decide +kernel
theorem dX8_seeks_19 : decode cX8_seeks 19 = .ok (.aload_n 0, 1) := by decide +kernel
theorem dX8_seeks_20 : decode cX8_seeks 20 = .ok (.iload_n 1, 1) := by decide +kernel
theorem dX8_seeks_21 : decode cX8_seeks 21 = .ok (.invokevirtual 164, 3) := by decide +kernel
theorem dX8_seeks_24 : decode cX8_seeks 24 = .ok (.ifCond .le 7, 3) := by decide +kernel
theorem dX8_seeks_27 : decode cX8_seeks 27 = .ok (.iconst 0, 1) := by decide +kernel
theorem dX8_seeks_28 : decode cX8_seeks 28 = .ok (.goto 5, 3) := by decide +kernel
theorem dX8_seeks_31 : decode cX8_seeks 31 = .ok (.ldc 97, 2) := by decide +kernel
theorem dX8_seeks_33 : decode cX8_seeks 33 = .ok (.iastore, 1) := by decide +kernel
theorem dX8_seeks_34 : decode cX8_seeks 34 = .ok (.aload_n 0, 1) := by decide +kernel
theorem dX8_seeks_35 : decode cX8_seeks 35 = .ok (.getfield 87, 3) := by decide +kernel
theorem dX8_seeks_38 : decode cX8_seeks 38 = .ok (.iload_n 1, 1) := by decide +kernel
theorem dX8_seeks_39 : decode cX8_seeks 39 = .ok (.iconst (-1), 1) := by decide +kernel
theorem dX8_seeks_40 : decode cX8_seeks 40 = .ok (.iastore, 1) := by decide +kernel
theorem dX8_seeks_41 : decode cX8_seeks 41 = .ok (.iinc 1 1, 3) := by decide +kernel
theorem dX8_seeks_44 : decode cX8_seeks 44 = .ok (.goto (-42), 3) := by decide +kernel
theorem dX8_seeks_47 : decode cX8_seeks 47 = .ok (.iconst 1, 1) := by decide +kernel
theorem dX8_seeks_48 : decode cX8_seeks 48 = .ok (.istore_n 1, 1) := by decide +kernel
theorem dX8_seeks_49 : decode cX8_seeks 49 = .ok (.iload_n 1, 1) := by decide +kernel
theorem dX8_seeks_50 : decode cX8_seeks 50 = .ok (.ifCond .eq 181, 3) := by decide +kernel
theorem dX8_seeks_53 : decode cX8_seeks 53 = .ok (.iconst 0, 1) := by decide +kernel
theorem dX8_seeks_54 : decode cX8_seeks 54 = .ok (.istore_n 1, 1) := by decide +kernel
theorem dX8_seeks_55 : decode cX8_seeks 55 = .ok (.iconst 0, 1) := by decide +kernel
theorem dX8_seeks_56 : decode cX8_seeks 56 = .ok (.istore_n 2, 1) := by decide +kernel
theorem dX8_seeks_57 : decode cX8_seeks 57 = .ok (.iload_n 2, 1) := by decide +kernel
theorem dX8_seeks_58 : decode cX8_seeks 58 = .ok (.bipush 12, 2) := by decide +kernel
theorem dX8_seeks_60 : decode cX8_seeks 60 = .ok (.if_icmp .ge 168, 3) := by decide +kernel
theorem dX8_seeks_63 : decode cX8_seeks 63 = .ok (.iconst 0, 1) := by decide +kernel
theorem dX8_seeks_64 : decode cX8_seeks 64 = .ok (.istore_n 3, 1) := by decide +kernel
theorem dX8_seeks_65 : decode cX8_seeks 65 = .ok (.iload_n 3, 1) := by decide +kernel
theorem dX8_seeks_66 : decode cX8_seeks 66 = .ok (.bipush 12, 2) := by decide +kernel
theorem dX8_seeks_68 : decode cX8_seeks 68 = .ok (.if_icmp .ge 154, 3) := by decide +kernel
theorem dX8_seeks_71 : decode cX8_seeks 71 = .ok (.aload_n 0, 1) := by decide +kernel
theorem dX8_seeks_72 : decode cX8_seeks 72 = .ok (.getfield 22, 3) := by decide +kernel
theorem dX8_seeks_75 : decode cX8_seeks 75 = .ok (.bipush 12, 2) := by decide +kernel
theorem dX8_seeks_77 : decode cX8_seeks 77 = .ok (.iload_n 2, 1) := by decide +kernel
theorem dX8_seeks_78 : decode cX8_seeks 78 = .ok (.imul, 1) := by decide +kernel
theorem dX8_seeks_79 : decode cX8_seeks 79 = .ok (.iload_n 3, 1) := by decide +kernel
theorem dX8_seeks_80 : decode cX8_seeks 80 = .ok (.iadd, 1) := by decide +kernel
theorem dX8_seeks_81 : decode cX8_seeks 81 = .ok (.iaload, 1) := by decide +kernel
theorem dX8_seeks_82 : decode cX8_seeks 82 = .ok (.istore 4, 2) := by decide +kernel
theorem dX8_seeks_84 : decode cX8_seeks 84 = .ok (.bipush 12, 2) := by decide +kernel
theorem dX8_seeks_86 : decode cX8_seeks 86 = .ok (.iload_n 3, 1) := by decide +kernel
theorem dX8_seeks_87 : decode cX8_seeks 87 = .ok (.iadd, 1) := by decide +kernel
theorem dX8_seeks_88 : decode cX8_seeks 88 = .ok (.istore 5, 2) := by decide +kernel
theorem dX8_seeks_90 : decode cX8_seeks 90 = .ok (.iload 4, 2) := by decide +kernel
theorem dX8_seeks_92 : decode cX8_seeks 92 = .ok (.ldc 97, 2) := by decide +kernel
theorem dX8_seeks_94 : decode cX8_seeks 94 = .ok (.if_icmp .lt 6, 3) := by decide +kernel
theorem dX8_seeks_97 : decode cX8_seeks 97 = .ok (.goto 119, 3) := by decide +kernel
theorem dX8_seeks_100 : decode cX8_seeks 100 = .ok (.aload_n 0, 1) := by decide +kernel
theorem dX8_seeks_101 : decode cX8_seeks 101 = .ok (.getfield 84, 3) := by decide +kernel
theorem dX8_seeks_104 : decode cX8_seeks 104 = .ok (.iload_n 2, 1) := by decide +kernel
theorem dX8_seeks_105 : decode cX8_seeks 105 = .ok (.iaload, 1) := by decide +kernel
theorem dX8_seeks_106 : decode cX8_seeks 106 = .ok (.iload 4, 2) := by decide +kernel
theorem dX8_seeks_108 : decode cX8_seeks 108 = .ok (.iadd, 1) := by decide +kernel
theorem dX8_seeks_109 : decode cX8_seeks 109 = .ok (.aload_n 0, 1) := by decide +kernel
theorem dX8_seeks_110 : decode cX8_seeks 110 = .ok (.getfield 84, 3) := by decide +kernel
theorem dX8_seeks_113 : decode cX8_seeks 113 = .ok (.iload 5, 2) := by decide +kernel
theorem dX8_seeks_115 : decode cX8_seeks 115 = .ok (.iaload, 1) := by decide +kernel
theorem dX8_seeks_116 : decode cX8_seeks 116 = .ok (.if_icmp .ge 29, 3) := by decide +kernel
theorem dX8_seeks_119 : decode cX8_seeks 119 = .ok (.aload_n 0, 1) := by decide +kernel
theorem dX8_seeks_120 : decode cX8_seeks 120 = .ok (.getfield 84, 3) := by decide +kernel
theorem dX8_seeks_123 : decode cX8_seeks 123 = .ok (.iload 5, 2) := by decide +kernel
theorem dX8_seeks_125 : decode cX8_seeks 125 = .ok (.aload_n 0, 1) := by decide +kernel
theorem dX8_seeks_126 : decode cX8_seeks 126 = .ok (.getfield 84, 3) := by decide +kernel
theorem dX8_seeks_129 : decode cX8_seeks 129 = .ok (.iload_n 2, 1) := by decide +kernel
theorem dX8_seeks_130 : decode cX8_seeks 130 = .ok (.iaload, 1) := by decide +kernel
theorem dX8_seeks_131 : decode cX8_seeks 131 = .ok (.iload 4, 2) := by decide +kernel
theorem dX8_seeks_133 : decode cX8_seeks 133 = .ok (.iadd, 1) := by decide +kernel
theorem dX8_seeks_134 : decode cX8_seeks 134 = .ok (.iastore, 1) := by decide +kernel
theorem dX8_seeks_135 : decode cX8_seeks 135 = .ok (.aload_n 0, 1) := by decide +kernel
theorem dX8_seeks_136 : decode cX8_seeks 136 = .ok (.getfield 87, 3) := by decide +kernel
theorem dX8_seeks_139 : decode cX8_seeks 139 = .ok (.iload 5, 2) := by decide +kernel
theorem dX8_seeks_141 : decode cX8_seeks 141 = .ok (.iload_n 2, 1) := by decide +kernel
theorem dX8_seeks_142 : decode cX8_seeks 142 = .ok (.iastore, 1) := by decide +kernel
theorem dX8_seeks_143 : decode cX8_seeks 143 = .ok (.iconst 1, 1) := by decide +kernel
theorem dX8_seeks_144 : decode cX8_seeks 144 = .ok (.istore_n 1, 1) := by decide +kernel
theorem dX8_seeks_145 : decode cX8_seeks 145 = .ok (.aload_n 0, 1) := by decide +kernel
theorem dX8_seeks_146 : decode cX8_seeks 146 = .ok (.getfield 81, 3) := by decide +kernel
theorem dX8_seeks_149 : decode cX8_seeks 149 = .ok (.bipush 12, 2) := by decide +kernel
theorem dX8_seeks_151 : decode cX8_seeks 151 = .ok (.iload_n 2, 1) := by decide +kernel
theorem dX8_seeks_152 : decode cX8_seeks 152 = .ok (.imul, 1) := by decide +kernel
theorem dX8_seeks_153 : decode cX8_seeks 153 = .ok (.iload_n 3, 1) := by decide +kernel
theorem dX8_seeks_154 : decode cX8_seeks 154 = .ok (.iadd, 1) := by decide +kernel
theorem dX8_seeks_155 : decode cX8_seeks 155 = .ok (.iaload, 1) := by decide +kernel
theorem dX8_seeks_156 : decode cX8_seeks 156 = .ok (.ifCond .le 60, 3) := by decide +kernel
theorem dX8_seeks_159 : decode cX8_seeks 159 = .ok (.aload_n 0, 1) := by decide +kernel
theorem dX8_seeks_160 : decode cX8_seeks 160 = .ok (.getfield 84, 3) := by decide +kernel
theorem dX8_seeks_163 : decode cX8_seeks 163 = .ok (.iload 5, 2) := by decide +kernel
theorem dX8_seeks_165 : decode cX8_seeks 165 = .ok (.iaload, 1) := by decide +kernel
theorem dX8_seeks_166 : decode cX8_seeks 166 = .ok (.ldc 167, 2) := by decide +kernel
theorem dX8_seeks_168 : decode cX8_seeks 168 = .ok (.if_icmp .ge 48, 3) := by decide +kernel
theorem dX8_seeks_171 : decode cX8_seeks 171 = .ok (.aload_n 0, 1) := by decide +kernel
theorem dX8_seeks_172 : decode cX8_seeks 172 = .ok (.getfield 84, 3) := by decide +kernel
theorem dX8_seeks_175 : decode cX8_seeks 175 = .ok (.iload 5, 2) := by decide +kernel
theorem dX8_seeks_177 : decode cX8_seeks 177 = .ok (.iaload, 1) := by decide +kernel
theorem dX8_seeks_178 : decode cX8_seeks 178 = .ok (.iload 4, 2) := by decide +kernel
theorem dX8_seeks_180 : decode cX8_seeks 180 = .ok (.isub, 1) := by decide +kernel
theorem dX8_seeks_181 : decode cX8_seeks 181 = .ok (.aload_n 0, 1) := by decide +kernel
theorem dX8_seeks_182 : decode cX8_seeks 182 = .ok (.getfield 84, 3) := by decide +kernel
theorem dX8_seeks_185 : decode cX8_seeks 185 = .ok (.iload_n 2, 1) := by decide +kernel
theorem dX8_seeks_186 : decode cX8_seeks 186 = .ok (.iaload, 1) := by decide +kernel
theorem dX8_seeks_187 : decode cX8_seeks 187 = .ok (.if_icmp .ge 29, 3) := by decide +kernel
theorem dX8_seeks_190 : decode cX8_seeks 190 = .ok (.aload_n 0, 1) := by decide +kernel
theorem dX8_seeks_191 : decode cX8_seeks 191 = .ok (.getfield 84, 3) := by decide +kernel
theorem dX8_seeks_194 : decode cX8_seeks 194 = .ok (.iload_n 2, 1) := by decide +kernel
theorem dX8_seeks_195 : decode cX8_seeks 195 = .ok (.aload_n 0, 1) := by decide +kernel
theorem dX8_seeks_196 : decode cX8_seeks 196 = .ok (.getfield 84, 3) := by decide +kernel
theorem dX8_seeks_199 : decode cX8_seeks 199 = .ok (.iload 5, 2) := by decide +kernel
theorem dX8_seeks_201 : decode cX8_seeks 201 = .ok (.iaload, 1) := by decide +kernel
theorem dX8_seeks_202 : decode cX8_seeks 202 = .ok (.iload 4, 2) := by decide +kernel
theorem dX8_seeks_204 : decode cX8_seeks 204 = .ok (.isub, 1) := by decide +kernel
theorem dX8_seeks_205 : decode cX8_seeks 205 = .ok (.iastore, 1) := by decide +kernel
theorem dX8_seeks_206 : decode cX8_seeks 206 = .ok (.aload_n 0, 1) := by decide +kernel
theorem dX8_seeks_207 : decode cX8_seeks 207 = .ok (.getfield 87, 3) := by decide +kernel
theorem dX8_seeks_210 : decode cX8_seeks 210 = .ok (.iload_n 2, 1) := by decide +kernel
theorem dX8_seeks_211 : decode cX8_seeks 211 = .ok (.iload 5, 2) := by decide +kernel
theorem dX8_seeks_213 : decode cX8_seeks 213 = .ok (.iastore, 1) := by decide +kernel
theorem dX8_seeks_214 : decode cX8_seeks 214 = .ok (.iconst 1, 1) := by decide +kernel
theorem dX8_seeks_215 : decode cX8_seeks 215 = .ok (.istore_n 1, 1) := by decide +kernel
theorem dX8_seeks_216 : decode cX8_seeks 216 = .ok (.iinc 3 1, 3) := by decide +kernel
theorem dX8_seeks_219 : decode cX8_seeks 219 = .ok (.goto (-154), 3) := by decide +kernel
theorem dX8_seeks_222 : decode cX8_seeks 222 = .ok (.iinc 2 1, 3) := by decide +kernel
theorem dX8_seeks_225 : decode cX8_seeks 225 = .ok (.goto (-168), 3) := by decide +kernel
theorem dX8_seeks_228 : decode cX8_seeks 228 = .ok (.goto (-179), 3) := by decide +kernel
theorem dX8_seeks_231 : decode cX8_seeks 231 = .ok (.iconst (-1), 1) := by decide +kernel
theorem dX8_seeks_232 : decode cX8_seeks 232 = .ok (.istore_n 2, 1) := by decide +kernel
theorem dX8_seeks_233 : decode cX8_seeks 233 = .ok (.iconst 0, 1) := by decide +kernel
theorem dX8_seeks_234 : decode cX8_seeks 234 = .ok (.istore_n 3, 1) := by decide +kernel
theorem dX8_seeks_235 : decode cX8_seeks 235 = .ok (.iload_n 3, 1) := by decide +kernel
theorem dX8_seeks_236 : decode cX8_seeks 236 = .ok (.bipush 12, 2) := by decide +kernel
theorem dX8_seeks_238 : decode cX8_seeks 238 = .ok (.if_icmp .ge 59, 3) := by decide +kernel
theorem dX8_seeks_241 : decode cX8_seeks 241 = .ok (.aload_n 0, 1) := by decide +kernel
theorem dX8_seeks_242 : decode cX8_seeks 242 = .ok (.getfield 84, 3) := by decide +kernel
theorem dX8_seeks_245 : decode cX8_seeks 245 = .ok (.bipush 12, 2) := by decide +kernel
theorem dX8_seeks_247 : decode cX8_seeks 247 = .ok (.iload_n 3, 1) := by decide +kernel
theorem dX8_seeks_248 : decode cX8_seeks 248 = .ok (.iadd, 1) := by decide +kernel
theorem dX8_seeks_249 : decode cX8_seeks 249 = .ok (.iaload, 1) := by decide +kernel
theorem dX8_seeks_250 : decode cX8_seeks 250 = .ok (.ldc 167, 2) := by decide +kernel
theorem dX8_seeks_252 : decode cX8_seeks 252 = .ok (.if_icmp .ge 39, 3) := by decide +kernel
theorem dX8_seeks_255 : decode cX8_seeks 255 = .ok (.aload_n 0, 1) := by decide +kernel
theorem dX8_seeks_256 : decode cX8_seeks 256 = .ok (.iload_n 3, 1) := by decide +kernel
theorem dX8_seeks_257 : decode cX8_seeks 257 = .ok (.invokevirtual 168, 3) := by decide +kernel
theorem dX8_seeks_260 : decode cX8_seeks 260 = .ok (.ifCond .le 31, 3) := by decide +kernel
theorem dX8_seeks_263 : decode cX8_seeks 263 = .ok (.iload_n 2, 1) := by decide +kernel
theorem dX8_seeks_264 : decode cX8_seeks 264 = .ok (.iconst (-1), 1) := by decide +kernel
theorem dX8_seeks_265 : decode cX8_seeks 265 = .ok (.if_icmp .eq 21, 3) := by decide +kernel
theorem dX8_seeks_268 : decode cX8_seeks 268 = .ok (.aload_n 0, 1) := by decide +kernel
theorem dX8_seeks_269 : decode cX8_seeks 269 = .ok (.getfield 84, 3) := by decide +kernel
theorem dX8_seeks_272 : decode cX8_seeks 272 = .ok (.bipush 12, 2) := by decide +kernel
theorem dX8_seeks_274 : decode cX8_seeks 274 = .ok (.iload_n 3, 1) := by decide +kernel
theorem dX8_seeks_275 : decode cX8_seeks 275 = .ok (.iadd, 1) := by decide +kernel
theorem dX8_seeks_276 : decode cX8_seeks 276 = .ok (.iaload, 1) := by decide +kernel
theorem dX8_seeks_277 : decode cX8_seeks 277 = .ok (.aload_n 0, 1) := by decide +kernel
theorem dX8_seeks_278 : decode cX8_seeks 278 = .ok (.getfield 84, 3) := by decide +kernel
theorem dX8_seeks_281 : decode cX8_seeks 281 = .ok (.iload_n 2, 1) := by decide +kernel
theorem dX8_seeks_282 : decode cX8_seeks 282 = .ok (.iaload, 1) := by decide +kernel
theorem dX8_seeks_283 : decode cX8_seeks 283 = .ok (.if_icmp .ge 8, 3) := by decide +kernel
theorem dX8_seeks_286 : decode cX8_seeks 286 = .ok (.bipush 12, 2) := by decide +kernel
theorem dX8_seeks_288 : decode cX8_seeks 288 = .ok (.iload_n 3, 1) := by decide +kernel
theorem dX8_seeks_289 : decode cX8_seeks 289 = .ok (.iadd, 1) := by decide +kernel
theorem dX8_seeks_290 : decode cX8_seeks 290 = .ok (.istore_n 2, 1) := by decide +kernel
theorem dX8_seeks_291 : decode cX8_seeks 291 = .ok (.iinc 3 1, 3) := by decide +kernel
theorem dX8_seeks_294 : decode cX8_seeks 294 = .ok (.goto (-59), 3) := by decide +kernel
theorem dX8_seeks_297 : decode cX8_seeks 297 = .ok (.iload_n 2, 1) := by decide +kernel
theorem dX8_seeks_298 : decode cX8_seeks 298 = .ok (.ireturn, 1) := by decide +kernel
theorem dX8_met_0 : decode cX8_met 0 = .ok (.aload_n 0, 1) := by decide +kernel
theorem dX8_met_1 : decode cX8_met 1 = .ok (.invokevirtual 171, 3) := by decide +kernel
theorem dX8_met_4 : decode cX8_met 4 = .ok (.ireturn, 1) := by decide +kernel
theorem dX8_led_0 : decode cX8_led 0 = .ok (.aload_n 0, 1) := by decide +kernel
theorem dX8_led_1 : decode cX8_led 1 = .ok (.invokevirtual 171, 3) := by decide +kernel
theorem dX8_led_4 : decode cX8_led 4 = .ok (.pop, 1) := by decide +kernel
theorem dX8_led_5 : decode cX8_led 5 = .ok (.aload_n 0, 1) := by decide +kernel
theorem dX8_led_6 : decode cX8_led 6 = .ok (.getfield 158, 3) := by decide +kernel
theorem dX8_led_9 : decode cX8_led 9 = .ok (.ireturn, 1) := by decide +kernel
theorem dX8_count_0 : decode cX8_count 0 = .ok (.iconst 0, 1) := by decide +kernel
theorem dX8_count_1 : decode cX8_count 1 = .ok (.istore_n 2, 1) := by decide +kernel
theorem dX8_count_2 : decode cX8_count 2 = .ok (.iload_n 1, 1) := by decide +kernel
theorem dX8_count_3 : decode cX8_count 3 = .ok (.tableswitch 107 0 5 #[37, 42, 47, 52, 57, 82], 37) := by decide +kernel
theorem dX8_count_40 : decode cX8_count 40 = .ok (.aload_n 0, 1) := by decide +kernel
theorem dX8_count_41 : decode cX8_count 41 = .ok (.getfield 98, 3) := by decide +kernel
theorem dX8_count_44 : decode cX8_count 44 = .ok (.ireturn, 1) := by decide +kernel
theorem dX8_count_45 : decode cX8_count 45 = .ok (.aload_n 0, 1) := by decide +kernel
theorem dX8_count_46 : decode cX8_count 46 = .ok (.getfield 125, 3) := by decide +kernel
theorem dX8_count_49 : decode cX8_count 49 = .ok (.ireturn, 1) := by decide +kernel
theorem dX8_count_50 : decode cX8_count 50 = .ok (.aload_n 0, 1) := by decide +kernel
theorem dX8_count_51 : decode cX8_count 51 = .ok (.getfield 128, 3) := by decide +kernel
theorem dX8_count_54 : decode cX8_count 54 = .ok (.ireturn, 1) := by decide +kernel
theorem dX8_count_55 : decode cX8_count 55 = .ok (.aload_n 0, 1) := by decide +kernel
theorem dX8_count_56 : decode cX8_count 56 = .ok (.getfield 121, 3) := by decide +kernel
theorem dX8_count_59 : decode cX8_count 59 = .ok (.ireturn, 1) := by decide +kernel
theorem dX8_count_60 : decode cX8_count 60 = .ok (.iconst 0, 1) := by decide +kernel
theorem dX8_count_61 : decode cX8_count 61 = .ok (.istore_n 3, 1) := by decide +kernel
theorem dX8_count_62 : decode cX8_count 62 = .ok (.iload_n 3, 1) := by decide +kernel
theorem dX8_count_63 : decode cX8_count 63 = .ok (.bipush 12, 2) := by decide +kernel
theorem dX8_count_65 : decode cX8_count 65 = .ok (.if_icmp .ge 18, 3) := by decide +kernel
theorem dX8_count_68 : decode cX8_count 68 = .ok (.iload_n 2, 1) := by decide +kernel
theorem dX8_count_69 : decode cX8_count 69 = .ok (.aload_n 0, 1) := by decide +kernel
theorem dX8_count_70 : decode cX8_count 70 = .ok (.getfield 53, 3) := by decide +kernel
theorem dX8_count_73 : decode cX8_count 73 = .ok (.iload_n 3, 1) := by decide +kernel
theorem dX8_count_74 : decode cX8_count 74 = .ok (.iaload, 1) := by decide +kernel
theorem dX8_count_75 : decode cX8_count 75 = .ok (.iadd, 1) := by decide +kernel
theorem dX8_count_76 : decode cX8_count 76 = .ok (.istore_n 2, 1) := by decide +kernel
theorem dX8_count_77 : decode cX8_count 77 = .ok (.iinc 3 1, 3) := by decide +kernel
theorem dX8_count_80 : decode cX8_count 80 = .ok (.goto (-18), 3) := by decide +kernel
theorem dX8_count_83 : decode cX8_count 83 = .ok (.iload_n 2, 1) := by decide +kernel
theorem dX8_count_84 : decode cX8_count 84 = .ok (.ireturn, 1) := by decide +kernel
theorem dX8_count_85 : decode cX8_count 85 = .ok (.iconst 0, 1) := by decide +kernel
theorem dX8_count_86 : decode cX8_count 86 = .ok (.istore_n 3, 1) := by decide +kernel
theorem dX8_count_87 : decode cX8_count 87 = .ok (.iload_n 3, 1) := by decide +kernel
theorem dX8_count_88 : decode cX8_count 88 = .ok (.bipush 12, 2) := by decide +kernel
theorem dX8_count_90 : decode cX8_count 90 = .ok (.if_icmp .ge 18, 3) := by decide +kernel
theorem dX8_count_93 : decode cX8_count 93 = .ok (.iload_n 2, 1) := by decide +kernel
theorem dX8_count_94 : decode cX8_count 94 = .ok (.aload_n 0, 1) := by decide +kernel
theorem dX8_count_95 : decode cX8_count 95 = .ok (.getfield 56, 3) := by decide +kernel
theorem dX8_count_98 : decode cX8_count 98 = .ok (.iload_n 3, 1) := by decide +kernel
theorem dX8_count_99 : decode cX8_count 99 = .ok (.iaload, 1) := by decide +kernel
theorem dX8_count_100 : decode cX8_count 100 = .ok (.iadd, 1) := by decide +kernel
theorem dX8_count_101 : decode cX8_count 101 = .ok (.istore_n 2, 1) := by decide +kernel
theorem dX8_count_102 : decode cX8_count 102 = .ok (.iinc 3 1, 3) := by decide +kernel
theorem dX8_count_105 : decode cX8_count 105 = .ok (.goto (-18), 3) := by decide +kernel
theorem dX8_count_108 : decode cX8_count 108 = .ok (.iload_n 2, 1) := by decide +kernel
theorem dX8_count_109 : decode cX8_count 109 = .ok (.ireturn, 1) := by decide +kernel
theorem dX8_count_110 : decode cX8_count 110 = .ok (.iconst (-1), 1) := by decide +kernel
theorem dX8_count_111 : decode cX8_count 111 = .ok (.ireturn, 1) := by decide +kernel
theorem dJ6_bitCount_0f7a4_0 : decode cJ6_bitCount_0f7a4 0 = .ok (.iload_n 0, 1) := by decide +kernel
theorem dJ6_bitCount_0f7a4_1 : decode cJ6_bitCount_0f7a4 1 = .ok (.iload_n 0, 1) := by decide +kernel
theorem dJ6_bitCount_0f7a4_2 : decode cJ6_bitCount_0f7a4 2 = .ok (.iconst 1, 1) := by decide +kernel
theorem dJ6_bitCount_0f7a4_3 : decode cJ6_bitCount_0f7a4 3 = .ok (.iushr, 1) := by decide +kernel
theorem dJ6_bitCount_0f7a4_4 : decode cJ6_bitCount_0f7a4 4 = .ok (.ldc_w 265, 3) := by decide +kernel
theorem dJ6_bitCount_0f7a4_7 : decode cJ6_bitCount_0f7a4 7 = .ok (.iand, 1) := by decide +kernel
theorem dJ6_bitCount_0f7a4_8 : decode cJ6_bitCount_0f7a4 8 = .ok (.isub, 1) := by decide +kernel
theorem dJ6_bitCount_0f7a4_9 : decode cJ6_bitCount_0f7a4 9 = .ok (.istore_n 0, 1) := by decide +kernel
theorem dJ6_bitCount_0f7a4_10 : decode cJ6_bitCount_0f7a4 10 = .ok (.iload_n 0, 1) := by decide +kernel
theorem dJ6_bitCount_0f7a4_11 : decode cJ6_bitCount_0f7a4 11 = .ok (.ldc_w 266, 3) := by decide +kernel
theorem dJ6_bitCount_0f7a4_14 : decode cJ6_bitCount_0f7a4 14 = .ok (.iand, 1) := by decide +kernel
theorem dJ6_bitCount_0f7a4_15 : decode cJ6_bitCount_0f7a4 15 = .ok (.iload_n 0, 1) := by decide +kernel
theorem dJ6_bitCount_0f7a4_16 : decode cJ6_bitCount_0f7a4 16 = .ok (.iconst 2, 1) := by decide +kernel
theorem dJ6_bitCount_0f7a4_17 : decode cJ6_bitCount_0f7a4 17 = .ok (.iushr, 1) := by decide +kernel
theorem dJ6_bitCount_0f7a4_18 : decode cJ6_bitCount_0f7a4 18 = .ok (.ldc_w 266, 3) := by decide +kernel
theorem dJ6_bitCount_0f7a4_21 : decode cJ6_bitCount_0f7a4 21 = .ok (.iand, 1) := by decide +kernel
theorem dJ6_bitCount_0f7a4_22 : decode cJ6_bitCount_0f7a4 22 = .ok (.iadd, 1) := by decide +kernel
theorem dJ6_bitCount_0f7a4_23 : decode cJ6_bitCount_0f7a4 23 = .ok (.istore_n 0, 1) := by decide +kernel
theorem dJ6_bitCount_0f7a4_24 : decode cJ6_bitCount_0f7a4 24 = .ok (.iload_n 0, 1) := by decide +kernel
theorem dJ6_bitCount_0f7a4_25 : decode cJ6_bitCount_0f7a4 25 = .ok (.iload_n 0, 1) := by decide +kernel
theorem dJ6_bitCount_0f7a4_26 : decode cJ6_bitCount_0f7a4 26 = .ok (.iconst 4, 1) := by decide +kernel
theorem dJ6_bitCount_0f7a4_27 : decode cJ6_bitCount_0f7a4 27 = .ok (.iushr, 1) := by decide +kernel
theorem dJ6_bitCount_0f7a4_28 : decode cJ6_bitCount_0f7a4 28 = .ok (.iadd, 1) := by decide +kernel
theorem dJ6_bitCount_0f7a4_29 : decode cJ6_bitCount_0f7a4 29 = .ok (.ldc_w 267, 3) := by decide +kernel
theorem dJ6_bitCount_0f7a4_32 : decode cJ6_bitCount_0f7a4 32 = .ok (.iand, 1) := by decide +kernel
theorem dJ6_bitCount_0f7a4_33 : decode cJ6_bitCount_0f7a4 33 = .ok (.istore_n 0, 1) := by decide +kernel
theorem dJ6_bitCount_0f7a4_34 : decode cJ6_bitCount_0f7a4 34 = .ok (.iload_n 0, 1) := by decide +kernel
theorem dJ6_bitCount_0f7a4_35 : decode cJ6_bitCount_0f7a4 35 = .ok (.iload_n 0, 1) := by decide +kernel
theorem dJ6_bitCount_0f7a4_36 : decode cJ6_bitCount_0f7a4 36 = .ok (.bipush 8, 2) := by decide +kernel
theorem dJ6_bitCount_0f7a4_38 : decode cJ6_bitCount_0f7a4 38 = .ok (.iushr, 1) := by decide +kernel
theorem dJ6_bitCount_0f7a4_39 : decode cJ6_bitCount_0f7a4 39 = .ok (.iadd, 1) := by decide +kernel
theorem dJ6_bitCount_0f7a4_40 : decode cJ6_bitCount_0f7a4 40 = .ok (.istore_n 0, 1) := by decide +kernel
theorem dJ6_bitCount_0f7a4_41 : decode cJ6_bitCount_0f7a4 41 = .ok (.iload_n 0, 1) := by decide +kernel
theorem dJ6_bitCount_0f7a4_42 : decode cJ6_bitCount_0f7a4 42 = .ok (.iload_n 0, 1) := by decide +kernel
theorem dJ6_bitCount_0f7a4_43 : decode cJ6_bitCount_0f7a4 43 = .ok (.bipush 16, 2) := by decide +kernel
theorem dJ6_bitCount_0f7a4_45 : decode cJ6_bitCount_0f7a4 45 = .ok (.iushr, 1) := by decide +kernel
theorem dJ6_bitCount_0f7a4_46 : decode cJ6_bitCount_0f7a4 46 = .ok (.iadd, 1) := by decide +kernel
theorem dJ6_bitCount_0f7a4_47 : decode cJ6_bitCount_0f7a4 47 = .ok (.istore_n 0, 1) := by decide +kernel
theorem dJ6_bitCount_0f7a4_48 : decode cJ6_bitCount_0f7a4 48 = .ok (.iload_n 0, 1) := by decide +kernel
theorem dJ6_bitCount_0f7a4_49 : decode cJ6_bitCount_0f7a4 49 = .ok (.bipush 63, 2) := by decide +kernel
theorem dJ6_bitCount_0f7a4_51 : decode cJ6_bitCount_0f7a4 51 = .ok (.iand, 1) := by decide +kernel
theorem dJ6_bitCount_0f7a4_52 : decode cJ6_bitCount_0f7a4 52 = .ok (.ireturn, 1) := by decide +kernel
theorem dJ9_max_7cf53_0 : decode cJ9_max_7cf53 0 = .ok (.iload_n 0, 1) := by decide +kernel
theorem dJ9_max_7cf53_1 : decode cJ9_max_7cf53 1 = .ok (.iload_n 1, 1) := by decide +kernel
theorem dJ9_max_7cf53_2 : decode cJ9_max_7cf53 2 = .ok (.if_icmp .lt 7, 3) := by decide +kernel
theorem dJ9_max_7cf53_5 : decode cJ9_max_7cf53 5 = .ok (.iload_n 0, 1) := by decide +kernel
theorem dJ9_max_7cf53_6 : decode cJ9_max_7cf53 6 = .ok (.goto 4, 3) := by decide +kernel
theorem dJ9_max_7cf53_9 : decode cJ9_max_7cf53 9 = .ok (.iload_n 1, 1) := by decide +kernel
theorem dJ9_max_7cf53_10 : decode cJ9_max_7cf53 10 = .ok (.ireturn, 1) := by decide +kernel
theorem dJ9_min_7cf53_0 : decode cJ9_min_7cf53 0 = .ok (.iload_n 0, 1) := by decide +kernel
theorem dJ9_min_7cf53_1 : decode cJ9_min_7cf53 1 = .ok (.iload_n 1, 1) := by decide +kernel
theorem dJ9_min_7cf53_2 : decode cJ9_min_7cf53 2 = .ok (.if_icmp .gt 7, 3) := by decide +kernel
theorem dJ9_min_7cf53_5 : decode cJ9_min_7cf53 5 = .ok (.iload_n 0, 1) := by decide +kernel
theorem dJ9_min_7cf53_6 : decode cJ9_min_7cf53 6 = .ok (.goto 4, 3) := by decide +kernel
theorem dJ9_min_7cf53_9 : decode cJ9_min_7cf53 9 = .ok (.iload_n 1, 1) := by decide +kernel
theorem dJ9_min_7cf53_10 : decode cJ9_min_7cf53 10 = .ok (.ireturn, 1) := by decide +kernel
theorem dJ7_fill_53178_0 : decode cJ7_fill_53178 0 = .ok (.iconst 0, 1) := by decide +kernel
theorem dJ7_fill_53178_1 : decode cJ7_fill_53178 1 = .ok (.istore_n 2, 1) := by decide +kernel
theorem dJ7_fill_53178_2 : decode cJ7_fill_53178 2 = .ok (.aload_n 0, 1) := by decide +kernel
theorem dJ7_fill_53178_3 : decode cJ7_fill_53178 3 = .ok (.arraylength, 1) := by decide +kernel
theorem dJ7_fill_53178_4 : decode cJ7_fill_53178 4 = .ok (.istore_n 3, 1) := by decide +kernel
theorem dJ7_fill_53178_5 : decode cJ7_fill_53178 5 = .ok (.iload_n 2, 1) := by decide +kernel
theorem dJ7_fill_53178_6 : decode cJ7_fill_53178 6 = .ok (.iload_n 3, 1) := by decide +kernel
theorem dJ7_fill_53178_7 : decode cJ7_fill_53178 7 = .ok (.if_icmp .ge 13, 3) := by decide +kernel
theorem dJ7_fill_53178_10 : decode cJ7_fill_53178 10 = .ok (.aload_n 0, 1) := by decide +kernel
theorem dJ7_fill_53178_11 : decode cJ7_fill_53178 11 = .ok (.iload_n 2, 1) := by decide +kernel
theorem dJ7_fill_53178_12 : decode cJ7_fill_53178 12 = .ok (.iload_n 1, 1) := by decide +kernel
theorem dJ7_fill_53178_13 : decode cJ7_fill_53178 13 = .ok (.iastore, 1) := by decide +kernel
theorem dJ7_fill_53178_14 : decode cJ7_fill_53178 14 = .ok (.iinc 2 1, 3) := by decide +kernel
theorem dJ7_fill_53178_17 : decode cJ7_fill_53178 17 = .ok (.goto (-12), 3) := by decide +kernel
theorem dJ7_fill_53178_20 : decode cJ7_fill_53178 20 = .ok (.return_, 1) := by decide +kernel
theorem dL_law_0 : decode cL_law 0 = .ok (.new 7, 3) := by decide +kernel
theorem dL_law_3 : decode cL_law 3 = .ok (.dup, 1) := by decide +kernel
theorem dL_law_4 : decode cL_law 4 = .ok (.invokespecial 9, 3) := by decide +kernel
theorem dL_law_7 : decode cL_law 7 = .ok (.astore_n 1, 1) := by decide +kernel
theorem dL_law_8 : decode cL_law 8 = .ok (.new 10, 3) := by decide +kernel
theorem dL_law_11 : decode cL_law 11 = .ok (.dup, 1) := by decide +kernel
theorem dL_law_12 : decode cL_law 12 = .ok (.invokespecial 12, 3) := by decide +kernel
theorem dL_law_15 : decode cL_law 15 = .ok (.astore_n 2, 1) := by decide +kernel
theorem dL_law_16 : decode cL_law 16 = .ok (.iconst 0, 1) := by decide +kernel
theorem dL_law_17 : decode cL_law 17 = .ok (.istore_n 3, 1) := by decide +kernel
theorem dL_law_18 : decode cL_law 18 = .ok (.iload_n 3, 1) := by decide +kernel
theorem dL_law_19 : decode cL_law 19 = .ok (.aload_n 0, 1) := by decide +kernel
theorem dL_law_20 : decode cL_law 20 = .ok (.arraylength, 1) := by decide +kernel
theorem dL_law_21 : decode cL_law 21 = .ok (.iconst 5, 1) := by decide +kernel
theorem dL_law_22 : decode cL_law 22 = .ok (.isub, 1) := by decide +kernel
theorem dL_law_23 : decode cL_law 23 = .ok (.if_icmp .gt 721, 3) := by decide +kernel
theorem dL_law_26 : decode cL_law 26 = .ok (.aload_n 0, 1) := by decide +kernel
theorem dL_law_27 : decode cL_law 27 = .ok (.iload_n 3, 1) := by decide +kernel
theorem dL_law_28 : decode cL_law 28 = .ok (.iaload, 1) := by decide +kernel
theorem dL_law_29 : decode cL_law 29 = .ok (.bipush 31, 2) := by decide +kernel
theorem dL_law_31 : decode cL_law 31 = .ok (.iand, 1) := by decide +kernel
theorem dL_law_32 : decode cL_law 32 = .ok (.tableswitch 706 0 19 #[96, 149, 182, 215, 268, 321, 354, 407, 420, 453, 476, 489, 522, 555, 578, 591, 614, 657, 670, 683], 96) := by decide +kernel
theorem dL_law_128 : decode cL_law 128 = .ok (.aload_n 1, 1) := by decide +kernel
theorem dL_law_129 : decode cL_law 129 = .ok (.aload_n 0, 1) := by decide +kernel
theorem dL_law_130 : decode cL_law 130 = .ok (.iload_n 3, 1) := by decide +kernel
theorem dL_law_131 : decode cL_law 131 = .ok (.iconst 1, 1) := by decide +kernel
theorem dL_law_132 : decode cL_law 132 = .ok (.iadd, 1) := by decide +kernel
theorem dL_law_133 : decode cL_law 133 = .ok (.iaload, 1) := by decide +kernel
theorem dL_law_134 : decode cL_law 134 = .ok (.aload_n 0, 1) := by decide +kernel
theorem dL_law_135 : decode cL_law 135 = .ok (.iload_n 3, 1) := by decide +kernel
theorem dL_law_136 : decode cL_law 136 = .ok (.iconst 2, 1) := by decide +kernel
theorem dL_law_137 : decode cL_law 137 = .ok (.iadd, 1) := by decide +kernel
theorem dL_law_138 : decode cL_law 138 = .ok (.iaload, 1) := by decide +kernel
theorem dL_law_139 : decode cL_law 139 = .ok (.aload_n 0, 1) := by decide +kernel
theorem dL_law_140 : decode cL_law 140 = .ok (.iload_n 3, 1) := by decide +kernel
theorem dL_law_141 : decode cL_law 141 = .ok (.iconst 3, 1) := by decide +kernel
theorem dL_law_142 : decode cL_law 142 = .ok (.iadd, 1) := by decide +kernel
theorem dL_law_143 : decode cL_law 143 = .ok (.iaload, 1) := by decide +kernel
theorem dL_law_144 : decode cL_law 144 = .ok (.aload_n 0, 1) := by decide +kernel
theorem dL_law_145 : decode cL_law 145 = .ok (.iload_n 3, 1) := by decide +kernel
theorem dL_law_146 : decode cL_law 146 = .ok (.iconst 4, 1) := by decide +kernel
theorem dL_law_147 : decode cL_law 147 = .ok (.iadd, 1) := by decide +kernel
theorem dL_law_148 : decode cL_law 148 = .ok (.iaload, 1) := by decide +kernel
theorem dL_law_149 : decode cL_law 149 = .ok (.invokevirtual 13, 3) := by decide +kernel
theorem dL_law_152 : decode cL_law 152 = .ok (.aload_n 2, 1) := by decide +kernel
theorem dL_law_153 : decode cL_law 153 = .ok (.aload_n 0, 1) := by decide +kernel
theorem dL_law_154 : decode cL_law 154 = .ok (.iload_n 3, 1) := by decide +kernel
theorem dL_law_155 : decode cL_law 155 = .ok (.iconst 1, 1) := by decide +kernel
theorem dL_law_156 : decode cL_law 156 = .ok (.iadd, 1) := by decide +kernel
theorem dL_law_157 : decode cL_law 157 = .ok (.iaload, 1) := by decide +kernel
theorem dL_law_158 : decode cL_law 158 = .ok (.aload_n 0, 1) := by decide +kernel
theorem dL_law_159 : decode cL_law 159 = .ok (.iload_n 3, 1) := by decide +kernel
theorem dL_law_160 : decode cL_law 160 = .ok (.iconst 2, 1) := by decide +kernel
theorem dL_law_161 : decode cL_law 161 = .ok (.iadd, 1) := by decide +kernel
theorem dL_law_162 : decode cL_law 162 = .ok (.iaload, 1) := by decide +kernel
theorem dL_law_163 : decode cL_law 163 = .ok (.aload_n 0, 1) := by decide +kernel
theorem dL_law_164 : decode cL_law 164 = .ok (.iload_n 3, 1) := by decide +kernel
theorem dL_law_165 : decode cL_law 165 = .ok (.iconst 3, 1) := by decide +kernel
theorem dL_law_166 : decode cL_law 166 = .ok (.iadd, 1) := by decide +kernel
theorem dL_law_167 : decode cL_law 167 = .ok (.iaload, 1) := by decide +kernel
theorem dL_law_168 : decode cL_law 168 = .ok (.aload_n 0, 1) := by decide +kernel
theorem dL_law_169 : decode cL_law 169 = .ok (.iload_n 3, 1) := by decide +kernel
theorem dL_law_170 : decode cL_law 170 = .ok (.iconst 4, 1) := by decide +kernel
theorem dL_law_171 : decode cL_law 171 = .ok (.iadd, 1) := by decide +kernel
theorem dL_law_172 : decode cL_law 172 = .ok (.iaload, 1) := by decide +kernel
theorem dL_law_173 : decode cL_law 173 = .ok (.invokevirtual 17, 3) := by decide +kernel
theorem dL_law_176 : decode cL_law 176 = .ok (.if_icmp .eq 562, 3) := by decide +kernel
theorem dL_law_179 : decode cL_law 179 = .ok (.iconst 0, 1) := by decide +kernel
theorem dL_law_180 : decode cL_law 180 = .ok (.ireturn, 1) := by decide +kernel
theorem dL_law_181 : decode cL_law 181 = .ok (.aload_n 1, 1) := by decide +kernel
theorem dL_law_182 : decode cL_law 182 = .ok (.aload_n 0, 1) := by decide +kernel
theorem dL_law_183 : decode cL_law 183 = .ok (.iload_n 3, 1) := by decide +kernel
theorem dL_law_184 : decode cL_law 184 = .ok (.iconst 1, 1) := by decide +kernel
theorem dL_law_185 : decode cL_law 185 = .ok (.iadd, 1) := by decide +kernel
theorem dL_law_186 : decode cL_law 186 = .ok (.iaload, 1) := by decide +kernel
theorem dL_law_187 : decode cL_law 187 = .ok (.aload_n 0, 1) := by decide +kernel
theorem dL_law_188 : decode cL_law 188 = .ok (.iload_n 3, 1) := by decide +kernel
theorem dL_law_189 : decode cL_law 189 = .ok (.iconst 2, 1) := by decide +kernel
theorem dL_law_190 : decode cL_law 190 = .ok (.iadd, 1) := by decide +kernel
theorem dL_law_191 : decode cL_law 191 = .ok (.iaload, 1) := by decide +kernel
theorem dL_law_192 : decode cL_law 192 = .ok (.invokevirtual 18, 3) := by decide +kernel
theorem dL_law_195 : decode cL_law 195 = .ok (.aload_n 2, 1) := by decide +kernel
theorem dL_law_196 : decode cL_law 196 = .ok (.aload_n 0, 1) := by decide +kernel
theorem dL_law_197 : decode cL_law 197 = .ok (.iload_n 3, 1) := by decide +kernel
theorem dL_law_198 : decode cL_law 198 = .ok (.iconst 1, 1) := by decide +kernel
theorem dL_law_199 : decode cL_law 199 = .ok (.iadd, 1) := by decide +kernel
theorem dL_law_200 : decode cL_law 200 = .ok (.iaload, 1) := by decide +kernel
theorem dL_law_201 : decode cL_law 201 = .ok (.aload_n 0, 1) := by decide +kernel
theorem dL_law_202 : decode cL_law 202 = .ok (.iload_n 3, 1) := by decide +kernel
theorem dL_law_203 : decode cL_law 203 = .ok (.iconst 2, 1) := by decide +kernel
theorem dL_law_204 : decode cL_law 204 = .ok (.iadd, 1) := by decide +kernel
theorem dL_law_205 : decode cL_law 205 = .ok (.iaload, 1) := by decide +kernel
theorem dL_law_206 : decode cL_law 206 = .ok (.invokevirtual 22, 3) := by decide +kernel
theorem dL_law_209 : decode cL_law 209 = .ok (.if_icmp .eq 529, 3) := by decide +kernel
theorem dL_law_212 : decode cL_law 212 = .ok (.iconst 0, 1) := by decide +kernel
theorem dL_law_213 : decode cL_law 213 = .ok (.ireturn, 1) := by decide +kernel
theorem dL_law_214 : decode cL_law 214 = .ok (.aload_n 1, 1) := by decide +kernel
theorem dL_law_215 : decode cL_law 215 = .ok (.aload_n 0, 1) := by decide +kernel
theorem dL_law_216 : decode cL_law 216 = .ok (.iload_n 3, 1) := by decide +kernel
theorem dL_law_217 : decode cL_law 217 = .ok (.iconst 1, 1) := by decide +kernel
theorem dL_law_218 : decode cL_law 218 = .ok (.iadd, 1) := by decide +kernel
theorem dL_law_219 : decode cL_law 219 = .ok (.iaload, 1) := by decide +kernel
theorem dL_law_220 : decode cL_law 220 = .ok (.aload_n 0, 1) := by decide +kernel
theorem dL_law_221 : decode cL_law 221 = .ok (.iload_n 3, 1) := by decide +kernel
theorem dL_law_222 : decode cL_law 222 = .ok (.iconst 2, 1) := by decide +kernel
theorem dL_law_223 : decode cL_law 223 = .ok (.iadd, 1) := by decide +kernel
theorem dL_law_224 : decode cL_law 224 = .ok (.iaload, 1) := by decide +kernel
theorem dL_law_225 : decode cL_law 225 = .ok (.invokevirtual 23, 3) := by decide +kernel
theorem dL_law_228 : decode cL_law 228 = .ok (.aload_n 2, 1) := by decide +kernel
theorem dL_law_229 : decode cL_law 229 = .ok (.aload_n 0, 1) := by decide +kernel
theorem dL_law_230 : decode cL_law 230 = .ok (.iload_n 3, 1) := by decide +kernel
theorem dL_law_231 : decode cL_law 231 = .ok (.iconst 1, 1) := by decide +kernel
theorem dL_law_232 : decode cL_law 232 = .ok (.iadd, 1) := by decide +kernel
theorem dL_law_233 : decode cL_law 233 = .ok (.iaload, 1) := by decide +kernel
theorem dL_law_234 : decode cL_law 234 = .ok (.aload_n 0, 1) := by decide +kernel
theorem dL_law_235 : decode cL_law 235 = .ok (.iload_n 3, 1) := by decide +kernel
theorem dL_law_236 : decode cL_law 236 = .ok (.iconst 2, 1) := by decide +kernel
theorem dL_law_237 : decode cL_law 237 = .ok (.iadd, 1) := by decide +kernel
theorem dL_law_238 : decode cL_law 238 = .ok (.iaload, 1) := by decide +kernel
theorem dL_law_239 : decode cL_law 239 = .ok (.invokevirtual 26, 3) := by decide +kernel
theorem dL_law_242 : decode cL_law 242 = .ok (.if_icmp .eq 496, 3) := by decide +kernel
theorem dL_law_245 : decode cL_law 245 = .ok (.iconst 0, 1) := by decide +kernel
theorem dL_law_246 : decode cL_law 246 = .ok (.ireturn, 1) := by decide +kernel
theorem dL_law_247 : decode cL_law 247 = .ok (.aload_n 1, 1) := by decide +kernel
theorem dL_law_248 : decode cL_law 248 = .ok (.aload_n 0, 1) := by decide +kernel
theorem dL_law_249 : decode cL_law 249 = .ok (.iload_n 3, 1) := by decide +kernel
theorem dL_law_250 : decode cL_law 250 = .ok (.iconst 1, 1) := by decide +kernel
theorem dL_law_251 : decode cL_law 251 = .ok (.iadd, 1) := by decide +kernel
theorem dL_law_252 : decode cL_law 252 = .ok (.iaload, 1) := by decide +kernel
theorem dL_law_253 : decode cL_law 253 = .ok (.aload_n 0, 1) := by decide +kernel
theorem dL_law_254 : decode cL_law 254 = .ok (.iload_n 3, 1) := by decide +kernel
theorem dL_law_255 : decode cL_law 255 = .ok (.iconst 2, 1) := by decide +kernel
theorem dL_law_256 : decode cL_law 256 = .ok (.iadd, 1) := by decide +kernel
theorem dL_law_257 : decode cL_law 257 = .ok (.iaload, 1) := by decide +kernel
theorem dL_law_258 : decode cL_law 258 = .ok (.aload_n 0, 1) := by decide +kernel
theorem dL_law_259 : decode cL_law 259 = .ok (.iload_n 3, 1) := by decide +kernel
theorem dL_law_260 : decode cL_law 260 = .ok (.iconst 3, 1) := by decide +kernel
theorem dL_law_261 : decode cL_law 261 = .ok (.iadd, 1) := by decide +kernel
theorem dL_law_262 : decode cL_law 262 = .ok (.iaload, 1) := by decide +kernel
theorem dL_law_263 : decode cL_law 263 = .ok (.aload_n 0, 1) := by decide +kernel
theorem dL_law_264 : decode cL_law 264 = .ok (.iload_n 3, 1) := by decide +kernel
theorem dL_law_265 : decode cL_law 265 = .ok (.iconst 4, 1) := by decide +kernel
theorem dL_law_266 : decode cL_law 266 = .ok (.iadd, 1) := by decide +kernel
theorem dL_law_267 : decode cL_law 267 = .ok (.iaload, 1) := by decide +kernel
theorem dL_law_268 : decode cL_law 268 = .ok (.invokevirtual 27, 3) := by decide +kernel
theorem dL_law_271 : decode cL_law 271 = .ok (.aload_n 2, 1) := by decide +kernel
theorem dL_law_272 : decode cL_law 272 = .ok (.aload_n 0, 1) := by decide +kernel
theorem dL_law_273 : decode cL_law 273 = .ok (.iload_n 3, 1) := by decide +kernel
theorem dL_law_274 : decode cL_law 274 = .ok (.iconst 1, 1) := by decide +kernel
theorem dL_law_275 : decode cL_law 275 = .ok (.iadd, 1) := by decide +kernel
theorem dL_law_276 : decode cL_law 276 = .ok (.iaload, 1) := by decide +kernel
theorem dL_law_277 : decode cL_law 277 = .ok (.aload_n 0, 1) := by decide +kernel
theorem dL_law_278 : decode cL_law 278 = .ok (.iload_n 3, 1) := by decide +kernel
theorem dL_law_279 : decode cL_law 279 = .ok (.iconst 2, 1) := by decide +kernel
theorem dL_law_280 : decode cL_law 280 = .ok (.iadd, 1) := by decide +kernel
theorem dL_law_281 : decode cL_law 281 = .ok (.iaload, 1) := by decide +kernel
theorem dL_law_282 : decode cL_law 282 = .ok (.aload_n 0, 1) := by decide +kernel
theorem dL_law_283 : decode cL_law 283 = .ok (.iload_n 3, 1) := by decide +kernel
theorem dL_law_284 : decode cL_law 284 = .ok (.iconst 3, 1) := by decide +kernel
theorem dL_law_285 : decode cL_law 285 = .ok (.iadd, 1) := by decide +kernel
theorem dL_law_286 : decode cL_law 286 = .ok (.iaload, 1) := by decide +kernel
theorem dL_law_287 : decode cL_law 287 = .ok (.aload_n 0, 1) := by decide +kernel
theorem dL_law_288 : decode cL_law 288 = .ok (.iload_n 3, 1) := by decide +kernel
theorem dL_law_289 : decode cL_law 289 = .ok (.iconst 4, 1) := by decide +kernel
theorem dL_law_290 : decode cL_law 290 = .ok (.iadd, 1) := by decide +kernel
theorem dL_law_291 : decode cL_law 291 = .ok (.iaload, 1) := by decide +kernel
theorem dL_law_292 : decode cL_law 292 = .ok (.invokevirtual 30, 3) := by decide +kernel
theorem dL_law_295 : decode cL_law 295 = .ok (.if_icmp .eq 443, 3) := by decide +kernel
theorem dL_law_298 : decode cL_law 298 = .ok (.iconst 0, 1) := by decide +kernel
theorem dL_law_299 : decode cL_law 299 = .ok (.ireturn, 1) := by decide +kernel
theorem dL_law_300 : decode cL_law 300 = .ok (.aload_n 1, 1) := by decide +kernel
theorem dL_law_301 : decode cL_law 301 = .ok (.aload_n 0, 1) := by decide +kernel
theorem dL_law_302 : decode cL_law 302 = .ok (.iload_n 3, 1) := by decide +kernel
theorem dL_law_303 : decode cL_law 303 = .ok (.iconst 1, 1) := by decide +kernel
theorem dL_law_304 : decode cL_law 304 = .ok (.iadd, 1) := by decide +kernel
theorem dL_law_305 : decode cL_law 305 = .ok (.iaload, 1) := by decide +kernel
theorem dL_law_306 : decode cL_law 306 = .ok (.aload_n 0, 1) := by decide +kernel
theorem dL_law_307 : decode cL_law 307 = .ok (.iload_n 3, 1) := by decide +kernel
theorem dL_law_308 : decode cL_law 308 = .ok (.iconst 2, 1) := by decide +kernel
theorem dL_law_309 : decode cL_law 309 = .ok (.iadd, 1) := by decide +kernel
theorem dL_law_310 : decode cL_law 310 = .ok (.iaload, 1) := by decide +kernel
theorem dL_law_311 : decode cL_law 311 = .ok (.aload_n 0, 1) := by decide +kernel
theorem dL_law_312 : decode cL_law 312 = .ok (.iload_n 3, 1) := by decide +kernel
theorem dL_law_313 : decode cL_law 313 = .ok (.iconst 3, 1) := by decide +kernel
theorem dL_law_314 : decode cL_law 314 = .ok (.iadd, 1) := by decide +kernel
theorem dL_law_315 : decode cL_law 315 = .ok (.iaload, 1) := by decide +kernel
theorem dL_law_316 : decode cL_law 316 = .ok (.aload_n 0, 1) := by decide +kernel
theorem dL_law_317 : decode cL_law 317 = .ok (.iload_n 3, 1) := by decide +kernel
theorem dL_law_318 : decode cL_law 318 = .ok (.iconst 4, 1) := by decide +kernel
theorem dL_law_319 : decode cL_law 319 = .ok (.iadd, 1) := by decide +kernel
theorem dL_law_320 : decode cL_law 320 = .ok (.iaload, 1) := by decide +kernel
theorem dL_law_321 : decode cL_law 321 = .ok (.invokevirtual 31, 3) := by decide +kernel
theorem dL_law_324 : decode cL_law 324 = .ok (.aload_n 2, 1) := by decide +kernel
theorem dL_law_325 : decode cL_law 325 = .ok (.aload_n 0, 1) := by decide +kernel
theorem dL_law_326 : decode cL_law 326 = .ok (.iload_n 3, 1) := by decide +kernel
theorem dL_law_327 : decode cL_law 327 = .ok (.iconst 1, 1) := by decide +kernel
theorem dL_law_328 : decode cL_law 328 = .ok (.iadd, 1) := by decide +kernel
theorem dL_law_329 : decode cL_law 329 = .ok (.iaload, 1) := by decide +kernel
theorem dL_law_330 : decode cL_law 330 = .ok (.aload_n 0, 1) := by decide +kernel
theorem dL_law_331 : decode cL_law 331 = .ok (.iload_n 3, 1) := by decide +kernel
theorem dL_law_332 : decode cL_law 332 = .ok (.iconst 2, 1) := by decide +kernel
theorem dL_law_333 : decode cL_law 333 = .ok (.iadd, 1) := by decide +kernel
theorem dL_law_334 : decode cL_law 334 = .ok (.iaload, 1) := by decide +kernel
theorem dL_law_335 : decode cL_law 335 = .ok (.aload_n 0, 1) := by decide +kernel
theorem dL_law_336 : decode cL_law 336 = .ok (.iload_n 3, 1) := by decide +kernel
theorem dL_law_337 : decode cL_law 337 = .ok (.iconst 3, 1) := by decide +kernel
theorem dL_law_338 : decode cL_law 338 = .ok (.iadd, 1) := by decide +kernel
theorem dL_law_339 : decode cL_law 339 = .ok (.iaload, 1) := by decide +kernel
theorem dL_law_340 : decode cL_law 340 = .ok (.aload_n 0, 1) := by decide +kernel
theorem dL_law_341 : decode cL_law 341 = .ok (.iload_n 3, 1) := by decide +kernel
theorem dL_law_342 : decode cL_law 342 = .ok (.iconst 4, 1) := by decide +kernel
theorem dL_law_343 : decode cL_law 343 = .ok (.iadd, 1) := by decide +kernel
theorem dL_law_344 : decode cL_law 344 = .ok (.iaload, 1) := by decide +kernel
theorem dL_law_345 : decode cL_law 345 = .ok (.invokevirtual 35, 3) := by decide +kernel
theorem dL_law_348 : decode cL_law 348 = .ok (.if_icmp .eq 390, 3) := by decide +kernel
theorem dL_law_351 : decode cL_law 351 = .ok (.iconst 0, 1) := by decide +kernel
theorem dL_law_352 : decode cL_law 352 = .ok (.ireturn, 1) := by decide +kernel
theorem dL_law_353 : decode cL_law 353 = .ok (.aload_n 1, 1) := by decide +kernel
theorem dL_law_354 : decode cL_law 354 = .ok (.aload_n 0, 1) := by decide +kernel
theorem dL_law_355 : decode cL_law 355 = .ok (.iload_n 3, 1) := by decide +kernel
theorem dL_law_356 : decode cL_law 356 = .ok (.iconst 1, 1) := by decide +kernel
theorem dL_law_357 : decode cL_law 357 = .ok (.iadd, 1) := by decide +kernel
theorem dL_law_358 : decode cL_law 358 = .ok (.iaload, 1) := by decide +kernel
theorem dL_law_359 : decode cL_law 359 = .ok (.aload_n 0, 1) := by decide +kernel
theorem dL_law_360 : decode cL_law 360 = .ok (.iload_n 3, 1) := by decide +kernel
theorem dL_law_361 : decode cL_law 361 = .ok (.iconst 2, 1) := by decide +kernel
theorem dL_law_362 : decode cL_law 362 = .ok (.iadd, 1) := by decide +kernel
theorem dL_law_363 : decode cL_law 363 = .ok (.iaload, 1) := by decide +kernel
theorem dL_law_364 : decode cL_law 364 = .ok (.invokevirtual 36, 3) := by decide +kernel
theorem dL_law_367 : decode cL_law 367 = .ok (.aload_n 2, 1) := by decide +kernel
theorem dL_law_368 : decode cL_law 368 = .ok (.aload_n 0, 1) := by decide +kernel
theorem dL_law_369 : decode cL_law 369 = .ok (.iload_n 3, 1) := by decide +kernel
theorem dL_law_370 : decode cL_law 370 = .ok (.iconst 1, 1) := by decide +kernel
theorem dL_law_371 : decode cL_law 371 = .ok (.iadd, 1) := by decide +kernel
theorem dL_law_372 : decode cL_law 372 = .ok (.iaload, 1) := by decide +kernel
theorem dL_law_373 : decode cL_law 373 = .ok (.aload_n 0, 1) := by decide +kernel
theorem dL_law_374 : decode cL_law 374 = .ok (.iload_n 3, 1) := by decide +kernel
theorem dL_law_375 : decode cL_law 375 = .ok (.iconst 2, 1) := by decide +kernel
theorem dL_law_376 : decode cL_law 376 = .ok (.iadd, 1) := by decide +kernel
theorem dL_law_377 : decode cL_law 377 = .ok (.iaload, 1) := by decide +kernel
theorem dL_law_378 : decode cL_law 378 = .ok (.invokevirtual 39, 3) := by decide +kernel
theorem dL_law_381 : decode cL_law 381 = .ok (.if_icmp .eq 357, 3) := by decide +kernel
theorem dL_law_384 : decode cL_law 384 = .ok (.iconst 0, 1) := by decide +kernel
theorem dL_law_385 : decode cL_law 385 = .ok (.ireturn, 1) := by decide +kernel
theorem dL_law_386 : decode cL_law 386 = .ok (.aload_n 1, 1) := by decide +kernel
theorem dL_law_387 : decode cL_law 387 = .ok (.aload_n 0, 1) := by decide +kernel
theorem dL_law_388 : decode cL_law 388 = .ok (.iload_n 3, 1) := by decide +kernel
theorem dL_law_389 : decode cL_law 389 = .ok (.iconst 1, 1) := by decide +kernel
theorem dL_law_390 : decode cL_law 390 = .ok (.iadd, 1) := by decide +kernel
theorem dL_law_391 : decode cL_law 391 = .ok (.iaload, 1) := by decide +kernel
theorem dL_law_392 : decode cL_law 392 = .ok (.aload_n 0, 1) := by decide +kernel
theorem dL_law_393 : decode cL_law 393 = .ok (.iload_n 3, 1) := by decide +kernel
theorem dL_law_394 : decode cL_law 394 = .ok (.iconst 2, 1) := by decide +kernel
theorem dL_law_395 : decode cL_law 395 = .ok (.iadd, 1) := by decide +kernel
theorem dL_law_396 : decode cL_law 396 = .ok (.iaload, 1) := by decide +kernel
theorem dL_law_397 : decode cL_law 397 = .ok (.aload_n 0, 1) := by decide +kernel
theorem dL_law_398 : decode cL_law 398 = .ok (.iload_n 3, 1) := by decide +kernel
theorem dL_law_399 : decode cL_law 399 = .ok (.iconst 3, 1) := by decide +kernel
theorem dL_law_400 : decode cL_law 400 = .ok (.iadd, 1) := by decide +kernel
theorem dL_law_401 : decode cL_law 401 = .ok (.iaload, 1) := by decide +kernel
theorem dL_law_402 : decode cL_law 402 = .ok (.aload_n 0, 1) := by decide +kernel
theorem dL_law_403 : decode cL_law 403 = .ok (.iload_n 3, 1) := by decide +kernel
theorem dL_law_404 : decode cL_law 404 = .ok (.iconst 4, 1) := by decide +kernel
theorem dL_law_405 : decode cL_law 405 = .ok (.iadd, 1) := by decide +kernel
theorem dL_law_406 : decode cL_law 406 = .ok (.iaload, 1) := by decide +kernel
theorem dL_law_407 : decode cL_law 407 = .ok (.invokevirtual 40, 3) := by decide +kernel
theorem dL_law_410 : decode cL_law 410 = .ok (.aload_n 2, 1) := by decide +kernel
theorem dL_law_411 : decode cL_law 411 = .ok (.aload_n 0, 1) := by decide +kernel
theorem dL_law_412 : decode cL_law 412 = .ok (.iload_n 3, 1) := by decide +kernel
theorem dL_law_413 : decode cL_law 413 = .ok (.iconst 1, 1) := by decide +kernel
theorem dL_law_414 : decode cL_law 414 = .ok (.iadd, 1) := by decide +kernel
theorem dL_law_415 : decode cL_law 415 = .ok (.iaload, 1) := by decide +kernel
theorem dL_law_416 : decode cL_law 416 = .ok (.aload_n 0, 1) := by decide +kernel
theorem dL_law_417 : decode cL_law 417 = .ok (.iload_n 3, 1) := by decide +kernel
theorem dL_law_418 : decode cL_law 418 = .ok (.iconst 2, 1) := by decide +kernel
theorem dL_law_419 : decode cL_law 419 = .ok (.iadd, 1) := by decide +kernel
theorem dL_law_420 : decode cL_law 420 = .ok (.iaload, 1) := by decide +kernel
theorem dL_law_421 : decode cL_law 421 = .ok (.aload_n 0, 1) := by decide +kernel
theorem dL_law_422 : decode cL_law 422 = .ok (.iload_n 3, 1) := by decide +kernel
theorem dL_law_423 : decode cL_law 423 = .ok (.iconst 3, 1) := by decide +kernel
theorem dL_law_424 : decode cL_law 424 = .ok (.iadd, 1) := by decide +kernel
theorem dL_law_425 : decode cL_law 425 = .ok (.iaload, 1) := by decide +kernel
theorem dL_law_426 : decode cL_law 426 = .ok (.aload_n 0, 1) := by decide +kernel
theorem dL_law_427 : decode cL_law 427 = .ok (.iload_n 3, 1) := by decide +kernel
theorem dL_law_428 : decode cL_law 428 = .ok (.iconst 4, 1) := by decide +kernel
theorem dL_law_429 : decode cL_law 429 = .ok (.iadd, 1) := by decide +kernel
theorem dL_law_430 : decode cL_law 430 = .ok (.iaload, 1) := by decide +kernel
theorem dL_law_431 : decode cL_law 431 = .ok (.invokevirtual 43, 3) := by decide +kernel
theorem dL_law_434 : decode cL_law 434 = .ok (.if_icmp .eq 304, 3) := by decide +kernel
theorem dL_law_437 : decode cL_law 437 = .ok (.iconst 0, 1) := by decide +kernel
theorem dL_law_438 : decode cL_law 438 = .ok (.ireturn, 1) := by decide +kernel
theorem dL_law_439 : decode cL_law 439 = .ok (.aload_n 1, 1) := by decide +kernel
theorem dL_law_440 : decode cL_law 440 = .ok (.invokevirtual 44, 3) := by decide +kernel
theorem dL_law_443 : decode cL_law 443 = .ok (.aload_n 2, 1) := by decide +kernel
theorem dL_law_444 : decode cL_law 444 = .ok (.invokevirtual 48, 3) := by decide +kernel
theorem dL_law_447 : decode cL_law 447 = .ok (.if_icmp .eq 291, 3) := by decide +kernel
theorem dL_law_450 : decode cL_law 450 = .ok (.iconst 0, 1) := by decide +kernel
theorem dL_law_451 : decode cL_law 451 = .ok (.ireturn, 1) := by decide +kernel
theorem dL_law_452 : decode cL_law 452 = .ok (.aload_n 1, 1) := by decide +kernel
theorem dL_law_453 : decode cL_law 453 = .ok (.aload_n 0, 1) := by decide +kernel
theorem dL_law_454 : decode cL_law 454 = .ok (.iload_n 3, 1) := by decide +kernel
theorem dL_law_455 : decode cL_law 455 = .ok (.iconst 1, 1) := by decide +kernel
theorem dL_law_456 : decode cL_law 456 = .ok (.iadd, 1) := by decide +kernel
theorem dL_law_457 : decode cL_law 457 = .ok (.iaload, 1) := by decide +kernel
theorem dL_law_458 : decode cL_law 458 = .ok (.aload_n 0, 1) := by decide +kernel
theorem dL_law_459 : decode cL_law 459 = .ok (.iload_n 3, 1) := by decide +kernel
theorem dL_law_460 : decode cL_law 460 = .ok (.iconst 2, 1) := by decide +kernel
theorem dL_law_461 : decode cL_law 461 = .ok (.iadd, 1) := by decide +kernel
theorem dL_law_462 : decode cL_law 462 = .ok (.iaload, 1) := by decide +kernel
theorem dL_law_463 : decode cL_law 463 = .ok (.invokevirtual 49, 3) := by decide +kernel
theorem dL_law_466 : decode cL_law 466 = .ok (.aload_n 2, 1) := by decide +kernel
theorem dL_law_467 : decode cL_law 467 = .ok (.aload_n 0, 1) := by decide +kernel
theorem dL_law_468 : decode cL_law 468 = .ok (.iload_n 3, 1) := by decide +kernel
theorem dL_law_469 : decode cL_law 469 = .ok (.iconst 1, 1) := by decide +kernel
theorem dL_law_470 : decode cL_law 470 = .ok (.iadd, 1) := by decide +kernel
theorem dL_law_471 : decode cL_law 471 = .ok (.iaload, 1) := by decide +kernel
theorem dL_law_472 : decode cL_law 472 = .ok (.aload_n 0, 1) := by decide +kernel
theorem dL_law_473 : decode cL_law 473 = .ok (.iload_n 3, 1) := by decide +kernel
theorem dL_law_474 : decode cL_law 474 = .ok (.iconst 2, 1) := by decide +kernel
theorem dL_law_475 : decode cL_law 475 = .ok (.iadd, 1) := by decide +kernel
theorem dL_law_476 : decode cL_law 476 = .ok (.iaload, 1) := by decide +kernel
theorem dL_law_477 : decode cL_law 477 = .ok (.invokevirtual 52, 3) := by decide +kernel
theorem dL_law_480 : decode cL_law 480 = .ok (.if_icmp .eq 258, 3) := by decide +kernel
theorem dL_law_483 : decode cL_law 483 = .ok (.iconst 0, 1) := by decide +kernel
theorem dL_law_484 : decode cL_law 484 = .ok (.ireturn, 1) := by decide +kernel
theorem dL_law_485 : decode cL_law 485 = .ok (.aload_n 1, 1) := by decide +kernel
theorem dL_law_486 : decode cL_law 486 = .ok (.aload_n 0, 1) := by decide +kernel
theorem dL_law_487 : decode cL_law 487 = .ok (.iload_n 3, 1) := by decide +kernel
theorem dL_law_488 : decode cL_law 488 = .ok (.iconst 1, 1) := by decide +kernel
theorem dL_law_489 : decode cL_law 489 = .ok (.iadd, 1) := by decide +kernel
theorem dL_law_490 : decode cL_law 490 = .ok (.iaload, 1) := by decide +kernel
theorem dL_law_491 : decode cL_law 491 = .ok (.invokevirtual 53, 3) := by decide +kernel
theorem dL_law_494 : decode cL_law 494 = .ok (.aload_n 2, 1) := by decide +kernel
theorem dL_law_495 : decode cL_law 495 = .ok (.aload_n 0, 1) := by decide +kernel
theorem dL_law_496 : decode cL_law 496 = .ok (.iload_n 3, 1) := by decide +kernel
theorem dL_law_497 : decode cL_law 497 = .ok (.iconst 1, 1) := by decide +kernel
theorem dL_law_498 : decode cL_law 498 = .ok (.iadd, 1) := by decide +kernel
theorem dL_law_499 : decode cL_law 499 = .ok (.iaload, 1) := by decide +kernel
theorem dL_law_500 : decode cL_law 500 = .ok (.invokevirtual 57, 3) := by decide +kernel
theorem dL_law_503 : decode cL_law 503 = .ok (.if_icmp .eq 235, 3) := by decide +kernel
theorem dL_law_506 : decode cL_law 506 = .ok (.iconst 0, 1) := by decide +kernel
theorem dL_law_507 : decode cL_law 507 = .ok (.ireturn, 1) := by decide +kernel
theorem dL_law_508 : decode cL_law 508 = .ok (.aload_n 1, 1) := by decide +kernel
theorem dL_law_509 : decode cL_law 509 = .ok (.invokevirtual 58, 3) := by decide +kernel
theorem dL_law_512 : decode cL_law 512 = .ok (.aload_n 2, 1) := by decide +kernel
theorem dL_law_513 : decode cL_law 513 = .ok (.invokevirtual 61, 3) := by decide +kernel
theorem dL_law_516 : decode cL_law 516 = .ok (.if_icmp .eq 222, 3) := by decide +kernel
theorem dL_law_519 : decode cL_law 519 = .ok (.iconst 0, 1) := by decide +kernel
theorem dL_law_520 : decode cL_law 520 = .ok (.ireturn, 1) := by decide +kernel
theorem dL_law_521 : decode cL_law 521 = .ok (.aload_n 1, 1) := by decide +kernel
theorem dL_law_522 : decode cL_law 522 = .ok (.aload_n 0, 1) := by decide +kernel
theorem dL_law_523 : decode cL_law 523 = .ok (.iload_n 3, 1) := by decide +kernel
theorem dL_law_524 : decode cL_law 524 = .ok (.iconst 1, 1) := by decide +kernel
theorem dL_law_525 : decode cL_law 525 = .ok (.iadd, 1) := by decide +kernel
theorem dL_law_526 : decode cL_law 526 = .ok (.iaload, 1) := by decide +kernel
theorem dL_law_527 : decode cL_law 527 = .ok (.aload_n 0, 1) := by decide +kernel
theorem dL_law_528 : decode cL_law 528 = .ok (.iload_n 3, 1) := by decide +kernel
theorem dL_law_529 : decode cL_law 529 = .ok (.iconst 2, 1) := by decide +kernel
theorem dL_law_530 : decode cL_law 530 = .ok (.iadd, 1) := by decide +kernel
theorem dL_law_531 : decode cL_law 531 = .ok (.iaload, 1) := by decide +kernel
theorem dL_law_532 : decode cL_law 532 = .ok (.invokevirtual 62, 3) := by decide +kernel
theorem dL_law_535 : decode cL_law 535 = .ok (.aload_n 2, 1) := by decide +kernel
theorem dL_law_536 : decode cL_law 536 = .ok (.aload_n 0, 1) := by decide +kernel
theorem dL_law_537 : decode cL_law 537 = .ok (.iload_n 3, 1) := by decide +kernel
theorem dL_law_538 : decode cL_law 538 = .ok (.iconst 1, 1) := by decide +kernel
theorem dL_law_539 : decode cL_law 539 = .ok (.iadd, 1) := by decide +kernel
theorem dL_law_540 : decode cL_law 540 = .ok (.iaload, 1) := by decide +kernel
theorem dL_law_541 : decode cL_law 541 = .ok (.aload_n 0, 1) := by decide +kernel
theorem dL_law_542 : decode cL_law 542 = .ok (.iload_n 3, 1) := by decide +kernel
theorem dL_law_543 : decode cL_law 543 = .ok (.iconst 2, 1) := by decide +kernel
theorem dL_law_544 : decode cL_law 544 = .ok (.iadd, 1) := by decide +kernel
theorem dL_law_545 : decode cL_law 545 = .ok (.iaload, 1) := by decide +kernel
theorem dL_law_546 : decode cL_law 546 = .ok (.invokevirtual 66, 3) := by decide +kernel
theorem dL_law_549 : decode cL_law 549 = .ok (.if_icmp .eq 189, 3) := by decide +kernel
theorem dL_law_552 : decode cL_law 552 = .ok (.iconst 0, 1) := by decide +kernel
theorem dL_law_553 : decode cL_law 553 = .ok (.ireturn, 1) := by decide +kernel
theorem dL_law_554 : decode cL_law 554 = .ok (.aload_n 1, 1) := by decide +kernel
theorem dL_law_555 : decode cL_law 555 = .ok (.aload_n 0, 1) := by decide +kernel
theorem dL_law_556 : decode cL_law 556 = .ok (.iload_n 3, 1) := by decide +kernel
theorem dL_law_557 : decode cL_law 557 = .ok (.iconst 1, 1) := by decide +kernel
theorem dL_law_558 : decode cL_law 558 = .ok (.iadd, 1) := by decide +kernel
theorem dL_law_559 : decode cL_law 559 = .ok (.iaload, 1) := by decide +kernel
theorem dL_law_560 : decode cL_law 560 = .ok (.aload_n 0, 1) := by decide +kernel
theorem dL_law_561 : decode cL_law 561 = .ok (.iload_n 3, 1) := by decide +kernel
theorem dL_law_562 : decode cL_law 562 = .ok (.iconst 2, 1) := by decide +kernel
theorem dL_law_563 : decode cL_law 563 = .ok (.iadd, 1) := by decide +kernel
theorem dL_law_564 : decode cL_law 564 = .ok (.iaload, 1) := by decide +kernel
theorem dL_law_565 : decode cL_law 565 = .ok (.invokevirtual 67, 3) := by decide +kernel
theorem dL_law_568 : decode cL_law 568 = .ok (.aload_n 2, 1) := by decide +kernel
theorem dL_law_569 : decode cL_law 569 = .ok (.aload_n 0, 1) := by decide +kernel
theorem dL_law_570 : decode cL_law 570 = .ok (.iload_n 3, 1) := by decide +kernel
theorem dL_law_571 : decode cL_law 571 = .ok (.iconst 1, 1) := by decide +kernel
theorem dL_law_572 : decode cL_law 572 = .ok (.iadd, 1) := by decide +kernel
theorem dL_law_573 : decode cL_law 573 = .ok (.iaload, 1) := by decide +kernel
theorem dL_law_574 : decode cL_law 574 = .ok (.aload_n 0, 1) := by decide +kernel
theorem dL_law_575 : decode cL_law 575 = .ok (.iload_n 3, 1) := by decide +kernel
theorem dL_law_576 : decode cL_law 576 = .ok (.iconst 2, 1) := by decide +kernel
theorem dL_law_577 : decode cL_law 577 = .ok (.iadd, 1) := by decide +kernel
theorem dL_law_578 : decode cL_law 578 = .ok (.iaload, 1) := by decide +kernel
theorem dL_law_579 : decode cL_law 579 = .ok (.invokevirtual 70, 3) := by decide +kernel
theorem dL_law_582 : decode cL_law 582 = .ok (.if_icmp .eq 156, 3) := by decide +kernel
theorem dL_law_585 : decode cL_law 585 = .ok (.iconst 0, 1) := by decide +kernel
theorem dL_law_586 : decode cL_law 586 = .ok (.ireturn, 1) := by decide +kernel
theorem dL_law_587 : decode cL_law 587 = .ok (.aload_n 1, 1) := by decide +kernel
theorem dL_law_588 : decode cL_law 588 = .ok (.aload_n 0, 1) := by decide +kernel
theorem dL_law_589 : decode cL_law 589 = .ok (.iload_n 3, 1) := by decide +kernel
theorem dL_law_590 : decode cL_law 590 = .ok (.iconst 1, 1) := by decide +kernel
theorem dL_law_591 : decode cL_law 591 = .ok (.iadd, 1) := by decide +kernel
theorem dL_law_592 : decode cL_law 592 = .ok (.iaload, 1) := by decide +kernel
theorem dL_law_593 : decode cL_law 593 = .ok (.invokevirtual 71, 3) := by decide +kernel
theorem dL_law_596 : decode cL_law 596 = .ok (.aload_n 2, 1) := by decide +kernel
theorem dL_law_597 : decode cL_law 597 = .ok (.aload_n 0, 1) := by decide +kernel
theorem dL_law_598 : decode cL_law 598 = .ok (.iload_n 3, 1) := by decide +kernel
theorem dL_law_599 : decode cL_law 599 = .ok (.iconst 1, 1) := by decide +kernel
theorem dL_law_600 : decode cL_law 600 = .ok (.iadd, 1) := by decide +kernel
theorem dL_law_601 : decode cL_law 601 = .ok (.iaload, 1) := by decide +kernel
theorem dL_law_602 : decode cL_law 602 = .ok (.invokevirtual 74, 3) := by decide +kernel
theorem dL_law_605 : decode cL_law 605 = .ok (.if_icmp .eq 133, 3) := by decide +kernel
theorem dL_law_608 : decode cL_law 608 = .ok (.iconst 0, 1) := by decide +kernel
theorem dL_law_609 : decode cL_law 609 = .ok (.ireturn, 1) := by decide +kernel
theorem dL_law_610 : decode cL_law 610 = .ok (.aload_n 1, 1) := by decide +kernel
theorem dL_law_611 : decode cL_law 611 = .ok (.invokevirtual 75, 3) := by decide +kernel
theorem dL_law_614 : decode cL_law 614 = .ok (.aload_n 2, 1) := by decide +kernel
theorem dL_law_615 : decode cL_law 615 = .ok (.invokevirtual 78, 3) := by decide +kernel
theorem dL_law_618 : decode cL_law 618 = .ok (.if_icmp .eq 120, 3) := by decide +kernel
theorem dL_law_621 : decode cL_law 621 = .ok (.iconst 0, 1) := by decide +kernel
theorem dL_law_622 : decode cL_law 622 = .ok (.ireturn, 1) := by decide +kernel
theorem dL_law_623 : decode cL_law 623 = .ok (.aload_n 1, 1) := by decide +kernel
theorem dL_law_624 : decode cL_law 624 = .ok (.aload_n 0, 1) := by decide +kernel
theorem dL_law_625 : decode cL_law 625 = .ok (.iload_n 3, 1) := by decide +kernel
theorem dL_law_626 : decode cL_law 626 = .ok (.iconst 1, 1) := by decide +kernel
theorem dL_law_627 : decode cL_law 627 = .ok (.iadd, 1) := by decide +kernel
theorem dL_law_628 : decode cL_law 628 = .ok (.iaload, 1) := by decide +kernel
theorem dL_law_629 : decode cL_law 629 = .ok (.invokevirtual 79, 3) := by decide +kernel
theorem dL_law_632 : decode cL_law 632 = .ok (.aload_n 2, 1) := by decide +kernel
theorem dL_law_633 : decode cL_law 633 = .ok (.aload_n 0, 1) := by decide +kernel
theorem dL_law_634 : decode cL_law 634 = .ok (.iload_n 3, 1) := by decide +kernel
theorem dL_law_635 : decode cL_law 635 = .ok (.iconst 1, 1) := by decide +kernel
theorem dL_law_636 : decode cL_law 636 = .ok (.iadd, 1) := by decide +kernel
theorem dL_law_637 : decode cL_law 637 = .ok (.iaload, 1) := by decide +kernel
theorem dL_law_638 : decode cL_law 638 = .ok (.invokevirtual 82, 3) := by decide +kernel
theorem dL_law_641 : decode cL_law 641 = .ok (.if_icmp .eq 97, 3) := by decide +kernel
theorem dL_law_644 : decode cL_law 644 = .ok (.iconst 0, 1) := by decide +kernel
theorem dL_law_645 : decode cL_law 645 = .ok (.ireturn, 1) := by decide +kernel
theorem dL_law_646 : decode cL_law 646 = .ok (.aload_n 1, 1) := by decide +kernel
theorem dL_law_647 : decode cL_law 647 = .ok (.aload_n 0, 1) := by decide +kernel
theorem dL_law_648 : decode cL_law 648 = .ok (.iload_n 3, 1) := by decide +kernel
theorem dL_law_649 : decode cL_law 649 = .ok (.iconst 1, 1) := by decide +kernel
theorem dL_law_650 : decode cL_law 650 = .ok (.iadd, 1) := by decide +kernel
theorem dL_law_651 : decode cL_law 651 = .ok (.iaload, 1) := by decide +kernel
theorem dL_law_652 : decode cL_law 652 = .ok (.aload_n 0, 1) := by decide +kernel
theorem dL_law_653 : decode cL_law 653 = .ok (.iload_n 3, 1) := by decide +kernel
theorem dL_law_654 : decode cL_law 654 = .ok (.iconst 2, 1) := by decide +kernel
theorem dL_law_655 : decode cL_law 655 = .ok (.iadd, 1) := by decide +kernel
theorem dL_law_656 : decode cL_law 656 = .ok (.iaload, 1) := by decide +kernel
theorem dL_law_657 : decode cL_law 657 = .ok (.aload_n 0, 1) := by decide +kernel
theorem dL_law_658 : decode cL_law 658 = .ok (.iload_n 3, 1) := by decide +kernel
theorem dL_law_659 : decode cL_law 659 = .ok (.iconst 3, 1) := by decide +kernel
theorem dL_law_660 : decode cL_law 660 = .ok (.iadd, 1) := by decide +kernel
theorem dL_law_661 : decode cL_law 661 = .ok (.iaload, 1) := by decide +kernel
theorem dL_law_662 : decode cL_law 662 = .ok (.invokevirtual 83, 3) := by decide +kernel
theorem dL_law_665 : decode cL_law 665 = .ok (.aload_n 2, 1) := by decide +kernel
theorem dL_law_666 : decode cL_law 666 = .ok (.aload_n 0, 1) := by decide +kernel
theorem dL_law_667 : decode cL_law 667 = .ok (.iload_n 3, 1) := by decide +kernel
theorem dL_law_668 : decode cL_law 668 = .ok (.iconst 1, 1) := by decide +kernel
theorem dL_law_669 : decode cL_law 669 = .ok (.iadd, 1) := by decide +kernel
theorem dL_law_670 : decode cL_law 670 = .ok (.iaload, 1) := by decide +kernel
theorem dL_law_671 : decode cL_law 671 = .ok (.aload_n 0, 1) := by decide +kernel
theorem dL_law_672 : decode cL_law 672 = .ok (.iload_n 3, 1) := by decide +kernel
theorem dL_law_673 : decode cL_law 673 = .ok (.iconst 2, 1) := by decide +kernel
theorem dL_law_674 : decode cL_law 674 = .ok (.iadd, 1) := by decide +kernel
theorem dL_law_675 : decode cL_law 675 = .ok (.iaload, 1) := by decide +kernel
theorem dL_law_676 : decode cL_law 676 = .ok (.aload_n 0, 1) := by decide +kernel
theorem dL_law_677 : decode cL_law 677 = .ok (.iload_n 3, 1) := by decide +kernel
theorem dL_law_678 : decode cL_law 678 = .ok (.iconst 3, 1) := by decide +kernel
theorem dL_law_679 : decode cL_law 679 = .ok (.iadd, 1) := by decide +kernel
theorem dL_law_680 : decode cL_law 680 = .ok (.iaload, 1) := by decide +kernel
theorem dL_law_681 : decode cL_law 681 = .ok (.invokevirtual 87, 3) := by decide +kernel
theorem dL_law_684 : decode cL_law 684 = .ok (.if_icmp .eq 54, 3) := by decide +kernel
theorem dL_law_687 : decode cL_law 687 = .ok (.iconst 0, 1) := by decide +kernel
theorem dL_law_688 : decode cL_law 688 = .ok (.ireturn, 1) := by decide +kernel
theorem dL_law_689 : decode cL_law 689 = .ok (.aload_n 1, 1) := by decide +kernel
theorem dL_law_690 : decode cL_law 690 = .ok (.invokevirtual 88, 3) := by decide +kernel
theorem dL_law_693 : decode cL_law 693 = .ok (.aload_n 2, 1) := by decide +kernel
theorem dL_law_694 : decode cL_law 694 = .ok (.invokevirtual 91, 3) := by decide +kernel
theorem dL_law_697 : decode cL_law 697 = .ok (.if_icmp .eq 41, 3) := by decide +kernel
theorem dL_law_700 : decode cL_law 700 = .ok (.iconst 0, 1) := by decide +kernel
theorem dL_law_701 : decode cL_law 701 = .ok (.ireturn, 1) := by decide +kernel
theorem dL_law_702 : decode cL_law 702 = .ok (.aload_n 1, 1) := by decide +kernel
theorem dL_law_703 : decode cL_law 703 = .ok (.invokevirtual 92, 3) := by decide +kernel
theorem dL_law_706 : decode cL_law 706 = .ok (.aload_n 2, 1) := by decide +kernel
theorem dL_law_707 : decode cL_law 707 = .ok (.invokevirtual 95, 3) := by decide +kernel
theorem dL_law_710 : decode cL_law 710 = .ok (.if_icmp .eq 28, 3) := by decide +kernel
theorem dL_law_713 : decode cL_law 713 = .ok (.iconst 0, 1) := by decide +kernel
theorem dL_law_714 : decode cL_law 714 = .ok (.ireturn, 1) := by decide +kernel
theorem dL_law_715 : decode cL_law 715 = .ok (.aload_n 1, 1) := by decide +kernel
theorem dL_law_716 : decode cL_law 716 = .ok (.aload_n 0, 1) := by decide +kernel
theorem dL_law_717 : decode cL_law 717 = .ok (.iload_n 3, 1) := by decide +kernel
theorem dL_law_718 : decode cL_law 718 = .ok (.iconst 1, 1) := by decide +kernel
theorem dL_law_719 : decode cL_law 719 = .ok (.iadd, 1) := by decide +kernel
theorem dL_law_720 : decode cL_law 720 = .ok (.iaload, 1) := by decide +kernel
theorem dL_law_721 : decode cL_law 721 = .ok (.invokevirtual 96, 3) := by decide +kernel
theorem dL_law_724 : decode cL_law 724 = .ok (.aload_n 2, 1) := by decide +kernel
theorem dL_law_725 : decode cL_law 725 = .ok (.aload_n 0, 1) := by decide +kernel
theorem dL_law_726 : decode cL_law 726 = .ok (.iload_n 3, 1) := by decide +kernel
theorem dL_law_727 : decode cL_law 727 = .ok (.iconst 1, 1) := by decide +kernel
theorem dL_law_728 : decode cL_law 728 = .ok (.iadd, 1) := by decide +kernel
theorem dL_law_729 : decode cL_law 729 = .ok (.iaload, 1) := by decide +kernel
theorem dL_law_730 : decode cL_law 730 = .ok (.invokevirtual 99, 3) := by decide +kernel
theorem dL_law_733 : decode cL_law 733 = .ok (.if_icmp .eq 5, 3) := by decide +kernel
theorem dL_law_736 : decode cL_law 736 = .ok (.iconst 0, 1) := by decide +kernel
theorem dL_law_737 : decode cL_law 737 = .ok (.ireturn, 1) := by decide +kernel
theorem dL_law_738 : decode cL_law 738 = .ok (.iinc 3 5, 3) := by decide +kernel
theorem dL_law_741 : decode cL_law 741 = .ok (.goto (-723), 3) := by decide +kernel
theorem dL_law_744 : decode cL_law 744 = .ok (.iconst 1, 1) := by decide +kernel
theorem dL_law_745 : decode cL_law 745 = .ok (.ireturn, 1) := by decide +kernel
end
section
def wd : List Cond := lw_tbl.filter goodWord
theorem wdof {i : Nat} {w : Cond} (h : lw_tbl[i]? = some w) (hg : goodWord w = true) : w ∈ wd := List.mem_filter.mpr ⟨List.mem_of_getElem? h, hg⟩
theorem wd_in : ∀ w ∈ wd, w ∈ lw_tbl := fun _ h => (List.mem_filter.mp h).1
theorem wd_good : ∀ w ∈ wd, (w.onTables && w.keeps) = true ∨ ∃ ty, w = .arrayClass ty := fun _ h => good_of_word (List.mem_filter.mp h).2
theorem wl0 : Cond.selects RX4 yX4_shorten yX4_shorten ∈ wd := wdof (i := 0) (by decide +kernel) rfl
theorem wl1 : Cond.selects RX5 yX5_travel yX5_travel ∈ wd := wdof (i := 1) (by decide +kernel) rfl
theorem wl2 : Cond.selects RX5 yX5_divideByMiles yX5_divideByMiles ∈ wd := wdof (i := 2) (by decide +kernel) rfl
theorem wl3 : Cond.selects RX5 yX5_giveOneMore yX5_giveOneMore ∈ wd := wdof (i := 3) (by decide +kernel) rfl
theorem wl4 : Cond.selects RX2 yX2_measureErrors yX2_measureErrors ∈ wd := wdof (i := 4) (by decide +kernel) rfl
theorem wl5 : Cond.selects RX2 yX2_keep yX2_keep ∈ wd := wdof (i := 5) (by decide +kernel) rfl
theorem wl6 : Cond.selects RX2 yX2_isInTime yX2_isInTime ∈ wd := wdof (i := 6) (by decide +kernel) rfl
theorem wl7 : Cond.selects RX0 yX0_owedAsJoined yX0_owedAsJoined ∈ wd := wdof (i := 7) (by decide +kernel) rfl
theorem wl8 : Cond.selects RX0 yX0_priceOf yX0_priceOf ∈ wd := wdof (i := 8) (by decide +kernel) rfl
theorem wl9 : Cond.selects RX7 yX7_strikeBalances yX7_strikeBalances ∈ wd := wdof (i := 9) (by decide +kernel) rfl
theorem wl10 : Cond.selects RX1 yX1_weighSet yX1_weighSet ∈ wd := wdof (i := 10) (by decide +kernel) rfl
theorem wl11 : Cond.selects RX1 yX1_firstGroup yX1_firstGroup ∈ wd := wdof (i := 11) (by decide +kernel) rfl
theorem wl12 : Cond.selects RX3 yX3_stayAtHome yX3_stayAtHome ∈ wd := wdof (i := 12) (by decide +kernel) rfl
theorem wl13 : Cond.selects RX3 yX3_leadMore yX3_leadMore ∈ wd := wdof (i := 13) (by decide +kernel) rfl
theorem wl14 : Cond.selects RX3 yX3_measureReach yX3_measureReach ∈ wd := wdof (i := 14) (by decide +kernel) rfl
theorem wl15 : Cond.selects RX3 yX3_stepFrom yX3_stepFrom ∈ wd := wdof (i := 15) (by decide +kernel) rfl
theorem wl16 : Cond.selects RX3 yX3_stepMiles yX3_stepMiles ∈ wd := wdof (i := 16) (by decide +kernel) rfl
theorem wl17 : Cond.selects RX3 yX3_isGiver yX3_isGiver ∈ wd := wdof (i := 17) (by decide +kernel) rfl
theorem wl18 : Cond.selects RX3 yX3_isTaker yX3_isTaker ∈ wd := wdof (i := 18) (by decide +kernel) rfl
theorem wl19 : Cond.selects RX3 yX3_nearestGoal yX3_nearestGoal ∈ wd := wdof (i := 19) (by decide +kernel) rfl
theorem wl20 : Cond.selects RX3 yX3_amountTo yX3_amountTo ∈ wd := wdof (i := 20) (by decide +kernel) rfl
theorem wl21 : Cond.selects RX3 yX3_moveTo yX3_moveTo ∈ wd := wdof (i := 21) (by decide +kernel) rfl
theorem wl22 : Cond.selects RX8 yX8_reckons yX8_reckons ∈ wd := wdof (i := 22) (by decide +kernel) rfl
theorem wl23 : Cond.selects RX8 yX8_otherEnd yX8_otherEnd ∈ wd := wdof (i := 23) (by decide +kernel) rfl
theorem wl24 : Cond.selects RX8 yX8_parts yX8_parts ∈ wd := wdof (i := 24) (by decide +kernel) rfl
theorem wl25 : Cond.selects RX8 yX8_joins yX8_joins ∈ wd := wdof (i := 25) (by decide +kernel) rfl
theorem wl26 : Cond.selects RX8 yX8_canBe yX8_canBe ∈ wd := wdof (i := 26) (by decide +kernel) rfl
theorem wl27 : Cond.selects RX8 yX8_owes yX8_owes ∈ wd := wdof (i := 27) (by decide +kernel) rfl
theorem wl28 : Cond.selects RX8 yX8_groups yX8_groups ∈ wd := wdof (i := 28) (by decide +kernel) rfl
theorem wl29 : Cond.selects RX8 yX8_sumOf yX8_sumOf ∈ wd := wdof (i := 29) (by decide +kernel) rfl
theorem wl30 : Cond.selects RX8 yX8_leads yX8_leads ∈ wd := wdof (i := 30) (by decide +kernel) rfl
theorem wl31 : Cond.selects RX8 yX8_seeks yX8_seeks ∈ wd := wdof (i := 31) (by decide +kernel) rfl
theorem wl32 : Cond.selects RX8 yX8_left yX8_left ∈ wd := wdof (i := 32) (by decide +kernel) rfl
theorem wl33 : Cond.selects RX8 yX8_lacks yX8_lacks ∈ wd := wdof (i := 33) (by decide +kernel) rfl
theorem wl34 : Cond.initialized RL ∈ wd := wdof (i := 34) (by decide +kernel) rfl
theorem wl35 : Cond.initialized RX7 ∈ wd := wdof (i := 35) (by decide +kernel) rfl
theorem wl36 : Cond.initialized RX4 ∈ wd := wdof (i := 36) (by decide +kernel) rfl
theorem wl37 : Cond.initialized RJ7 ∈ wd := wdof (i := 37) (by decide +kernel) rfl
theorem wl38 : Cond.initialized RX5 ∈ wd := wdof (i := 38) (by decide +kernel) rfl
theorem wl39 : Cond.initialized RX6 ∈ wd := wdof (i := 39) (by decide +kernel) rfl
theorem wl40 : Cond.initialized RX2 ∈ wd := wdof (i := 40) (by decide +kernel) rfl
theorem wl41 : Cond.initialized RX0 ∈ wd := wdof (i := 41) (by decide +kernel) rfl
theorem wl42 : Cond.initialized RX1 ∈ wd := wdof (i := 42) (by decide +kernel) rfl
theorem wl43 : Cond.initialized RX3 ∈ wd := wdof (i := 43) (by decide +kernel) rfl
theorem wl44 : Cond.initialized RX8 ∈ wd := wdof (i := 44) (by decide +kernel) rfl
theorem wl45 : Cond.initialized RJ9 ∈ wd := wdof (i := 45) (by decide +kernel) rfl
theorem wl46 : Cond.initialized RJ10 ∈ wd := wdof (i := 46) (by decide +kernel) rfl
theorem wl47 : Cond.initialized RJ6 ∈ wd := wdof (i := 47) (by decide +kernel) rfl
theorem wl48 : Cond.classLink RL 7 RX7 ∈ wd := wdof (i := 48) (by decide +kernel) rfl
theorem wl49 : Cond.instantiable RX7 10 ∈ wd := wdof (i := 49) (by decide +kernel) rfl
theorem wl50 : Cond.methodLink RL 9 yX7_init ∈ wd := wdof (i := 50) (by decide +kernel) rfl
theorem wl51 : Cond.instanceMethod yX7_init ∈ wd := wdof (i := 51) (by decide +kernel) rfl
theorem wl52 : Cond.code yX7_init cX7_init 1 none ∈ wd := wdof (i := 52) (by decide +kernel) rfl
theorem wl53 : Cond.methodLink RX7 1 objectInit ∈ wd := wdof (i := 53) (by decide +kernel) rfl
theorem wl54 : Cond.instanceMethod objectInit ∈ wd := wdof (i := 54) (by decide +kernel) rfl
theorem wl55 : Cond.code objectInit object_method_1_code 1 none ∈ wd := wdof (i := 55) (by decide +kernel) rfl
theorem wl56 : Cond.classLink RX7 7 RX4 ∈ wd := wdof (i := 56) (by decide +kernel) rfl
theorem wl57 : Cond.instantiable RX4 6 ∈ wd := wdof (i := 57) (by decide +kernel) rfl
theorem wl58 : Cond.methodLink RX7 9 yX4_init ∈ wd := wdof (i := 58) (by decide +kernel) rfl
theorem wl59 : Cond.instanceMethod yX4_init ∈ wd := wdof (i := 59) (by decide +kernel) rfl
theorem wl60 : Cond.code yX4_init cX4_init 2 none ∈ wd := wdof (i := 60) (by decide +kernel) rfl
theorem wl61 : Cond.methodLink RX4 3 objectInit ∈ wd := wdof (i := 61) (by decide +kernel) rfl
theorem wl62 : Cond.constant RX4 31 (1000000) ∈ wd := wdof (i := 62) (by decide +kernel) rfl
theorem wl63 : Cond.methodLink RX4 32 yJ7_fill_53178 ∈ wd := wdof (i := 63) (by decide +kernel) rfl
theorem wl64 : Cond.static yJ7_fill_53178 ∈ wd := wdof (i := 64) (by decide +kernel) rfl
theorem wl65 : Cond.code yJ7_fill_53178 cJ7_fill_53178 4 none ∈ wd := wdof (i := 65) (by decide +kernel) rfl
theorem wl66 : Cond.fieldLink RX4 9 "WagonClearing$Network" "oneEnd" "[I" ∈ wd := wdof (i := 66) (by decide +kernel) rfl
theorem wl67 : Cond.fieldLink RX4 15 "WagonClearing$Network" "otherEnd" "[I" ∈ wd := wdof (i := 67) (by decide +kernel) rfl
theorem wl68 : Cond.fieldLink RX4 18 "WagonClearing$Network" "companies" "[I" ∈ wd := wdof (i := 68) (by decide +kernel) rfl
theorem wl69 : Cond.fieldLink RX5 57 "WagonClearing$Network" "companies" "[I" ∈ wd := wdof (i := 69) (by decide +kernel) rfl
theorem wl70 : Cond.fieldLink RX4 21 "WagonClearing$Network" "miles" "[I" ∈ wd := wdof (i := 70) (by decide +kernel) rfl
theorem wl71 : Cond.fieldLink RX5 60 "WagonClearing$Network" "miles" "[I" ∈ wd := wdof (i := 71) (by decide +kernel) rfl
theorem wl72 : Cond.fieldLink RX4 24 "WagonClearing$Network" "leasts" "[I" ∈ wd := wdof (i := 72) (by decide +kernel) rfl
theorem wl73 : Cond.fieldLink RX2 97 "WagonClearing$Network" "leasts" "[I" ∈ wd := wdof (i := 73) (by decide +kernel) rfl
theorem wl74 : Cond.fieldLink RX3 97 "WagonClearing$Network" "leasts" "[I" ∈ wd := wdof (i := 74) (by decide +kernel) rfl
theorem wl75 : Cond.fieldLink RX4 27 "WagonClearing$Network" "lines" "I" ∈ wd := wdof (i := 75) (by decide +kernel) rfl
theorem wl76 : Cond.fieldLink RX7 156 "WagonClearing$Network" "lines" "I" ∈ wd := wdof (i := 76) (by decide +kernel) rfl
theorem wl90 : Cond.arrayClass .int ∈ wd := wdof (i := 90) (by decide +kernel) rfl
theorem wl91 : Cond.classLink RX7 16 RX5 ∈ wd := wdof (i := 91) (by decide +kernel) rfl
theorem wl92 : Cond.instantiable RX5 6 ∈ wd := wdof (i := 92) (by decide +kernel) rfl
theorem wl93 : Cond.methodLink RX7 18 yX5_init ∈ wd := wdof (i := 93) (by decide +kernel) rfl
theorem wl94 : Cond.instanceMethod yX5_init ∈ wd := wdof (i := 94) (by decide +kernel) rfl
theorem wl95 : Cond.code yX5_init cX5_init 2 none ∈ wd := wdof (i := 95) (by decide +kernel) rfl
theorem wl96 : Cond.methodLink RX5 3 objectInit ∈ wd := wdof (i := 96) (by decide +kernel) rfl
theorem wl97 : Cond.fieldLink RX5 9 "WagonClearing$Parting" "parts" "[I" ∈ wd := wdof (i := 97) (by decide +kernel) rfl
theorem wl98 : Cond.fieldLink RX7 98 "WagonClearing$Parting" "parts" "[I" ∈ wd := wdof (i := 98) (by decide +kernel) rfl
theorem wl99 : Cond.fieldLink RX5 15 "WagonClearing$Parting" "milesOf" "[I" ∈ wd := wdof (i := 99) (by decide +kernel) rfl
theorem wl100 : Cond.fieldLink RX5 18 "WagonClearing$Parting" "cutOff" "[I" ∈ wd := wdof (i := 100) (by decide +kernel) rfl
theorem wl101 : Cond.fieldLink RX5 28 "WagonClearing$Parting" "network" "LWagonClearing$Network;" ∈ wd := wdof (i := 101) (by decide +kernel) rfl
theorem wl102 : Cond.fieldLink RX5 21 "WagonClearing$Parting" "firstCompany" "I" ∈ wd := wdof (i := 102) (by decide +kernel) rfl
theorem wl103 : Cond.fieldLink RX5 25 "WagonClearing$Parting" "lastCompany" "I" ∈ wd := wdof (i := 103) (by decide +kernel) rfl
theorem wl117 : Cond.classLink RX7 25 RX6 ∈ wd := wdof (i := 117) (by decide +kernel) rfl
theorem wl118 : Cond.instantiable RX6 8 ∈ wd := wdof (i := 118) (by decide +kernel) rfl
theorem wl120 : Cond.instanceMethod yX6_init ∈ wd := wdof (i := 120) (by decide +kernel) rfl
theorem wl121 : Cond.code yX6_init cX6_init 1 none ∈ wd := wdof (i := 121) (by decide +kernel) rfl
theorem wl122 : Cond.methodLink RX6 3 objectInit ∈ wd := wdof (i := 122) (by decide +kernel) rfl
theorem wl123 : Cond.fieldLink RX6 9 "WagonClearing$Register" "marks" "[I" ∈ wd := wdof (i := 123) (by decide +kernel) rfl
theorem wl124 : Cond.fieldLink RX2 74 "WagonClearing$Register" "marks" "[I" ∈ wd := wdof (i := 124) (by decide +kernel) rfl
theorem wl125 : Cond.fieldLink RX6 15 "WagonClearing$Register" "owners" "[I" ∈ wd := wdof (i := 125) (by decide +kernel) rfl
theorem wl126 : Cond.fieldLink RX0 48 "WagonClearing$Register" "owners" "[I" ∈ wd := wdof (i := 126) (by decide +kernel) rfl
theorem wl127 : Cond.fieldLink RX6 18 "WagonClearing$Register" "wagons" "I" ∈ wd := wdof (i := 127) (by decide +kernel) rfl
theorem wl128 : Cond.fieldLink RX0 73 "WagonClearing$Register" "wagons" "I" ∈ wd := wdof (i := 128) (by decide +kernel) rfl
theorem wl129 : Cond.fieldLink RX2 68 "WagonClearing$Register" "wagons" "I" ∈ wd := wdof (i := 129) (by decide +kernel) rfl
theorem wl130 : Cond.fieldLink RX7 159 "WagonClearing$Register" "wagons" "I" ∈ wd := wdof (i := 130) (by decide +kernel) rfl
theorem wl131 : Cond.fieldLink RX6 22 "WagonClearing$Register" "written" "[I" ∈ wd := wdof (i := 131) (by decide +kernel) rfl
theorem wl132 : Cond.fieldLink RX2 71 "WagonClearing$Register" "written" "[I" ∈ wd := wdof (i := 132) (by decide +kernel) rfl
theorem wl133 : Cond.fieldLink RX6 25 "WagonClearing$Register" "junctions" "[I" ∈ wd := wdof (i := 133) (by decide +kernel) rfl
theorem wl134 : Cond.fieldLink RX2 94 "WagonClearing$Register" "junctions" "[I" ∈ wd := wdof (i := 134) (by decide +kernel) rfl
theorem wl135 : Cond.fieldLink RX6 28 "WagonClearing$Register" "days" "[I" ∈ wd := wdof (i := 135) (by decide +kernel) rfl
theorem wl136 : Cond.fieldLink RX0 61 "WagonClearing$Register" "days" "[I" ∈ wd := wdof (i := 136) (by decide +kernel) rfl
theorem wl137 : Cond.fieldLink RX2 103 "WagonClearing$Register" "days" "[I" ∈ wd := wdof (i := 137) (by decide +kernel) rfl
theorem wl138 : Cond.fieldLink RX6 31 "WagonClearing$Register" "companies" "[I" ∈ wd := wdof (i := 138) (by decide +kernel) rfl
theorem wl139 : Cond.fieldLink RX0 58 "WagonClearing$Register" "companies" "[I" ∈ wd := wdof (i := 139) (by decide +kernel) rfl
theorem wl140 : Cond.fieldLink RX6 34 "WagonClearing$Register" "sights" "I" ∈ wd := wdof (i := 140) (by decide +kernel) rfl
theorem wl141 : Cond.fieldLink RX0 52 "WagonClearing$Register" "sights" "I" ∈ wd := wdof (i := 141) (by decide +kernel) rfl
theorem wl142 : Cond.fieldLink RX2 61 "WagonClearing$Register" "sights" "I" ∈ wd := wdof (i := 142) (by decide +kernel) rfl
theorem wl143 : Cond.fieldLink RX7 111 "WagonClearing$Register" "sights" "I" ∈ wd := wdof (i := 143) (by decide +kernel) rfl
theorem wl161 : Cond.classLink RX7 32 RX2 ∈ wd := wdof (i := 161) (by decide +kernel) rfl
theorem wl162 : Cond.instantiable RX2 9 ∈ wd := wdof (i := 162) (by decide +kernel) rfl
theorem wl163 : Cond.methodLink RX7 34 yX2_init ∈ wd := wdof (i := 163) (by decide +kernel) rfl
theorem wl164 : Cond.instanceMethod yX2_init ∈ wd := wdof (i := 164) (by decide +kernel) rfl
theorem wl165 : Cond.code yX2_init cX2_init 3 none ∈ wd := wdof (i := 165) (by decide +kernel) rfl
theorem wl166 : Cond.methodLink RX2 3 objectInit ∈ wd := wdof (i := 166) (by decide +kernel) rfl
theorem wl167 : Cond.fieldLink RX2 35 "WagonClearing$Joining" "network" "LWagonClearing$Network;" ∈ wd := wdof (i := 167) (by decide +kernel) rfl
theorem wl168 : Cond.fieldLink RX2 39 "WagonClearing$Joining" "register" "LWagonClearing$Register;" ∈ wd := wdof (i := 168) (by decide +kernel) rfl
theorem wl169 : Cond.fieldLink RX2 9 "WagonClearing$Joining" "errors" "[I" ∈ wd := wdof (i := 169) (by decide +kernel) rfl
theorem wl170 : Cond.fieldLink RX2 15 "WagonClearing$Joining" "floors" "[I" ∈ wd := wdof (i := 170) (by decide +kernel) rfl
theorem wl171 : Cond.fieldLink RX2 18 "WagonClearing$Joining" "tried" "[I" ∈ wd := wdof (i := 171) (by decide +kernel) rfl
theorem wl172 : Cond.fieldLink RX2 21 "WagonClearing$Joining" "latest" "[I" ∈ wd := wdof (i := 172) (by decide +kernel) rfl
theorem wl173 : Cond.fieldLink RX2 24 "WagonClearing$Joining" "best" "[I" ∈ wd := wdof (i := 173) (by decide +kernel) rfl
theorem wl174 : Cond.fieldLink RX0 55 "WagonClearing$Joining" "best" "[I" ∈ wd := wdof (i := 174) (by decide +kernel) rfl
theorem wl175 : Cond.fieldLink RX2 27 "WagonClearing$Joining" "bestCost" "I" ∈ wd := wdof (i := 175) (by decide +kernel) rfl
theorem wl176 : Cond.fieldLink RX2 31 "WagonClearing$Joining" "known" "Z" ∈ wd := wdof (i := 176) (by decide +kernel) rfl
theorem wl196 : Cond.classLink RX7 41 RX0 ∈ wd := wdof (i := 196) (by decide +kernel) rfl
theorem wl197 : Cond.instantiable RX0 4 ∈ wd := wdof (i := 197) (by decide +kernel) rfl
theorem wl198 : Cond.methodLink RX7 43 yX0_init ∈ wd := wdof (i := 198) (by decide +kernel) rfl
theorem wl199 : Cond.instanceMethod yX0_init ∈ wd := wdof (i := 199) (by decide +kernel) rfl
theorem wl200 : Cond.code yX0_init cX0_init 3 none ∈ wd := wdof (i := 200) (by decide +kernel) rfl
theorem wl201 : Cond.methodLink RX0 3 objectInit ∈ wd := wdof (i := 201) (by decide +kernel) rfl
theorem wl202 : Cond.fieldLink RX0 18 "WagonClearing$Charging" "register" "LWagonClearing$Register;" ∈ wd := wdof (i := 202) (by decide +kernel) rfl
theorem wl203 : Cond.fieldLink RX0 22 "WagonClearing$Charging" "joining" "LWagonClearing$Joining;" ∈ wd := wdof (i := 203) (by decide +kernel) rfl
theorem wl204 : Cond.fieldLink RX0 9 "WagonClearing$Charging" "freeDays" "I" ∈ wd := wdof (i := 204) (by decide +kernel) rfl
theorem wl205 : Cond.fieldLink RX0 15 "WagonClearing$Charging" "dayPrice" "I" ∈ wd := wdof (i := 205) (by decide +kernel) rfl
theorem wl215 : Cond.classLink RX7 50 RX1 ∈ wd := wdof (i := 215) (by decide +kernel) rfl
theorem wl216 : Cond.instantiable RX1 3 ∈ wd := wdof (i := 216) (by decide +kernel) rfl
theorem wl218 : Cond.instanceMethod yX1_init ∈ wd := wdof (i := 218) (by decide +kernel) rfl
theorem wl219 : Cond.code yX1_init cX1_init 1 none ∈ wd := wdof (i := 219) (by decide +kernel) rfl
theorem wl220 : Cond.methodLink RX1 3 objectInit ∈ wd := wdof (i := 220) (by decide +kernel) rfl
theorem wl221 : Cond.fieldLink RX1 11 "WagonClearing$Grouping" "totals" "[I" ∈ wd := wdof (i := 221) (by decide +kernel) rfl
theorem wl222 : Cond.fieldLink RX1 15 "WagonClearing$Grouping" "most" "[I" ∈ wd := wdof (i := 222) (by decide +kernel) rfl
theorem wl223 : Cond.fieldLink RX1 18 "WagonClearing$Grouping" "members" "I" ∈ wd := wdof (i := 223) (by decide +kernel) rfl
theorem wl231 : Cond.classLink RX7 57 RX3 ∈ wd := wdof (i := 231) (by decide +kernel) rfl
theorem wl232 : Cond.instantiable RX3 10 ∈ wd := wdof (i := 232) (by decide +kernel) rfl
theorem wl233 : Cond.methodLink RX7 59 yX3_init ∈ wd := wdof (i := 233) (by decide +kernel) rfl
theorem wl234 : Cond.instanceMethod yX3_init ∈ wd := wdof (i := 234) (by decide +kernel) rfl
theorem wl235 : Cond.code yX3_init cX3_init 2 none ∈ wd := wdof (i := 235) (by decide +kernel) rfl
theorem wl236 : Cond.methodLink RX3 3 objectInit ∈ wd := wdof (i := 236) (by decide +kernel) rfl
theorem wl237 : Cond.fieldLink RX3 9 "WagonClearing$Leading" "there" "[I" ∈ wd := wdof (i := 237) (by decide +kernel) rfl
theorem wl238 : Cond.fieldLink RX7 162 "WagonClearing$Leading" "there" "[I" ∈ wd := wdof (i := 238) (by decide +kernel) rfl
theorem wl239 : Cond.fieldLink RX3 15 "WagonClearing$Leading" "wanted" "[I" ∈ wd := wdof (i := 239) (by decide +kernel) rfl
theorem wl240 : Cond.fieldLink RX7 169 "WagonClearing$Leading" "wanted" "[I" ∈ wd := wdof (i := 240) (by decide +kernel) rfl
theorem wl241 : Cond.fieldLink RX3 18 "WagonClearing$Leading" "wantsMet" "I" ∈ wd := wdof (i := 241) (by decide +kernel) rfl
theorem wl242 : Cond.fieldLink RX7 150 "WagonClearing$Leading" "wantsMet" "I" ∈ wd := wdof (i := 242) (by decide +kernel) rfl
theorem wl243 : Cond.fieldLink RX3 22 "WagonClearing$Leading" "milesLed" "I" ∈ wd := wdof (i := 243) (by decide +kernel) rfl
theorem wl244 : Cond.fieldLink RX7 153 "WagonClearing$Leading" "milesLed" "I" ∈ wd := wdof (i := 244) (by decide +kernel) rfl
theorem wl245 : Cond.fieldLink RX3 41 "WagonClearing$Leading" "network" "LWagonClearing$Network;" ∈ wd := wdof (i := 245) (by decide +kernel) rfl
theorem wl246 : Cond.fieldLink RX3 25 "WagonClearing$Leading" "spare" "[I" ∈ wd := wdof (i := 246) (by decide +kernel) rfl
theorem wl247 : Cond.fieldLink RX3 28 "WagonClearing$Leading" "moved" "[I" ∈ wd := wdof (i := 247) (by decide +kernel) rfl
theorem wl248 : Cond.fieldLink RX3 31 "WagonClearing$Leading" "reach" "[I" ∈ wd := wdof (i := 248) (by decide +kernel) rfl
theorem wl249 : Cond.fieldLink RX3 34 "WagonClearing$Leading" "before" "[I" ∈ wd := wdof (i := 249) (by decide +kernel) rfl
theorem wl250 : Cond.fieldLink RX3 37 "WagonClearing$Leading" "known" "Z" ∈ wd := wdof (i := 250) (by decide +kernel) rfl
theorem wl272 : Cond.fieldLink RX7 10 "WagonClearing" "network" "LWagonClearing$Network;" ∈ wd := wdof (i := 272) (by decide +kernel) rfl
theorem wl273 : Cond.fieldLink RX7 21 "WagonClearing" "parting" "LWagonClearing$Parting;" ∈ wd := wdof (i := 273) (by decide +kernel) rfl
theorem wl274 : Cond.fieldLink RX7 28 "WagonClearing" "register" "LWagonClearing$Register;" ∈ wd := wdof (i := 274) (by decide +kernel) rfl
theorem wl275 : Cond.fieldLink RX7 37 "WagonClearing" "joining" "LWagonClearing$Joining;" ∈ wd := wdof (i := 275) (by decide +kernel) rfl
theorem wl276 : Cond.fieldLink RX7 46 "WagonClearing" "charging" "LWagonClearing$Charging;" ∈ wd := wdof (i := 276) (by decide +kernel) rfl
theorem wl277 : Cond.fieldLink RX7 53 "WagonClearing" "grouping" "LWagonClearing$Grouping;" ∈ wd := wdof (i := 277) (by decide +kernel) rfl
theorem wl278 : Cond.fieldLink RX7 60 "WagonClearing" "leading" "LWagonClearing$Leading;" ∈ wd := wdof (i := 278) (by decide +kernel) rfl
theorem wl279 : Cond.fieldLink RX7 64 "WagonClearing" "booked" "[I" ∈ wd := wdof (i := 279) (by decide +kernel) rfl
theorem wl280 : Cond.fieldLink RX7 68 "WagonClearing" "balances" "[I" ∈ wd := wdof (i := 280) (by decide +kernel) rfl
theorem wl281 : Cond.fieldLink RX7 71 "WagonClearing" "sums" "I" ∈ wd := wdof (i := 281) (by decide +kernel) rfl
theorem wl303 : Cond.methodLink RL 13 yX7_line ∈ wd := wdof (i := 303) (by decide +kernel) rfl
theorem wl304 : Cond.instanceMethod yX7_line ∈ wd := wdof (i := 304) (by decide +kernel) rfl
theorem wl305 : Cond.selects RX7 yX7_line yX7_line ∈ wd := wdof (i := 305) (by decide +kernel) rfl
theorem wl306 : Cond.code yX7_line cX7_line 6 (some .int) ∈ wd := wdof (i := 306) (by decide +kernel) rfl
theorem wl307 : Cond.methodLink RX7 75 yX4_addLine ∈ wd := wdof (i := 307) (by decide +kernel) rfl
theorem wl308 : Cond.instanceMethod yX4_addLine ∈ wd := wdof (i := 308) (by decide +kernel) rfl
theorem wl309 : Cond.selects RX4 yX4_addLine yX4_addLine ∈ wd := wdof (i := 309) (by decide +kernel) rfl
theorem wl310 : Cond.code yX4_addLine cX4_addLine 5 (some .int) ∈ wd := wdof (i := 310) (by decide +kernel) rfl
theorem wl312 : Cond.static yX7_isJunction ∈ wd := wdof (i := 312) (by decide +kernel) rfl
theorem wl313 : Cond.code yX7_isJunction cX7_isJunction 1 (some .boolean) ∈ wd := wdof (i := 313) (by decide +kernel) rfl
theorem wl315 : Cond.static yX7_isCompany ∈ wd := wdof (i := 315) (by decide +kernel) rfl
theorem wl316 : Cond.code yX7_isCompany cX7_isCompany 1 (some .boolean) ∈ wd := wdof (i := 316) (by decide +kernel) rfl
theorem wl318 : Cond.static yX7_isWithin ∈ wd := wdof (i := 318) (by decide +kernel) rfl
theorem wl319 : Cond.code yX7_isWithin cX7_isWithin 3 (some .boolean) ∈ wd := wdof (i := 319) (by decide +kernel) rfl
theorem wl320 : Cond.methodLink RX4 49 yX4_shorten ∈ wd := wdof (i := 320) (by decide +kernel) rfl
theorem wl322 : Cond.instanceMethod yX4_shorten ∈ wd := wdof (i := 322) (by decide +kernel) rfl
theorem wl323 : Cond.code yX4_shorten cX4_shorten 8 none ∈ wd := wdof (i := 323) (by decide +kernel) rfl
theorem wl324 : Cond.methodLink RX4 53 yJ9_min_7cf53 ∈ wd := wdof (i := 324) (by decide +kernel) rfl
theorem wl325 : Cond.static yJ9_min_7cf53 ∈ wd := wdof (i := 325) (by decide +kernel) rfl
theorem wl326 : Cond.code yJ9_min_7cf53 cJ9_min_7cf53 2 (some .int) ∈ wd := wdof (i := 326) (by decide +kernel) rfl
theorem wl327 : Cond.methodLink RX7 79 yX2_forget ∈ wd := wdof (i := 327) (by decide +kernel) rfl
theorem wl328 : Cond.instanceMethod yX2_forget ∈ wd := wdof (i := 328) (by decide +kernel) rfl
theorem wl329 : Cond.selects RX2 yX2_forget yX2_forget ∈ wd := wdof (i := 329) (by decide +kernel) rfl
theorem wl330 : Cond.code yX2_forget cX2_forget 1 none ∈ wd := wdof (i := 330) (by decide +kernel) rfl
theorem wl331 : Cond.methodLink RX7 82 yX3_forget ∈ wd := wdof (i := 331) (by decide +kernel) rfl
theorem wl332 : Cond.instanceMethod yX3_forget ∈ wd := wdof (i := 332) (by decide +kernel) rfl
theorem wl333 : Cond.selects RX3 yX3_forget yX3_forget ∈ wd := wdof (i := 333) (by decide +kernel) rfl
theorem wl334 : Cond.code yX3_forget cX3_forget 1 none ∈ wd := wdof (i := 334) (by decide +kernel) rfl
theorem wl335 : Cond.methodLink RL 18 yX7_least ∈ wd := wdof (i := 335) (by decide +kernel) rfl
theorem wl336 : Cond.instanceMethod yX7_least ∈ wd := wdof (i := 336) (by decide +kernel) rfl
theorem wl337 : Cond.selects RX7 yX7_least yX7_least ∈ wd := wdof (i := 337) (by decide +kernel) rfl
theorem wl338 : Cond.code yX7_least cX7_least 3 (some .int) ∈ wd := wdof (i := 338) (by decide +kernel) rfl
theorem wl339 : Cond.methodLink RX7 83 yX4_milesBetween ∈ wd := wdof (i := 339) (by decide +kernel) rfl
theorem wl340 : Cond.instanceMethod yX4_milesBetween ∈ wd := wdof (i := 340) (by decide +kernel) rfl
theorem wl341 : Cond.selects RX4 yX4_milesBetween yX4_milesBetween ∈ wd := wdof (i := 341) (by decide +kernel) rfl
theorem wl342 : Cond.code yX4_milesBetween cX4_milesBetween 4 (some .int) ∈ wd := wdof (i := 342) (by decide +kernel) rfl
theorem wl343 : Cond.methodLink RL 23 yX7_route ∈ wd := wdof (i := 343) (by decide +kernel) rfl
theorem wl344 : Cond.instanceMethod yX7_route ∈ wd := wdof (i := 344) (by decide +kernel) rfl
theorem wl345 : Cond.selects RX7 yX7_route yX7_route ∈ wd := wdof (i := 345) (by decide +kernel) rfl
theorem wl346 : Cond.code yX7_route cX7_route 3 (some .int) ∈ wd := wdof (i := 346) (by decide +kernel) rfl
theorem wl347 : Cond.methodLink RX7 87 yX4_lineTowards ∈ wd := wdof (i := 347) (by decide +kernel) rfl
theorem wl348 : Cond.instanceMethod yX4_lineTowards ∈ wd := wdof (i := 348) (by decide +kernel) rfl
theorem wl349 : Cond.selects RX4 yX4_lineTowards yX4_lineTowards ∈ wd := wdof (i := 349) (by decide +kernel) rfl
theorem wl350 : Cond.code yX4_lineTowards cX4_lineTowards 8 (some .int) ∈ wd := wdof (i := 350) (by decide +kernel) rfl
theorem wl351 : Cond.methodLink RX4 59 yX4_milesBetween ∈ wd := wdof (i := 351) (by decide +kernel) rfl
theorem wl352 : Cond.methodLink RX4 62 yX4_farEnd ∈ wd := wdof (i := 352) (by decide +kernel) rfl
theorem wl353 : Cond.instanceMethod yX4_farEnd ∈ wd := wdof (i := 353) (by decide +kernel) rfl
theorem wl354 : Cond.selects RX4 yX4_farEnd yX4_farEnd ∈ wd := wdof (i := 354) (by decide +kernel) rfl
theorem wl355 : Cond.code yX4_farEnd cX4_farEnd 3 (some .int) ∈ wd := wdof (i := 355) (by decide +kernel) rfl
theorem wl356 : Cond.methodLink RL 27 yX7_part ∈ wd := wdof (i := 356) (by decide +kernel) rfl
theorem wl357 : Cond.instanceMethod yX7_part ∈ wd := wdof (i := 357) (by decide +kernel) rfl
theorem wl358 : Cond.selects RX7 yX7_part yX7_part ∈ wd := wdof (i := 358) (by decide +kernel) rfl
theorem wl359 : Cond.code yX7_part cX7_part 5 (some .int) ∈ wd := wdof (i := 359) (by decide +kernel) rfl
theorem wl360 : Cond.methodLink RX7 90 yX7_isCompany ∈ wd := wdof (i := 360) (by decide +kernel) rfl
theorem wl361 : Cond.methodLink RX7 94 yX5_divide ∈ wd := wdof (i := 361) (by decide +kernel) rfl
theorem wl362 : Cond.instanceMethod yX5_divide ∈ wd := wdof (i := 362) (by decide +kernel) rfl
theorem wl363 : Cond.selects RX5 yX5_divide yX5_divide ∈ wd := wdof (i := 363) (by decide +kernel) rfl
theorem wl364 : Cond.code yX5_divide cX5_divide 5 (some .boolean) ∈ wd := wdof (i := 364) (by decide +kernel) rfl
theorem wl365 : Cond.constant RX5 32 (1000000) ∈ wd := wdof (i := 365) (by decide +kernel) rfl
theorem wl367 : Cond.methodLink RX5 37 yX5_travel ∈ wd := wdof (i := 367) (by decide +kernel) rfl
theorem wl369 : Cond.instanceMethod yX5_travel ∈ wd := wdof (i := 369) (by decide +kernel) rfl
theorem wl370 : Cond.code yX5_travel cX5_travel 6 (some .boolean) ∈ wd := wdof (i := 370) (by decide +kernel) rfl
theorem wl371 : Cond.methodLink RX5 45 yJ7_fill_53178 ∈ wd := wdof (i := 371) (by decide +kernel) rfl
theorem wl372 : Cond.methodLink RX5 51 yX4_lineTowards ∈ wd := wdof (i := 372) (by decide +kernel) rfl
theorem wl373 : Cond.methodLink RX5 63 yX4_farEnd ∈ wd := wdof (i := 373) (by decide +kernel) rfl
theorem wl375 : Cond.methodLink RX5 41 yX5_divideByMiles ∈ wd := wdof (i := 375) (by decide +kernel) rfl
theorem wl377 : Cond.instanceMethod yX5_divideByMiles ∈ wd := wdof (i := 377) (by decide +kernel) rfl
theorem wl378 : Cond.code yX5_divideByMiles cX5_divideByMiles 7 (some .boolean) ∈ wd := wdof (i := 378) (by decide +kernel) rfl
theorem wl380 : Cond.static yX7_sumOf ∈ wd := wdof (i := 380) (by decide +kernel) rfl
theorem wl381 : Cond.code yX7_sumOf cX7_sumOf 3 (some .int) ∈ wd := wdof (i := 381) (by decide +kernel) rfl
theorem wl382 : Cond.methodLink RX5 73 yX5_giveOneMore ∈ wd := wdof (i := 382) (by decide +kernel) rfl
theorem wl384 : Cond.instanceMethod yX5_giveOneMore ∈ wd := wdof (i := 384) (by decide +kernel) rfl
theorem wl385 : Cond.code yX5_giveOneMore cX5_giveOneMore 3 none ∈ wd := wdof (i := 385) (by decide +kernel) rfl
theorem wl386 : Cond.methodLink RL 31 yX7_book ∈ wd := wdof (i := 386) (by decide +kernel) rfl
theorem wl387 : Cond.instanceMethod yX7_book ∈ wd := wdof (i := 387) (by decide +kernel) rfl
theorem wl388 : Cond.selects RX7 yX7_book yX7_book ∈ wd := wdof (i := 388) (by decide +kernel) rfl
theorem wl389 : Cond.code yX7_book cX7_book 6 (some .boolean) ∈ wd := wdof (i := 389) (by decide +kernel) rfl
theorem wl390 : Cond.methodLink RL 36 yX7_wagon ∈ wd := wdof (i := 390) (by decide +kernel) rfl
theorem wl391 : Cond.instanceMethod yX7_wagon ∈ wd := wdof (i := 391) (by decide +kernel) rfl
theorem wl392 : Cond.selects RX7 yX7_wagon yX7_wagon ∈ wd := wdof (i := 392) (by decide +kernel) rfl
theorem wl393 : Cond.code yX7_wagon cX7_wagon 4 (some .int) ∈ wd := wdof (i := 393) (by decide +kernel) rfl
theorem wl394 : Cond.methodLink RX7 101 yX6_addWagon ∈ wd := wdof (i := 394) (by decide +kernel) rfl
theorem wl395 : Cond.instanceMethod yX6_addWagon ∈ wd := wdof (i := 395) (by decide +kernel) rfl
theorem wl396 : Cond.selects RX6 yX6_addWagon yX6_addWagon ∈ wd := wdof (i := 396) (by decide +kernel) rfl
theorem wl397 : Cond.code yX6_addWagon cX6_addWagon 4 (some .int) ∈ wd := wdof (i := 397) (by decide +kernel) rfl
theorem wl399 : Cond.static yX7_isMark ∈ wd := wdof (i := 399) (by decide +kernel) rfl
theorem wl400 : Cond.code yX7_isMark cX7_isMark 1 (some .boolean) ∈ wd := wdof (i := 400) (by decide +kernel) rfl
theorem wl401 : Cond.constant RX7 178 (99999) ∈ wd := wdof (i := 401) (by decide +kernel) rfl
theorem wl402 : Cond.methodLink RX7 179 yX7_isWithin ∈ wd := wdof (i := 402) (by decide +kernel) rfl
theorem wl404 : Cond.methodLink RL 40 yX7_see ∈ wd := wdof (i := 404) (by decide +kernel) rfl
theorem wl405 : Cond.instanceMethod yX7_see ∈ wd := wdof (i := 405) (by decide +kernel) rfl
theorem wl406 : Cond.selects RX7 yX7_see yX7_see ∈ wd := wdof (i := 406) (by decide +kernel) rfl
theorem wl407 : Cond.code yX7_see cX7_see 6 (some .int) ∈ wd := wdof (i := 407) (by decide +kernel) rfl
theorem wl408 : Cond.methodLink RX7 104 yX6_addSight ∈ wd := wdof (i := 408) (by decide +kernel) rfl
theorem wl409 : Cond.instanceMethod yX6_addSight ∈ wd := wdof (i := 409) (by decide +kernel) rfl
theorem wl410 : Cond.selects RX6 yX6_addSight yX6_addSight ∈ wd := wdof (i := 410) (by decide +kernel) rfl
theorem wl411 : Cond.code yX6_addSight cX6_addSight 5 (some .int) ∈ wd := wdof (i := 411) (by decide +kernel) rfl
theorem wl414 : Cond.methodLink RL 44 yX7_close ∈ wd := wdof (i := 414) (by decide +kernel) rfl
theorem wl415 : Cond.instanceMethod yX7_close ∈ wd := wdof (i := 415) (by decide +kernel) rfl
theorem wl416 : Cond.selects RX7 yX7_close yX7_close ∈ wd := wdof (i := 416) (by decide +kernel) rfl
theorem wl417 : Cond.code yX7_close cX7_close 2 (some .int) ∈ wd := wdof (i := 417) (by decide +kernel) rfl
theorem wl418 : Cond.methodLink RX7 107 yX0_addCharges ∈ wd := wdof (i := 418) (by decide +kernel) rfl
theorem wl419 : Cond.instanceMethod yX0_addCharges ∈ wd := wdof (i := 419) (by decide +kernel) rfl
theorem wl420 : Cond.selects RX0 yX0_addCharges yX0_addCharges ∈ wd := wdof (i := 420) (by decide +kernel) rfl
theorem wl421 : Cond.code yX0_addCharges cX0_addCharges 5 none ∈ wd := wdof (i := 421) (by decide +kernel) rfl
theorem wl422 : Cond.methodLink RX0 39 yX2_solve ∈ wd := wdof (i := 422) (by decide +kernel) rfl
theorem wl423 : Cond.instanceMethod yX2_solve ∈ wd := wdof (i := 423) (by decide +kernel) rfl
theorem wl424 : Cond.selects RX2 yX2_solve yX2_solve ∈ wd := wdof (i := 424) (by decide +kernel) rfl
theorem wl425 : Cond.code yX2_solve cX2_solve 1 none ∈ wd := wdof (i := 425) (by decide +kernel) rfl
theorem wl426 : Cond.methodLink RX2 52 yX2_measureErrors ∈ wd := wdof (i := 426) (by decide +kernel) rfl
theorem wl428 : Cond.instanceMethod yX2_measureErrors ∈ wd := wdof (i := 428) (by decide +kernel) rfl
theorem wl429 : Cond.code yX2_measureErrors cX2_measureErrors 5 none ∈ wd := wdof (i := 429) (by decide +kernel) rfl
theorem wl430 : Cond.methodLink RX2 77 yX6_difference ∈ wd := wdof (i := 430) (by decide +kernel) rfl
theorem wl431 : Cond.static yX6_difference ∈ wd := wdof (i := 431) (by decide +kernel) rfl
theorem wl432 : Cond.code yX6_difference cX6_difference 11 (some .int) ∈ wd := wdof (i := 432) (by decide +kernel) rfl
theorem wl433 : Cond.methodLink RX2 81 yJ9_min_7cf53 ∈ wd := wdof (i := 433) (by decide +kernel) rfl
theorem wl434 : Cond.methodLink RX2 55 yJ7_fill_53178 ∈ wd := wdof (i := 434) (by decide +kernel) rfl
theorem wl435 : Cond.methodLink RX2 64 yX2_searchFrom ∈ wd := wdof (i := 435) (by decide +kernel) rfl
theorem wl436 : Cond.static yX2_searchFrom ∈ wd := wdof (i := 436) (by decide +kernel) rfl
theorem wl437 : Cond.code yX2_searchFrom cX2_searchFrom 6 none ∈ wd := wdof (i := 437) (by decide +kernel) rfl
theorem wl438 : Cond.methodLink RX2 86 yX2_keep ∈ wd := wdof (i := 438) (by decide +kernel) rfl
theorem wl440 : Cond.instanceMethod yX2_keep ∈ wd := wdof (i := 440) (by decide +kernel) rfl
theorem wl441 : Cond.code yX2_keep cX2_keep 2 none ∈ wd := wdof (i := 441) (by decide +kernel) rfl
theorem wl442 : Cond.methodLink RX2 106 arraycopyName ∈ wd := wdof (i := 442) (by decide +kernel) rfl
theorem wl443 : Cond.static arraycopyName ∈ wd := wdof (i := 443) (by decide +kernel) rfl
theorem wl444 : Cond.native arraycopyName ∈ wd := wdof (i := 444) (by decide +kernel) rfl
theorem wl445 : Cond.methodLink RX2 90 yX2_isInTime ∈ wd := wdof (i := 445) (by decide +kernel) rfl
theorem wl447 : Cond.instanceMethod yX2_isInTime ∈ wd := wdof (i := 447) (by decide +kernel) rfl
theorem wl448 : Cond.code yX2_isInTime cX2_isInTime 6 (some .boolean) ∈ wd := wdof (i := 448) (by decide +kernel) rfl
theorem wl449 : Cond.constant RX2 102 (1000000) ∈ wd := wdof (i := 449) (by decide +kernel) rfl
theorem wl450 : Cond.methodLink RX0 44 yX0_owedAsJoined ∈ wd := wdof (i := 450) (by decide +kernel) rfl
theorem wl452 : Cond.instanceMethod yX0_owedAsJoined ∈ wd := wdof (i := 452) (by decide +kernel) rfl
theorem wl453 : Cond.code yX0_owedAsJoined cX0_owedAsJoined 6 (some .int) ∈ wd := wdof (i := 453) (by decide +kernel) rfl
theorem wl454 : Cond.methodLink RX0 64 yX0_priceOf ∈ wd := wdof (i := 454) (by decide +kernel) rfl
theorem wl456 : Cond.instanceMethod yX0_priceOf ∈ wd := wdof (i := 456) (by decide +kernel) rfl
theorem wl457 : Cond.code yX0_priceOf cX0_priceOf 2 (some .int) ∈ wd := wdof (i := 457) (by decide +kernel) rfl
theorem wl458 : Cond.methodLink RX0 68 yJ9_max_7cf53 ∈ wd := wdof (i := 458) (by decide +kernel) rfl
theorem wl459 : Cond.static yJ9_max_7cf53 ∈ wd := wdof (i := 459) (by decide +kernel) rfl
theorem wl460 : Cond.code yJ9_max_7cf53 cJ9_max_7cf53 2 (some .int) ∈ wd := wdof (i := 460) (by decide +kernel) rfl
theorem wl461 : Cond.methodLink RL 49 yX7_error ∈ wd := wdof (i := 461) (by decide +kernel) rfl
theorem wl462 : Cond.instanceMethod yX7_error ∈ wd := wdof (i := 462) (by decide +kernel) rfl
theorem wl463 : Cond.selects RX7 yX7_error yX7_error ∈ wd := wdof (i := 463) (by decide +kernel) rfl
theorem wl464 : Cond.code yX7_error cX7_error 3 (some .int) ∈ wd := wdof (i := 464) (by decide +kernel) rfl
theorem wl465 : Cond.methodLink RX7 114 yX6_errorOf ∈ wd := wdof (i := 465) (by decide +kernel) rfl
theorem wl466 : Cond.instanceMethod yX6_errorOf ∈ wd := wdof (i := 466) (by decide +kernel) rfl
theorem wl467 : Cond.selects RX6 yX6_errorOf yX6_errorOf ∈ wd := wdof (i := 467) (by decide +kernel) rfl
theorem wl468 : Cond.code yX6_errorOf cX6_errorOf 3 (some .int) ∈ wd := wdof (i := 468) (by decide +kernel) rfl
theorem wl469 : Cond.methodLink RX6 51 yX6_hasSight ∈ wd := wdof (i := 469) (by decide +kernel) rfl
theorem wl470 : Cond.instanceMethod yX6_hasSight ∈ wd := wdof (i := 470) (by decide +kernel) rfl
theorem wl471 : Cond.selects RX6 yX6_hasSight yX6_hasSight ∈ wd := wdof (i := 471) (by decide +kernel) rfl
theorem wl472 : Cond.code yX6_hasSight cX6_hasSight 2 (some .boolean) ∈ wd := wdof (i := 472) (by decide +kernel) rfl
theorem wl473 : Cond.methodLink RX6 54 yX6_hasWagon ∈ wd := wdof (i := 473) (by decide +kernel) rfl
theorem wl474 : Cond.instanceMethod yX6_hasWagon ∈ wd := wdof (i := 474) (by decide +kernel) rfl
theorem wl475 : Cond.selects RX6 yX6_hasWagon yX6_hasWagon ∈ wd := wdof (i := 475) (by decide +kernel) rfl
theorem wl476 : Cond.code yX6_hasWagon cX6_hasWagon 2 (some .boolean) ∈ wd := wdof (i := 476) (by decide +kernel) rfl
theorem wl477 : Cond.methodLink RX6 57 yX6_difference ∈ wd := wdof (i := 477) (by decide +kernel) rfl
theorem wl478 : Cond.methodLink RL 53 yX7_whose ∈ wd := wdof (i := 478) (by decide +kernel) rfl
theorem wl479 : Cond.instanceMethod yX7_whose ∈ wd := wdof (i := 479) (by decide +kernel) rfl
theorem wl480 : Cond.selects RX7 yX7_whose yX7_whose ∈ wd := wdof (i := 480) (by decide +kernel) rfl
theorem wl481 : Cond.code yX7_whose cX7_whose 2 (some .int) ∈ wd := wdof (i := 481) (by decide +kernel) rfl
theorem wl482 : Cond.methodLink RX7 117 yX2_wagonOf ∈ wd := wdof (i := 482) (by decide +kernel) rfl
theorem wl483 : Cond.instanceMethod yX2_wagonOf ∈ wd := wdof (i := 483) (by decide +kernel) rfl
theorem wl484 : Cond.selects RX2 yX2_wagonOf yX2_wagonOf ∈ wd := wdof (i := 484) (by decide +kernel) rfl
theorem wl485 : Cond.code yX2_wagonOf cX2_wagonOf 2 (some .int) ∈ wd := wdof (i := 485) (by decide +kernel) rfl
theorem wl486 : Cond.methodLink RX2 43 yX6_hasSight ∈ wd := wdof (i := 486) (by decide +kernel) rfl
theorem wl487 : Cond.methodLink RX2 49 yX2_solve ∈ wd := wdof (i := 487) (by decide +kernel) rfl
theorem wl488 : Cond.methodLink RL 58 yX7_cost ∈ wd := wdof (i := 488) (by decide +kernel) rfl
theorem wl489 : Cond.instanceMethod yX7_cost ∈ wd := wdof (i := 489) (by decide +kernel) rfl
theorem wl490 : Cond.selects RX7 yX7_cost yX7_cost ∈ wd := wdof (i := 490) (by decide +kernel) rfl
theorem wl491 : Cond.code yX7_cost cX7_cost 1 (some .int) ∈ wd := wdof (i := 491) (by decide +kernel) rfl
theorem wl492 : Cond.methodLink RX7 121 yX2_lowestCost ∈ wd := wdof (i := 492) (by decide +kernel) rfl
theorem wl493 : Cond.instanceMethod yX2_lowestCost ∈ wd := wdof (i := 493) (by decide +kernel) rfl
theorem wl494 : Cond.selects RX2 yX2_lowestCost yX2_lowestCost ∈ wd := wdof (i := 494) (by decide +kernel) rfl
theorem wl495 : Cond.code yX2_lowestCost cX2_lowestCost 1 (some .int) ∈ wd := wdof (i := 495) (by decide +kernel) rfl
theorem wl496 : Cond.methodLink RL 62 yX7_terms ∈ wd := wdof (i := 496) (by decide +kernel) rfl
theorem wl497 : Cond.instanceMethod yX7_terms ∈ wd := wdof (i := 497) (by decide +kernel) rfl
theorem wl498 : Cond.selects RX7 yX7_terms yX7_terms ∈ wd := wdof (i := 498) (by decide +kernel) rfl
theorem wl499 : Cond.code yX7_terms cX7_terms 3 (some .boolean) ∈ wd := wdof (i := 499) (by decide +kernel) rfl
theorem wl500 : Cond.methodLink RX7 125 yX0_agree ∈ wd := wdof (i := 500) (by decide +kernel) rfl
theorem wl501 : Cond.instanceMethod yX0_agree ∈ wd := wdof (i := 501) (by decide +kernel) rfl
theorem wl502 : Cond.selects RX0 yX0_agree yX0_agree ∈ wd := wdof (i := 502) (by decide +kernel) rfl
theorem wl503 : Cond.code yX0_agree cX0_agree 3 (some .boolean) ∈ wd := wdof (i := 503) (by decide +kernel) rfl
theorem wl505 : Cond.methodLink RL 67 yX7_charge ∈ wd := wdof (i := 505) (by decide +kernel) rfl
theorem wl506 : Cond.instanceMethod yX7_charge ∈ wd := wdof (i := 506) (by decide +kernel) rfl
theorem wl507 : Cond.selects RX7 yX7_charge yX7_charge ∈ wd := wdof (i := 507) (by decide +kernel) rfl
theorem wl508 : Cond.code yX7_charge cX7_charge 3 (some .int) ∈ wd := wdof (i := 508) (by decide +kernel) rfl
theorem wl509 : Cond.methodLink RX7 129 yX0_owed ∈ wd := wdof (i := 509) (by decide +kernel) rfl
theorem wl510 : Cond.instanceMethod yX0_owed ∈ wd := wdof (i := 510) (by decide +kernel) rfl
theorem wl511 : Cond.selects RX0 yX0_owed yX0_owed ∈ wd := wdof (i := 511) (by decide +kernel) rfl
theorem wl512 : Cond.code yX0_owed cX0_owed 3 (some .int) ∈ wd := wdof (i := 512) (by decide +kernel) rfl
theorem wl513 : Cond.methodLink RX0 30 yX6_hasWagon ∈ wd := wdof (i := 513) (by decide +kernel) rfl
theorem wl515 : Cond.methodLink RL 71 yX7_balance ∈ wd := wdof (i := 515) (by decide +kernel) rfl
theorem wl516 : Cond.instanceMethod yX7_balance ∈ wd := wdof (i := 516) (by decide +kernel) rfl
theorem wl517 : Cond.selects RX7 yX7_balance yX7_balance ∈ wd := wdof (i := 517) (by decide +kernel) rfl
theorem wl518 : Cond.code yX7_balance cX7_balance 2 (some .int) ∈ wd := wdof (i := 518) (by decide +kernel) rfl
theorem wl519 : Cond.methodLink RX7 132 yX7_strikeBalances ∈ wd := wdof (i := 519) (by decide +kernel) rfl
theorem wl521 : Cond.instanceMethod yX7_strikeBalances ∈ wd := wdof (i := 521) (by decide +kernel) rfl
theorem wl522 : Cond.code yX7_strikeBalances cX7_strikeBalances 1 none ∈ wd := wdof (i := 522) (by decide +kernel) rfl
theorem wl523 : Cond.methodLink RX7 172 arraycopyName ∈ wd := wdof (i := 523) (by decide +kernel) rfl
theorem wl524 : Cond.methodLink RL 75 yX7_fewest ∈ wd := wdof (i := 524) (by decide +kernel) rfl
theorem wl525 : Cond.instanceMethod yX7_fewest ∈ wd := wdof (i := 525) (by decide +kernel) rfl
theorem wl526 : Cond.selects RX7 yX7_fewest yX7_fewest ∈ wd := wdof (i := 526) (by decide +kernel) rfl
theorem wl527 : Cond.code yX7_fewest cX7_fewest 1 (some .int) ∈ wd := wdof (i := 527) (by decide +kernel) rfl
theorem wl528 : Cond.methodLink RX7 135 yX1_weigh ∈ wd := wdof (i := 528) (by decide +kernel) rfl
theorem wl529 : Cond.instanceMethod yX1_weigh ∈ wd := wdof (i := 529) (by decide +kernel) rfl
theorem wl530 : Cond.selects RX1 yX1_weigh yX1_weigh ∈ wd := wdof (i := 530) (by decide +kernel) rfl
theorem wl531 : Cond.code yX1_weigh cX1_weigh 3 none ∈ wd := wdof (i := 531) (by decide +kernel) rfl
theorem wl532 : Cond.methodLink RX1 22 yX1_weighSet ∈ wd := wdof (i := 532) (by decide +kernel) rfl
theorem wl534 : Cond.instanceMethod yX1_weighSet ∈ wd := wdof (i := 534) (by decide +kernel) rfl
theorem wl535 : Cond.code yX1_weighSet cX1_weighSet 7 none ∈ wd := wdof (i := 535) (by decide +kernel) rfl
theorem wl536 : Cond.methodLink RX1 26 yJ9_max_7cf53 ∈ wd := wdof (i := 536) (by decide +kernel) rfl
theorem wl537 : Cond.methodLink RX7 138 yX1_payments ∈ wd := wdof (i := 537) (by decide +kernel) rfl
theorem wl538 : Cond.instanceMethod yX1_payments ∈ wd := wdof (i := 538) (by decide +kernel) rfl
theorem wl539 : Cond.selects RX1 yX1_payments yX1_payments ∈ wd := wdof (i := 539) (by decide +kernel) rfl
theorem wl540 : Cond.code yX1_payments cX1_payments 1 (some .int) ∈ wd := wdof (i := 540) (by decide +kernel) rfl
theorem wl541 : Cond.methodLink RX1 32 yJ6_bitCount_0f7a4 ∈ wd := wdof (i := 541) (by decide +kernel) rfl
theorem wl542 : Cond.static yJ6_bitCount_0f7a4 ∈ wd := wdof (i := 542) (by decide +kernel) rfl
theorem wl543 : Cond.code yJ6_bitCount_0f7a4 cJ6_bitCount_0f7a4 1 (some .int) ∈ wd := wdof (i := 543) (by decide +kernel) rfl
theorem wl544 : Cond.constant RJ6 265 (1431655765) ∈ wd := wdof (i := 544) (by decide +kernel) rfl
theorem wl545 : Cond.constant RJ6 266 (858993459) ∈ wd := wdof (i := 545) (by decide +kernel) rfl
theorem wl546 : Cond.constant RJ6 267 (252645135) ∈ wd := wdof (i := 546) (by decide +kernel) rfl
theorem wl547 : Cond.methodLink RL 79 yX7_group ∈ wd := wdof (i := 547) (by decide +kernel) rfl
theorem wl548 : Cond.instanceMethod yX7_group ∈ wd := wdof (i := 548) (by decide +kernel) rfl
theorem wl549 : Cond.selects RX7 yX7_group yX7_group ∈ wd := wdof (i := 549) (by decide +kernel) rfl
theorem wl550 : Cond.code yX7_group cX7_group 2 (some .int) ∈ wd := wdof (i := 550) (by decide +kernel) rfl
theorem wl551 : Cond.methodLink RX7 141 yX1_groupWith ∈ wd := wdof (i := 551) (by decide +kernel) rfl
theorem wl552 : Cond.instanceMethod yX1_groupWith ∈ wd := wdof (i := 552) (by decide +kernel) rfl
theorem wl553 : Cond.selects RX1 yX1_groupWith yX1_groupWith ∈ wd := wdof (i := 553) (by decide +kernel) rfl
theorem wl554 : Cond.code yX1_groupWith cX1_groupWith 6 (some .int) ∈ wd := wdof (i := 554) (by decide +kernel) rfl
theorem wl555 : Cond.methodLink RX1 38 yX1_firstGroup ∈ wd := wdof (i := 555) (by decide +kernel) rfl
theorem wl557 : Cond.instanceMethod yX1_firstGroup ∈ wd := wdof (i := 557) (by decide +kernel) rfl
theorem wl558 : Cond.code yX1_firstGroup cX1_firstGroup 5 (some .int) ∈ wd := wdof (i := 558) (by decide +kernel) rfl
theorem wl559 : Cond.methodLink RL 83 yX7_empties ∈ wd := wdof (i := 559) (by decide +kernel) rfl
theorem wl560 : Cond.instanceMethod yX7_empties ∈ wd := wdof (i := 560) (by decide +kernel) rfl
theorem wl561 : Cond.selects RX7 yX7_empties yX7_empties ∈ wd := wdof (i := 561) (by decide +kernel) rfl
theorem wl562 : Cond.code yX7_empties cX7_empties 4 (some .boolean) ∈ wd := wdof (i := 562) (by decide +kernel) rfl
theorem wl563 : Cond.methodLink RX7 144 yX3_place ∈ wd := wdof (i := 563) (by decide +kernel) rfl
theorem wl564 : Cond.instanceMethod yX3_place ∈ wd := wdof (i := 564) (by decide +kernel) rfl
theorem wl565 : Cond.selects RX3 yX3_place yX3_place ∈ wd := wdof (i := 565) (by decide +kernel) rfl
theorem wl566 : Cond.code yX3_place cX3_place 4 (some .boolean) ∈ wd := wdof (i := 566) (by decide +kernel) rfl
theorem wl569 : Cond.methodLink RX3 53 yX3_forget ∈ wd := wdof (i := 569) (by decide +kernel) rfl
theorem wl570 : Cond.methodLink RL 88 yX7_met ∈ wd := wdof (i := 570) (by decide +kernel) rfl
theorem wl571 : Cond.instanceMethod yX7_met ∈ wd := wdof (i := 571) (by decide +kernel) rfl
theorem wl572 : Cond.selects RX7 yX7_met yX7_met ∈ wd := wdof (i := 572) (by decide +kernel) rfl
theorem wl573 : Cond.code yX7_met cX7_met 1 (some .int) ∈ wd := wdof (i := 573) (by decide +kernel) rfl
theorem wl574 : Cond.methodLink RX7 147 yX3_solve ∈ wd := wdof (i := 574) (by decide +kernel) rfl
theorem wl575 : Cond.instanceMethod yX3_solve ∈ wd := wdof (i := 575) (by decide +kernel) rfl
theorem wl576 : Cond.selects RX3 yX3_solve yX3_solve ∈ wd := wdof (i := 576) (by decide +kernel) rfl
theorem wl577 : Cond.code yX3_solve cX3_solve 2 none ∈ wd := wdof (i := 577) (by decide +kernel) rfl
theorem wl578 : Cond.methodLink RX3 56 yX3_stayAtHome ∈ wd := wdof (i := 578) (by decide +kernel) rfl
theorem wl580 : Cond.instanceMethod yX3_stayAtHome ∈ wd := wdof (i := 580) (by decide +kernel) rfl
theorem wl581 : Cond.code yX3_stayAtHome cX3_stayAtHome 2 none ∈ wd := wdof (i := 581) (by decide +kernel) rfl
theorem wl582 : Cond.methodLink RX3 63 yJ7_fill_53178 ∈ wd := wdof (i := 582) (by decide +kernel) rfl
theorem wl583 : Cond.methodLink RX3 69 yJ9_min_7cf53 ∈ wd := wdof (i := 583) (by decide +kernel) rfl
theorem wl584 : Cond.methodLink RX3 59 yX3_leadMore ∈ wd := wdof (i := 584) (by decide +kernel) rfl
theorem wl586 : Cond.instanceMethod yX3_leadMore ∈ wd := wdof (i := 586) (by decide +kernel) rfl
theorem wl587 : Cond.code yX3_leadMore cX3_leadMore 3 (some .boolean) ∈ wd := wdof (i := 587) (by decide +kernel) rfl
theorem wl588 : Cond.methodLink RX3 75 yX3_measureReach ∈ wd := wdof (i := 588) (by decide +kernel) rfl
theorem wl590 : Cond.instanceMethod yX3_measureReach ∈ wd := wdof (i := 590) (by decide +kernel) rfl
theorem wl591 : Cond.code yX3_measureReach cX3_measureReach 4 none ∈ wd := wdof (i := 591) (by decide +kernel) rfl
theorem wl592 : Cond.constant RX3 90 (1000000) ∈ wd := wdof (i := 592) (by decide +kernel) rfl
theorem wl593 : Cond.methodLink RX3 91 yX3_stepFrom ∈ wd := wdof (i := 593) (by decide +kernel) rfl
theorem wl595 : Cond.instanceMethod yX3_stepFrom ∈ wd := wdof (i := 595) (by decide +kernel) rfl
theorem wl596 : Cond.code yX3_stepFrom cX3_stepFrom 5 (some .boolean) ∈ wd := wdof (i := 596) (by decide +kernel) rfl
theorem wl597 : Cond.methodLink RX3 94 yX3_stepMiles ∈ wd := wdof (i := 597) (by decide +kernel) rfl
theorem wl599 : Cond.instanceMethod yX3_stepMiles ∈ wd := wdof (i := 599) (by decide +kernel) rfl
theorem wl600 : Cond.code yX3_stepMiles cX3_stepMiles 4 (some .int) ∈ wd := wdof (i := 600) (by decide +kernel) rfl
theorem wl601 : Cond.methodLink RX3 102 yX3_isGiver ∈ wd := wdof (i := 601) (by decide +kernel) rfl
theorem wl603 : Cond.instanceMethod yX3_isGiver ∈ wd := wdof (i := 603) (by decide +kernel) rfl
theorem wl604 : Cond.code yX3_isGiver cX3_isGiver 2 (some .boolean) ∈ wd := wdof (i := 604) (by decide +kernel) rfl
theorem wl605 : Cond.methodLink RX3 105 yX3_isTaker ∈ wd := wdof (i := 605) (by decide +kernel) rfl
theorem wl607 : Cond.instanceMethod yX3_isTaker ∈ wd := wdof (i := 607) (by decide +kernel) rfl
theorem wl608 : Cond.code yX3_isTaker cX3_isTaker 2 (some .boolean) ∈ wd := wdof (i := 608) (by decide +kernel) rfl
theorem wl609 : Cond.methodLink RX3 78 yX3_nearestGoal ∈ wd := wdof (i := 609) (by decide +kernel) rfl
theorem wl611 : Cond.instanceMethod yX3_nearestGoal ∈ wd := wdof (i := 611) (by decide +kernel) rfl
theorem wl612 : Cond.code yX3_nearestGoal cX3_nearestGoal 4 (some .int) ∈ wd := wdof (i := 612) (by decide +kernel) rfl
theorem wl613 : Cond.methodLink RX3 82 yX3_amountTo ∈ wd := wdof (i := 613) (by decide +kernel) rfl
theorem wl615 : Cond.instanceMethod yX3_amountTo ∈ wd := wdof (i := 615) (by decide +kernel) rfl
theorem wl616 : Cond.code yX3_amountTo cX3_amountTo 5 (some .int) ∈ wd := wdof (i := 616) (by decide +kernel) rfl
theorem wl617 : Cond.methodLink RX3 86 yX3_moveTo ∈ wd := wdof (i := 617) (by decide +kernel) rfl
theorem wl619 : Cond.instanceMethod yX3_moveTo ∈ wd := wdof (i := 619) (by decide +kernel) rfl
theorem wl620 : Cond.code yX3_moveTo cX3_moveTo 6 none ∈ wd := wdof (i := 620) (by decide +kernel) rfl
theorem wl621 : Cond.methodLink RL 92 yX7_led ∈ wd := wdof (i := 621) (by decide +kernel) rfl
theorem wl622 : Cond.instanceMethod yX7_led ∈ wd := wdof (i := 622) (by decide +kernel) rfl
theorem wl623 : Cond.selects RX7 yX7_led yX7_led ∈ wd := wdof (i := 623) (by decide +kernel) rfl
theorem wl624 : Cond.code yX7_led cX7_led 1 (some .int) ∈ wd := wdof (i := 624) (by decide +kernel) rfl
theorem wl625 : Cond.methodLink RL 96 yX7_count ∈ wd := wdof (i := 625) (by decide +kernel) rfl
theorem wl626 : Cond.instanceMethod yX7_count ∈ wd := wdof (i := 626) (by decide +kernel) rfl
theorem wl627 : Cond.selects RX7 yX7_count yX7_count ∈ wd := wdof (i := 627) (by decide +kernel) rfl
theorem wl628 : Cond.code yX7_count cX7_count 2 (some .int) ∈ wd := wdof (i := 628) (by decide +kernel) rfl
theorem wl629 : Cond.methodLink RX7 165 yX7_sumOf ∈ wd := wdof (i := 629) (by decide +kernel) rfl
theorem wl630 : Cond.classLink RL 10 RX8 ∈ wd := wdof (i := 630) (by decide +kernel) rfl
theorem wl631 : Cond.instantiable RX8 31 ∈ wd := wdof (i := 631) (by decide +kernel) rfl
theorem wl632 : Cond.methodLink RL 12 yX8_init ∈ wd := wdof (i := 632) (by decide +kernel) rfl
theorem wl633 : Cond.instanceMethod yX8_init ∈ wd := wdof (i := 633) (by decide +kernel) rfl
theorem wl634 : Cond.code yX8_init cX8_init 1 none ∈ wd := wdof (i := 634) (by decide +kernel) rfl
theorem wl635 : Cond.methodLink RX8 1 objectInit ∈ wd := wdof (i := 635) (by decide +kernel) rfl
theorem wl636 : Cond.methodLink RX8 90 yX8_reckons ∈ wd := wdof (i := 636) (by decide +kernel) rfl
theorem wl638 : Cond.instanceMethod yX8_reckons ∈ wd := wdof (i := 638) (by decide +kernel) rfl
theorem wl639 : Cond.code yX8_reckons cX8_reckons 6 none ∈ wd := wdof (i := 639) (by decide +kernel) rfl
theorem wl640 : Cond.constant RX8 97 (1000000) ∈ wd := wdof (i := 640) (by decide +kernel) rfl
theorem wl641 : Cond.fieldLink RX8 98 "WagonClearingModel" "lines" "I" ∈ wd := wdof (i := 641) (by decide +kernel) rfl
theorem wl642 : Cond.fieldLink RX8 9 "WagonClearingModel" "lineA" "[I" ∈ wd := wdof (i := 642) (by decide +kernel) rfl
theorem wl643 : Cond.fieldLink RX8 13 "WagonClearingModel" "lineB" "[I" ∈ wd := wdof (i := 643) (by decide +kernel) rfl
theorem wl644 : Cond.fieldLink RX8 16 "WagonClearingModel" "lineOf" "[I" ∈ wd := wdof (i := 644) (by decide +kernel) rfl
theorem wl645 : Cond.fieldLink RX8 19 "WagonClearingModel" "miles" "[I" ∈ wd := wdof (i := 645) (by decide +kernel) rfl
theorem wl646 : Cond.fieldLink RX8 22 "WagonClearingModel" "least" "[I" ∈ wd := wdof (i := 646) (by decide +kernel) rfl
theorem wl647 : Cond.fieldLink RX8 125 "WagonClearingModel" "wagons" "I" ∈ wd := wdof (i := 647) (by decide +kernel) rfl
theorem wl648 : Cond.fieldLink RX8 25 "WagonClearingModel" "mark" "[I" ∈ wd := wdof (i := 648) (by decide +kernel) rfl
theorem wl649 : Cond.fieldLink RX8 28 "WagonClearingModel" "owner" "[I" ∈ wd := wdof (i := 649) (by decide +kernel) rfl
theorem wl650 : Cond.fieldLink RX8 128 "WagonClearingModel" "sights" "I" ∈ wd := wdof (i := 650) (by decide +kernel) rfl
theorem wl651 : Cond.fieldLink RX8 31 "WagonClearingModel" "seenMark" "[I" ∈ wd := wdof (i := 651) (by decide +kernel) rfl
theorem wl652 : Cond.fieldLink RX8 34 "WagonClearingModel" "seenAt" "[I" ∈ wd := wdof (i := 652) (by decide +kernel) rfl
theorem wl653 : Cond.fieldLink RX8 37 "WagonClearingModel" "seenOn" "[I" ∈ wd := wdof (i := 653) (by decide +kernel) rfl
theorem wl654 : Cond.fieldLink RX8 40 "WagonClearingModel" "seenOf" "[I" ∈ wd := wdof (i := 654) (by decide +kernel) rfl
theorem wl655 : Cond.fieldLink RX8 43 "WagonClearingModel" "free" "I" ∈ wd := wdof (i := 655) (by decide +kernel) rfl
theorem wl656 : Cond.fieldLink RX8 47 "WagonClearingModel" "price" "I" ∈ wd := wdof (i := 656) (by decide +kernel) rfl
theorem wl657 : Cond.fieldLink RX8 121 "WagonClearingModel" "booked" "I" ∈ wd := wdof (i := 657) (by decide +kernel) rfl
theorem wl658 : Cond.fieldLink RX8 50 "WagonClearingModel" "balances" "[I" ∈ wd := wdof (i := 658) (by decide +kernel) rfl
theorem wl659 : Cond.fieldLink RX8 53 "WagonClearingModel" "there" "[I" ∈ wd := wdof (i := 659) (by decide +kernel) rfl
theorem wl660 : Cond.fieldLink RX8 56 "WagonClearingModel" "wanted" "[I" ∈ wd := wdof (i := 660) (by decide +kernel) rfl
theorem wl661 : Cond.fieldLink RX8 59 "WagonClearingModel" "parts" "[I" ∈ wd := wdof (i := 661) (by decide +kernel) rfl
theorem wl662 : Cond.fieldLink RX8 62 "WagonClearingModel" "run" "[I" ∈ wd := wdof (i := 662) (by decide +kernel) rfl
theorem wl663 : Cond.fieldLink RX8 65 "WagonClearingModel" "cut" "[J" ∈ wd := wdof (i := 663) (by decide +kernel) rfl
theorem wl664 : Cond.fieldLink RX8 69 "WagonClearingModel" "of" "[I" ∈ wd := wdof (i := 664) (by decide +kernel) rfl
theorem wl665 : Cond.fieldLink RX8 72 "WagonClearingModel" "best" "[I" ∈ wd := wdof (i := 665) (by decide +kernel) rfl
theorem wl666 : Cond.fieldLink RX8 75 "WagonClearingModel" "nowOf" "[I" ∈ wd := wdof (i := 666) (by decide +kernel) rfl
theorem wl667 : Cond.fieldLink RX8 78 "WagonClearingModel" "most" "[I" ∈ wd := wdof (i := 667) (by decide +kernel) rfl
theorem wl668 : Cond.fieldLink RX8 81 "WagonClearingModel" "led" "[I" ∈ wd := wdof (i := 668) (by decide +kernel) rfl
theorem wl669 : Cond.fieldLink RX8 84 "WagonClearingModel" "far" "[I" ∈ wd := wdof (i := 669) (by decide +kernel) rfl
theorem wl670 : Cond.fieldLink RX8 87 "WagonClearingModel" "by" "[I" ∈ wd := wdof (i := 670) (by decide +kernel) rfl
theorem wl671 : Cond.fieldLink RX8 158 "WagonClearingModel" "sum" "I" ∈ wd := wdof (i := 671) (by decide +kernel) rfl
theorem wl735 : Cond.arrayClass .long ∈ wd := wdof (i := 735) (by decide +kernel) rfl
theorem wl736 : Cond.methodLink RL 17 yX8_line ∈ wd := wdof (i := 736) (by decide +kernel) rfl
theorem wl737 : Cond.instanceMethod yX8_line ∈ wd := wdof (i := 737) (by decide +kernel) rfl
theorem wl738 : Cond.selects RX8 yX8_line yX8_line ∈ wd := wdof (i := 738) (by decide +kernel) rfl
theorem wl739 : Cond.code yX8_line cX8_line 5 (some .int) ∈ wd := wdof (i := 739) (by decide +kernel) rfl
theorem wl740 : Cond.methodLink RX8 101 yX8_isJunction ∈ wd := wdof (i := 740) (by decide +kernel) rfl
theorem wl741 : Cond.static yX8_isJunction ∈ wd := wdof (i := 741) (by decide +kernel) rfl
theorem wl742 : Cond.code yX8_isJunction cX8_isJunction 1 (some .boolean) ∈ wd := wdof (i := 742) (by decide +kernel) rfl
theorem wl743 : Cond.methodLink RX8 93 yX8_in ∈ wd := wdof (i := 743) (by decide +kernel) rfl
theorem wl744 : Cond.static yX8_in ∈ wd := wdof (i := 744) (by decide +kernel) rfl
theorem wl745 : Cond.code yX8_in cX8_in 3 (some .boolean) ∈ wd := wdof (i := 745) (by decide +kernel) rfl
theorem wl746 : Cond.methodLink RX8 105 yX8_isCompany ∈ wd := wdof (i := 746) (by decide +kernel) rfl
theorem wl747 : Cond.static yX8_isCompany ∈ wd := wdof (i := 747) (by decide +kernel) rfl
theorem wl748 : Cond.code yX8_isCompany cX8_isCompany 1 (some .boolean) ∈ wd := wdof (i := 748) (by decide +kernel) rfl
theorem wl749 : Cond.methodLink RL 22 yX8_least ∈ wd := wdof (i := 749) (by decide +kernel) rfl
theorem wl750 : Cond.instanceMethod yX8_least ∈ wd := wdof (i := 750) (by decide +kernel) rfl
theorem wl751 : Cond.selects RX8 yX8_least yX8_least ∈ wd := wdof (i := 751) (by decide +kernel) rfl
theorem wl752 : Cond.code yX8_least cX8_least 4 (some .int) ∈ wd := wdof (i := 752) (by decide +kernel) rfl
theorem wl753 : Cond.methodLink RL 26 yX8_route ∈ wd := wdof (i := 753) (by decide +kernel) rfl
theorem wl754 : Cond.instanceMethod yX8_route ∈ wd := wdof (i := 754) (by decide +kernel) rfl
theorem wl755 : Cond.selects RX8 yX8_route yX8_route ∈ wd := wdof (i := 755) (by decide +kernel) rfl
theorem wl756 : Cond.code yX8_route cX8_route 6 (some .int) ∈ wd := wdof (i := 756) (by decide +kernel) rfl
theorem wl757 : Cond.methodLink RX8 108 yX8_least ∈ wd := wdof (i := 757) (by decide +kernel) rfl
theorem wl758 : Cond.methodLink RX8 111 yX8_otherEnd ∈ wd := wdof (i := 758) (by decide +kernel) rfl
theorem wl760 : Cond.instanceMethod yX8_otherEnd ∈ wd := wdof (i := 760) (by decide +kernel) rfl
theorem wl761 : Cond.code yX8_otherEnd cX8_otherEnd 3 (some .int) ∈ wd := wdof (i := 761) (by decide +kernel) rfl
theorem wl762 : Cond.methodLink RL 30 yX8_part ∈ wd := wdof (i := 762) (by decide +kernel) rfl
theorem wl763 : Cond.instanceMethod yX8_part ∈ wd := wdof (i := 763) (by decide +kernel) rfl
theorem wl764 : Cond.selects RX8 yX8_part yX8_part ∈ wd := wdof (i := 764) (by decide +kernel) rfl
theorem wl765 : Cond.code yX8_part cX8_part 5 (some .int) ∈ wd := wdof (i := 765) (by decide +kernel) rfl
theorem wl766 : Cond.methodLink RX8 119 yX8_parts ∈ wd := wdof (i := 766) (by decide +kernel) rfl
theorem wl768 : Cond.instanceMethod yX8_parts ∈ wd := wdof (i := 768) (by decide +kernel) rfl
theorem wl769 : Cond.code yX8_parts cX8_parts 13 (some .boolean) ∈ wd := wdof (i := 769) (by decide +kernel) rfl
theorem wl770 : Cond.methodLink RX8 114 yX8_route ∈ wd := wdof (i := 770) (by decide +kernel) rfl
theorem wl771 : Cond.constantLong RX8 117 (-1) ∈ wd := wdof (i := 771) (by decide +kernel) rfl
theorem wl772 : Cond.methodLink RL 35 yX8_book ∈ wd := wdof (i := 772) (by decide +kernel) rfl
theorem wl773 : Cond.instanceMethod yX8_book ∈ wd := wdof (i := 773) (by decide +kernel) rfl
theorem wl774 : Cond.selects RX8 yX8_book yX8_book ∈ wd := wdof (i := 774) (by decide +kernel) rfl
theorem wl775 : Cond.code yX8_book cX8_book 6 (some .boolean) ∈ wd := wdof (i := 775) (by decide +kernel) rfl
theorem wl776 : Cond.methodLink RL 39 yX8_wagon ∈ wd := wdof (i := 776) (by decide +kernel) rfl
theorem wl777 : Cond.instanceMethod yX8_wagon ∈ wd := wdof (i := 777) (by decide +kernel) rfl
theorem wl778 : Cond.selects RX8 yX8_wagon yX8_wagon ∈ wd := wdof (i := 778) (by decide +kernel) rfl
theorem wl779 : Cond.code yX8_wagon cX8_wagon 4 (some .int) ∈ wd := wdof (i := 779) (by decide +kernel) rfl
theorem wl780 : Cond.constant RX8 124 (99999) ∈ wd := wdof (i := 780) (by decide +kernel) rfl
theorem wl781 : Cond.methodLink RL 43 yX8_see ∈ wd := wdof (i := 781) (by decide +kernel) rfl
theorem wl782 : Cond.instanceMethod yX8_see ∈ wd := wdof (i := 782) (by decide +kernel) rfl
theorem wl783 : Cond.selects RX8 yX8_see yX8_see ∈ wd := wdof (i := 783) (by decide +kernel) rfl
theorem wl784 : Cond.code yX8_see cX8_see 5 (some .int) ∈ wd := wdof (i := 784) (by decide +kernel) rfl
theorem wl785 : Cond.methodLink RL 52 yX8_error ∈ wd := wdof (i := 785) (by decide +kernel) rfl
theorem wl786 : Cond.instanceMethod yX8_error ∈ wd := wdof (i := 786) (by decide +kernel) rfl
theorem wl787 : Cond.selects RX8 yX8_error yX8_error ∈ wd := wdof (i := 787) (by decide +kernel) rfl
theorem wl788 : Cond.code yX8_error cX8_error 3 (some .int) ∈ wd := wdof (i := 788) (by decide +kernel) rfl
theorem wl789 : Cond.methodLink RX8 134 yX8_errorOf ∈ wd := wdof (i := 789) (by decide +kernel) rfl
theorem wl790 : Cond.static yX8_errorOf ∈ wd := wdof (i := 790) (by decide +kernel) rfl
theorem wl791 : Cond.code yX8_errorOf cX8_errorOf 5 (some .int) ∈ wd := wdof (i := 791) (by decide +kernel) rfl
theorem wl792 : Cond.methodLink RX8 131 yX8_digit ∈ wd := wdof (i := 792) (by decide +kernel) rfl
theorem wl793 : Cond.static yX8_digit ∈ wd := wdof (i := 793) (by decide +kernel) rfl
theorem wl794 : Cond.code yX8_digit cX8_digit 4 (some .int) ∈ wd := wdof (i := 794) (by decide +kernel) rfl
theorem wl795 : Cond.methodLink RL 57 yX8_whose ∈ wd := wdof (i := 795) (by decide +kernel) rfl
theorem wl796 : Cond.instanceMethod yX8_whose ∈ wd := wdof (i := 796) (by decide +kernel) rfl
theorem wl797 : Cond.selects RX8 yX8_whose yX8_whose ∈ wd := wdof (i := 797) (by decide +kernel) rfl
theorem wl798 : Cond.code yX8_whose cX8_whose 2 (some .int) ∈ wd := wdof (i := 798) (by decide +kernel) rfl
theorem wl799 : Cond.methodLink RX8 140 yX8_joins ∈ wd := wdof (i := 799) (by decide +kernel) rfl
theorem wl801 : Cond.instanceMethod yX8_joins ∈ wd := wdof (i := 801) (by decide +kernel) rfl
theorem wl802 : Cond.code yX8_joins cX8_joins 5 (some .int) ∈ wd := wdof (i := 802) (by decide +kernel) rfl
theorem wl803 : Cond.methodLink RX8 137 yX8_canBe ∈ wd := wdof (i := 803) (by decide +kernel) rfl
theorem wl805 : Cond.instanceMethod yX8_canBe ∈ wd := wdof (i := 805) (by decide +kernel) rfl
theorem wl806 : Cond.code yX8_canBe cX8_canBe 5 (some .boolean) ∈ wd := wdof (i := 806) (by decide +kernel) rfl
theorem wl807 : Cond.methodLink RL 61 yX8_cost ∈ wd := wdof (i := 807) (by decide +kernel) rfl
theorem wl808 : Cond.instanceMethod yX8_cost ∈ wd := wdof (i := 808) (by decide +kernel) rfl
theorem wl809 : Cond.selects RX8 yX8_cost yX8_cost ∈ wd := wdof (i := 809) (by decide +kernel) rfl
theorem wl810 : Cond.code yX8_cost cX8_cost 1 (some .int) ∈ wd := wdof (i := 810) (by decide +kernel) rfl
theorem wl811 : Cond.methodLink RL 66 yX8_terms ∈ wd := wdof (i := 811) (by decide +kernel) rfl
theorem wl812 : Cond.instanceMethod yX8_terms ∈ wd := wdof (i := 812) (by decide +kernel) rfl
theorem wl813 : Cond.selects RX8 yX8_terms yX8_terms ∈ wd := wdof (i := 813) (by decide +kernel) rfl
theorem wl814 : Cond.code yX8_terms cX8_terms 3 (some .boolean) ∈ wd := wdof (i := 814) (by decide +kernel) rfl
theorem wl815 : Cond.methodLink RL 70 yX8_charge ∈ wd := wdof (i := 815) (by decide +kernel) rfl
theorem wl816 : Cond.instanceMethod yX8_charge ∈ wd := wdof (i := 816) (by decide +kernel) rfl
theorem wl817 : Cond.selects RX8 yX8_charge yX8_charge ∈ wd := wdof (i := 817) (by decide +kernel) rfl
theorem wl818 : Cond.code yX8_charge cX8_charge 3 (some .int) ∈ wd := wdof (i := 818) (by decide +kernel) rfl
theorem wl819 : Cond.methodLink RX8 144 yX8_owes ∈ wd := wdof (i := 819) (by decide +kernel) rfl
theorem wl821 : Cond.instanceMethod yX8_owes ∈ wd := wdof (i := 821) (by decide +kernel) rfl
theorem wl822 : Cond.code yX8_owes cX8_owes 7 (some .int) ∈ wd := wdof (i := 822) (by decide +kernel) rfl
theorem wl823 : Cond.methodLink RL 48 yX8_close ∈ wd := wdof (i := 823) (by decide +kernel) rfl
theorem wl824 : Cond.instanceMethod yX8_close ∈ wd := wdof (i := 824) (by decide +kernel) rfl
theorem wl825 : Cond.selects RX8 yX8_close yX8_close ∈ wd := wdof (i := 825) (by decide +kernel) rfl
theorem wl826 : Cond.code yX8_close cX8_close 3 (some .int) ∈ wd := wdof (i := 826) (by decide +kernel) rfl
theorem wl827 : Cond.methodLink RX8 147 yX8_balance ∈ wd := wdof (i := 827) (by decide +kernel) rfl
theorem wl828 : Cond.instanceMethod yX8_balance ∈ wd := wdof (i := 828) (by decide +kernel) rfl
theorem wl829 : Cond.selects RX8 yX8_balance yX8_balance ∈ wd := wdof (i := 829) (by decide +kernel) rfl
theorem wl830 : Cond.code yX8_balance cX8_balance 5 (some .int) ∈ wd := wdof (i := 830) (by decide +kernel) rfl
theorem wl831 : Cond.methodLink RL 74 yX8_balance ∈ wd := wdof (i := 831) (by decide +kernel) rfl
theorem wl832 : Cond.methodLink RL 78 yX8_fewest ∈ wd := wdof (i := 832) (by decide +kernel) rfl
theorem wl833 : Cond.instanceMethod yX8_fewest ∈ wd := wdof (i := 833) (by decide +kernel) rfl
theorem wl834 : Cond.selects RX8 yX8_fewest yX8_fewest ∈ wd := wdof (i := 834) (by decide +kernel) rfl
theorem wl835 : Cond.code yX8_fewest cX8_fewest 4 (some .int) ∈ wd := wdof (i := 835) (by decide +kernel) rfl
theorem wl836 : Cond.methodLink RX8 155 yX8_groups ∈ wd := wdof (i := 836) (by decide +kernel) rfl
theorem wl838 : Cond.instanceMethod yX8_groups ∈ wd := wdof (i := 838) (by decide +kernel) rfl
theorem wl839 : Cond.code yX8_groups cX8_groups 4 (some .int) ∈ wd := wdof (i := 839) (by decide +kernel) rfl
theorem wl840 : Cond.methodLink RX8 151 yX8_sumOf ∈ wd := wdof (i := 840) (by decide +kernel) rfl
theorem wl842 : Cond.instanceMethod yX8_sumOf ∈ wd := wdof (i := 842) (by decide +kernel) rfl
theorem wl843 : Cond.code yX8_sumOf cX8_sumOf 5 (some .long) ∈ wd := wdof (i := 843) (by decide +kernel) rfl
theorem wl844 : Cond.methodLink RL 82 yX8_group ∈ wd := wdof (i := 844) (by decide +kernel) rfl
theorem wl845 : Cond.instanceMethod yX8_group ∈ wd := wdof (i := 845) (by decide +kernel) rfl
theorem wl846 : Cond.selects RX8 yX8_group yX8_group ∈ wd := wdof (i := 846) (by decide +kernel) rfl
theorem wl847 : Cond.code yX8_group cX8_group 5 (some .int) ∈ wd := wdof (i := 847) (by decide +kernel) rfl
theorem wl848 : Cond.methodLink RL 87 yX8_empties ∈ wd := wdof (i := 848) (by decide +kernel) rfl
theorem wl849 : Cond.instanceMethod yX8_empties ∈ wd := wdof (i := 849) (by decide +kernel) rfl
theorem wl850 : Cond.selects RX8 yX8_empties yX8_empties ∈ wd := wdof (i := 850) (by decide +kernel) rfl
theorem wl851 : Cond.code yX8_empties cX8_empties 4 (some .boolean) ∈ wd := wdof (i := 851) (by decide +kernel) rfl
theorem wl852 : Cond.methodLink RL 91 yX8_met ∈ wd := wdof (i := 852) (by decide +kernel) rfl
theorem wl853 : Cond.instanceMethod yX8_met ∈ wd := wdof (i := 853) (by decide +kernel) rfl
theorem wl854 : Cond.selects RX8 yX8_met yX8_met ∈ wd := wdof (i := 854) (by decide +kernel) rfl
theorem wl855 : Cond.code yX8_met cX8_met 1 (some .int) ∈ wd := wdof (i := 855) (by decide +kernel) rfl
theorem wl856 : Cond.methodLink RX8 171 yX8_leads ∈ wd := wdof (i := 856) (by decide +kernel) rfl
theorem wl858 : Cond.instanceMethod yX8_leads ∈ wd := wdof (i := 858) (by decide +kernel) rfl
theorem wl859 : Cond.code yX8_leads cX8_leads 5 (some .int) ∈ wd := wdof (i := 859) (by decide +kernel) rfl
theorem wl860 : Cond.methodLink RX8 161 yX8_seeks ∈ wd := wdof (i := 860) (by decide +kernel) rfl
theorem wl862 : Cond.instanceMethod yX8_seeks ∈ wd := wdof (i := 862) (by decide +kernel) rfl
theorem wl863 : Cond.code yX8_seeks cX8_seeks 6 (some .int) ∈ wd := wdof (i := 863) (by decide +kernel) rfl
theorem wl864 : Cond.methodLink RX8 164 yX8_left ∈ wd := wdof (i := 864) (by decide +kernel) rfl
theorem wl866 : Cond.instanceMethod yX8_left ∈ wd := wdof (i := 866) (by decide +kernel) rfl
theorem wl867 : Cond.code yX8_left cX8_left 4 (some .int) ∈ wd := wdof (i := 867) (by decide +kernel) rfl
theorem wl868 : Cond.constant RX8 167 (500000) ∈ wd := wdof (i := 868) (by decide +kernel) rfl
theorem wl869 : Cond.methodLink RX8 168 yX8_lacks ∈ wd := wdof (i := 869) (by decide +kernel) rfl
theorem wl871 : Cond.instanceMethod yX8_lacks ∈ wd := wdof (i := 871) (by decide +kernel) rfl
theorem wl872 : Cond.code yX8_lacks cX8_lacks 4 (some .int) ∈ wd := wdof (i := 872) (by decide +kernel) rfl
theorem wl873 : Cond.methodLink RL 95 yX8_led ∈ wd := wdof (i := 873) (by decide +kernel) rfl
theorem wl874 : Cond.instanceMethod yX8_led ∈ wd := wdof (i := 874) (by decide +kernel) rfl
theorem wl875 : Cond.selects RX8 yX8_led yX8_led ∈ wd := wdof (i := 875) (by decide +kernel) rfl
theorem wl876 : Cond.code yX8_led cX8_led 1 (some .int) ∈ wd := wdof (i := 876) (by decide +kernel) rfl
theorem wl877 : Cond.methodLink RL 99 yX8_count ∈ wd := wdof (i := 877) (by decide +kernel) rfl
theorem wl878 : Cond.instanceMethod yX8_count ∈ wd := wdof (i := 878) (by decide +kernel) rfl
theorem wl879 : Cond.selects RX8 yX8_count yX8_count ∈ wd := wdof (i := 879) (by decide +kernel) rfl
theorem wl880 : Cond.code yX8_count cX8_count 4 (some .int) ∈ wd := wdof (i := 880) (by decide +kernel) rfl
theorem wy0_0 : u_lay RX0 TX0 0 ∈ wd := wdof (i := 206) (by decide +kernel) rfl
theorem wy0_1 : u_lay RX0 TX0 1 ∈ wd := wdof (i := 208) (by decide +kernel) rfl
theorem wy0_2 : u_lay RX0 TX0 2 ∈ wd := wdof (i := 210) (by decide +kernel) rfl
theorem wy0_3 : u_lay RX0 TX0 3 ∈ wd := wdof (i := 212) (by decide +kernel) rfl
theorem inW0 : ∀ w ∈ u_ws RX0 TX0 4, w ∈ wd := by
  intro w hw
  obtain ⟨k, hk, rfl⟩ := List.mem_map.mp hw
  have hk := List.mem_range.mp hk
  match k, hk with
  | 0, _ => exact wy0_0
  | 1, _ => exact wy0_1
  | 2, _ => exact wy0_2
  | 3, _ => exact wy0_3
  | k + 4, hk => exact absurd hk (by omega)
theorem wy1_0 : u_lay RX1 TX1 0 ∈ wd := wdof (i := 224) (by decide +kernel) rfl
theorem wy1_1 : u_lay RX1 TX1 1 ∈ wd := wdof (i := 226) (by decide +kernel) rfl
theorem wy1_2 : u_lay RX1 TX1 2 ∈ wd := wdof (i := 228) (by decide +kernel) rfl
theorem inW1 : ∀ w ∈ u_ws RX1 TX1 3, w ∈ wd := by
  intro w hw
  obtain ⟨k, hk, rfl⟩ := List.mem_map.mp hw
  have hk := List.mem_range.mp hk
  match k, hk with
  | 0, _ => exact wy1_0
  | 1, _ => exact wy1_1
  | 2, _ => exact wy1_2
  | k + 3, hk => exact absurd hk (by omega)
theorem wy2_0 : u_lay RX2 TX2 0 ∈ wd := wdof (i := 177) (by decide +kernel) rfl
theorem wy2_1 : u_lay RX2 TX2 1 ∈ wd := wdof (i := 179) (by decide +kernel) rfl
theorem wy2_2 : u_lay RX2 TX2 2 ∈ wd := wdof (i := 181) (by decide +kernel) rfl
theorem wy2_3 : u_lay RX2 TX2 3 ∈ wd := wdof (i := 183) (by decide +kernel) rfl
theorem wy2_4 : u_lay RX2 TX2 4 ∈ wd := wdof (i := 185) (by decide +kernel) rfl
theorem wy2_5 : u_lay RX2 TX2 5 ∈ wd := wdof (i := 187) (by decide +kernel) rfl
theorem wy2_6 : u_lay RX2 TX2 6 ∈ wd := wdof (i := 189) (by decide +kernel) rfl
theorem wy2_7 : u_lay RX2 TX2 7 ∈ wd := wdof (i := 191) (by decide +kernel) rfl
theorem wy2_8 : u_lay RX2 TX2 8 ∈ wd := wdof (i := 193) (by decide +kernel) rfl
theorem inW2 : ∀ w ∈ u_ws RX2 TX2 9, w ∈ wd := by
  intro w hw
  obtain ⟨k, hk, rfl⟩ := List.mem_map.mp hw
  have hk := List.mem_range.mp hk
  match k, hk with
  | 0, _ => exact wy2_0
  | 1, _ => exact wy2_1
  | 2, _ => exact wy2_2
  | 3, _ => exact wy2_3
  | 4, _ => exact wy2_4
  | 5, _ => exact wy2_5
  | 6, _ => exact wy2_6
  | 7, _ => exact wy2_7
  | 8, _ => exact wy2_8
  | k + 9, hk => exact absurd hk (by omega)
theorem wy3_0 : u_lay RX3 TX3 0 ∈ wd := wdof (i := 251) (by decide +kernel) rfl
theorem wy3_1 : u_lay RX3 TX3 1 ∈ wd := wdof (i := 253) (by decide +kernel) rfl
theorem wy3_2 : u_lay RX3 TX3 2 ∈ wd := wdof (i := 255) (by decide +kernel) rfl
theorem wy3_3 : u_lay RX3 TX3 3 ∈ wd := wdof (i := 257) (by decide +kernel) rfl
theorem wy3_4 : u_lay RX3 TX3 4 ∈ wd := wdof (i := 259) (by decide +kernel) rfl
theorem wy3_5 : u_lay RX3 TX3 5 ∈ wd := wdof (i := 261) (by decide +kernel) rfl
theorem wy3_6 : u_lay RX3 TX3 6 ∈ wd := wdof (i := 263) (by decide +kernel) rfl
theorem wy3_7 : u_lay RX3 TX3 7 ∈ wd := wdof (i := 265) (by decide +kernel) rfl
theorem wy3_8 : u_lay RX3 TX3 8 ∈ wd := wdof (i := 267) (by decide +kernel) rfl
theorem wy3_9 : u_lay RX3 TX3 9 ∈ wd := wdof (i := 269) (by decide +kernel) rfl
theorem inW3 : ∀ w ∈ u_ws RX3 TX3 10, w ∈ wd := by
  intro w hw
  obtain ⟨k, hk, rfl⟩ := List.mem_map.mp hw
  have hk := List.mem_range.mp hk
  match k, hk with
  | 0, _ => exact wy3_0
  | 1, _ => exact wy3_1
  | 2, _ => exact wy3_2
  | 3, _ => exact wy3_3
  | 4, _ => exact wy3_4
  | 5, _ => exact wy3_5
  | 6, _ => exact wy3_6
  | 7, _ => exact wy3_7
  | 8, _ => exact wy3_8
  | 9, _ => exact wy3_9
  | k + 10, hk => exact absurd hk (by omega)
theorem wy4_0 : u_lay RX4 TX4 0 ∈ wd := wdof (i := 77) (by decide +kernel) rfl
theorem wy4_1 : u_lay RX4 TX4 1 ∈ wd := wdof (i := 79) (by decide +kernel) rfl
theorem wy4_2 : u_lay RX4 TX4 2 ∈ wd := wdof (i := 81) (by decide +kernel) rfl
theorem wy4_3 : u_lay RX4 TX4 3 ∈ wd := wdof (i := 83) (by decide +kernel) rfl
theorem wy4_4 : u_lay RX4 TX4 4 ∈ wd := wdof (i := 85) (by decide +kernel) rfl
theorem wy4_5 : u_lay RX4 TX4 5 ∈ wd := wdof (i := 87) (by decide +kernel) rfl
theorem inW4 : ∀ w ∈ u_ws RX4 TX4 6, w ∈ wd := by
  intro w hw
  obtain ⟨k, hk, rfl⟩ := List.mem_map.mp hw
  have hk := List.mem_range.mp hk
  match k, hk with
  | 0, _ => exact wy4_0
  | 1, _ => exact wy4_1
  | 2, _ => exact wy4_2
  | 3, _ => exact wy4_3
  | 4, _ => exact wy4_4
  | 5, _ => exact wy4_5
  | k + 6, hk => exact absurd hk (by omega)
theorem wy5_0 : u_lay RX5 TX5 0 ∈ wd := wdof (i := 104) (by decide +kernel) rfl
theorem wy5_1 : u_lay RX5 TX5 1 ∈ wd := wdof (i := 106) (by decide +kernel) rfl
theorem wy5_2 : u_lay RX5 TX5 2 ∈ wd := wdof (i := 108) (by decide +kernel) rfl
theorem wy5_3 : u_lay RX5 TX5 3 ∈ wd := wdof (i := 110) (by decide +kernel) rfl
theorem wy5_4 : u_lay RX5 TX5 4 ∈ wd := wdof (i := 112) (by decide +kernel) rfl
theorem wy5_5 : u_lay RX5 TX5 5 ∈ wd := wdof (i := 114) (by decide +kernel) rfl
theorem inW5 : ∀ w ∈ u_ws RX5 TX5 6, w ∈ wd := by
  intro w hw
  obtain ⟨k, hk, rfl⟩ := List.mem_map.mp hw
  have hk := List.mem_range.mp hk
  match k, hk with
  | 0, _ => exact wy5_0
  | 1, _ => exact wy5_1
  | 2, _ => exact wy5_2
  | 3, _ => exact wy5_3
  | 4, _ => exact wy5_4
  | 5, _ => exact wy5_5
  | k + 6, hk => exact absurd hk (by omega)
theorem wy6_0 : u_lay RX6 TX6 0 ∈ wd := wdof (i := 144) (by decide +kernel) rfl
theorem wy6_1 : u_lay RX6 TX6 1 ∈ wd := wdof (i := 146) (by decide +kernel) rfl
theorem wy6_2 : u_lay RX6 TX6 2 ∈ wd := wdof (i := 148) (by decide +kernel) rfl
theorem wy6_3 : u_lay RX6 TX6 3 ∈ wd := wdof (i := 150) (by decide +kernel) rfl
theorem wy6_4 : u_lay RX6 TX6 4 ∈ wd := wdof (i := 152) (by decide +kernel) rfl
theorem wy6_5 : u_lay RX6 TX6 5 ∈ wd := wdof (i := 154) (by decide +kernel) rfl
theorem wy6_6 : u_lay RX6 TX6 6 ∈ wd := wdof (i := 156) (by decide +kernel) rfl
theorem wy6_7 : u_lay RX6 TX6 7 ∈ wd := wdof (i := 158) (by decide +kernel) rfl
theorem inW6 : ∀ w ∈ u_ws RX6 TX6 8, w ∈ wd := by
  intro w hw
  obtain ⟨k, hk, rfl⟩ := List.mem_map.mp hw
  have hk := List.mem_range.mp hk
  match k, hk with
  | 0, _ => exact wy6_0
  | 1, _ => exact wy6_1
  | 2, _ => exact wy6_2
  | 3, _ => exact wy6_3
  | 4, _ => exact wy6_4
  | 5, _ => exact wy6_5
  | 6, _ => exact wy6_6
  | 7, _ => exact wy6_7
  | k + 8, hk => exact absurd hk (by omega)
theorem wy7_0 : u_lay RX7 TX7 0 ∈ wd := wdof (i := 282) (by decide +kernel) rfl
theorem wy7_1 : u_lay RX7 TX7 1 ∈ wd := wdof (i := 284) (by decide +kernel) rfl
theorem wy7_2 : u_lay RX7 TX7 2 ∈ wd := wdof (i := 286) (by decide +kernel) rfl
theorem wy7_3 : u_lay RX7 TX7 3 ∈ wd := wdof (i := 288) (by decide +kernel) rfl
theorem wy7_4 : u_lay RX7 TX7 4 ∈ wd := wdof (i := 290) (by decide +kernel) rfl
theorem wy7_5 : u_lay RX7 TX7 5 ∈ wd := wdof (i := 292) (by decide +kernel) rfl
theorem wy7_6 : u_lay RX7 TX7 6 ∈ wd := wdof (i := 294) (by decide +kernel) rfl
theorem wy7_7 : u_lay RX7 TX7 7 ∈ wd := wdof (i := 296) (by decide +kernel) rfl
theorem wy7_8 : u_lay RX7 TX7 8 ∈ wd := wdof (i := 298) (by decide +kernel) rfl
theorem wy7_9 : u_lay RX7 TX7 9 ∈ wd := wdof (i := 300) (by decide +kernel) rfl
theorem inW7 : ∀ w ∈ u_ws RX7 TX7 10, w ∈ wd := by
  intro w hw
  obtain ⟨k, hk, rfl⟩ := List.mem_map.mp hw
  have hk := List.mem_range.mp hk
  match k, hk with
  | 0, _ => exact wy7_0
  | 1, _ => exact wy7_1
  | 2, _ => exact wy7_2
  | 3, _ => exact wy7_3
  | 4, _ => exact wy7_4
  | 5, _ => exact wy7_5
  | 6, _ => exact wy7_6
  | 7, _ => exact wy7_7
  | 8, _ => exact wy7_8
  | 9, _ => exact wy7_9
  | k + 10, hk => exact absurd hk (by omega)
theorem wy8_0 : u_lay RX8 TX8 0 ∈ wd := wdof (i := 672) (by decide +kernel) rfl
theorem wy8_1 : u_lay RX8 TX8 1 ∈ wd := wdof (i := 674) (by decide +kernel) rfl
theorem wy8_2 : u_lay RX8 TX8 2 ∈ wd := wdof (i := 676) (by decide +kernel) rfl
theorem wy8_3 : u_lay RX8 TX8 3 ∈ wd := wdof (i := 678) (by decide +kernel) rfl
theorem wy8_4 : u_lay RX8 TX8 4 ∈ wd := wdof (i := 680) (by decide +kernel) rfl
theorem wy8_5 : u_lay RX8 TX8 5 ∈ wd := wdof (i := 682) (by decide +kernel) rfl
theorem wy8_6 : u_lay RX8 TX8 6 ∈ wd := wdof (i := 684) (by decide +kernel) rfl
theorem wy8_7 : u_lay RX8 TX8 7 ∈ wd := wdof (i := 686) (by decide +kernel) rfl
theorem wy8_8 : u_lay RX8 TX8 8 ∈ wd := wdof (i := 688) (by decide +kernel) rfl
theorem wy8_9 : u_lay RX8 TX8 9 ∈ wd := wdof (i := 690) (by decide +kernel) rfl
theorem wy8_10 : u_lay RX8 TX8 10 ∈ wd := wdof (i := 692) (by decide +kernel) rfl
theorem wy8_11 : u_lay RX8 TX8 11 ∈ wd := wdof (i := 694) (by decide +kernel) rfl
theorem wy8_12 : u_lay RX8 TX8 12 ∈ wd := wdof (i := 696) (by decide +kernel) rfl
theorem wy8_13 : u_lay RX8 TX8 13 ∈ wd := wdof (i := 698) (by decide +kernel) rfl
theorem wy8_14 : u_lay RX8 TX8 14 ∈ wd := wdof (i := 700) (by decide +kernel) rfl
theorem wy8_15 : u_lay RX8 TX8 15 ∈ wd := wdof (i := 702) (by decide +kernel) rfl
theorem wy8_16 : u_lay RX8 TX8 16 ∈ wd := wdof (i := 704) (by decide +kernel) rfl
theorem wy8_17 : u_lay RX8 TX8 17 ∈ wd := wdof (i := 706) (by decide +kernel) rfl
theorem wy8_18 : u_lay RX8 TX8 18 ∈ wd := wdof (i := 708) (by decide +kernel) rfl
theorem wy8_19 : u_lay RX8 TX8 19 ∈ wd := wdof (i := 710) (by decide +kernel) rfl
theorem wy8_20 : u_lay RX8 TX8 20 ∈ wd := wdof (i := 712) (by decide +kernel) rfl
theorem wy8_21 : u_lay RX8 TX8 21 ∈ wd := wdof (i := 714) (by decide +kernel) rfl
theorem wy8_22 : u_lay RX8 TX8 22 ∈ wd := wdof (i := 716) (by decide +kernel) rfl
theorem wy8_23 : u_lay RX8 TX8 23 ∈ wd := wdof (i := 718) (by decide +kernel) rfl
theorem wy8_24 : u_lay RX8 TX8 24 ∈ wd := wdof (i := 720) (by decide +kernel) rfl
theorem wy8_25 : u_lay RX8 TX8 25 ∈ wd := wdof (i := 722) (by decide +kernel) rfl
theorem wy8_26 : u_lay RX8 TX8 26 ∈ wd := wdof (i := 724) (by decide +kernel) rfl
theorem wy8_27 : u_lay RX8 TX8 27 ∈ wd := wdof (i := 726) (by decide +kernel) rfl
theorem wy8_28 : u_lay RX8 TX8 28 ∈ wd := wdof (i := 728) (by decide +kernel) rfl
theorem wy8_29 : u_lay RX8 TX8 29 ∈ wd := wdof (i := 730) (by decide +kernel) rfl
theorem wy8_30 : u_lay RX8 TX8 30 ∈ wd := wdof (i := 732) (by decide +kernel) rfl
theorem inW8 : ∀ w ∈ u_ws RX8 TX8 31, w ∈ wd := by
  intro w hw
  obtain ⟨k, hk, rfl⟩ := List.mem_map.mp hw
  have hk := List.mem_range.mp hk
  match k, hk with
  | 0, _ => exact wy8_0
  | 1, _ => exact wy8_1
  | 2, _ => exact wy8_2
  | 3, _ => exact wy8_3
  | 4, _ => exact wy8_4
  | 5, _ => exact wy8_5
  | 6, _ => exact wy8_6
  | 7, _ => exact wy8_7
  | 8, _ => exact wy8_8
  | 9, _ => exact wy8_9
  | 10, _ => exact wy8_10
  | 11, _ => exact wy8_11
  | 12, _ => exact wy8_12
  | 13, _ => exact wy8_13
  | 14, _ => exact wy8_14
  | 15, _ => exact wy8_15
  | 16, _ => exact wy8_16
  | 17, _ => exact wy8_17
  | 18, _ => exact wy8_18
  | 19, _ => exact wy8_19
  | 20, _ => exact wy8_20
  | 21, _ => exact wy8_21
  | 22, _ => exact wy8_22
  | 23, _ => exact wy8_23
  | 24, _ => exact wy8_24
  | 25, _ => exact wy8_25
  | 26, _ => exact wy8_26
  | 27, _ => exact wy8_27
  | 28, _ => exact wy8_28
  | 29, _ => exact wy8_29
  | 30, _ => exact wy8_30
  | k + 31, hk => exact absurd hk (by omega)
end
section
/-! states, mirrored programs -/
abbrev SS : Type := Nat → Nat → Int32
def st (S : SS) (c k : Nat) (x : Int32) : SS := fun q => if q = c then upd (S c) k x else S q
def stW (S : SS) (c : Nat) (f : Nat → Int32) : SS := fun q => if q = c then f else S q
abbrev SM : Type := SS × (Nat → Int64)
def stM (S : SM) (c k : Nat) (x : Int32) : SM := (st S.1 c k x, S.2)
def stL (S : SM) (k : Nat) (x : Int64) : SM := (S.1, vp_updL S.2 k x)
def bnd {α β : Type} (e : α) (k : α → β) : β := k e
theorem bnd_at {α β : Type} {e x : α} {k : α → β} {r : β} (h : bnd e k = r) (ex : x = e) : k x = r := by subst ex; exact h
theorem ite_t {α : Type} {c : Prop} {_ : Decidable c} {A B r : α} (h : (if c then A else B) = r) (hc : c) : A = r := by rw [if_pos hc] at h; exact h
theorem ite_f {α : Type} {c : Prop} {_ : Decidable c} {A B r : α} (h : (if c then A else B) = r) (hc : ¬ c) : B = r := by rw [if_neg hc] at h; exact h
def rdA {α : Type} (n : Nat) (f : Nat → α) (i : Int32) : Option α := if i < 0 ∨ n ≤ i.toNatClampNeg then none else some (f i.toNatClampNeg)
def ckA (n : Nat) (i : Int32) : Option Unit := if i < 0 ∨ n ≤ i.toNatClampNeg then none else some ()
def ckN (y : Int32) : Option Unit := if y = 0 then none else some ()
def ckL (y : Int64) : Option Unit := if y = 0 then none else some ()
def ckB (v : Int32) : Option Unit := if v = 0 ∨ v = 1 then some () else none
theorem rdA_at {α β : Type} {n : Nat} {f : Nat → α} {i : Int32} {K : α → Option β} {r : β} (h : (rdA n f i).bind K = some r) : vp_in i n ∧ ∀ v, v = f i.toNatClampNeg → K v = some r := by
  unfold rdA at h
  by_cases hc : i < 0 ∨ n ≤ i.toNatClampNeg
  · rw [if_pos hc] at h; cases h
  · rw [if_neg hc] at h; exact ⟨hc, fun v ev => by rw [ev]; exact h⟩
theorem ckA_at {β : Type} {n : Nat} {i : Int32} {K : Unit → Option β} {r : β} (h : (ckA n i).bind K = some r) : vp_in i n ∧ K () = some r := by
  unfold ckA at h
  by_cases hc : i < 0 ∨ n ≤ i.toNatClampNeg
  · rw [if_pos hc] at h; cases h
  · rw [if_neg hc] at h; exact ⟨hc, h⟩
theorem ckN_at {β : Type} {y : Int32} {K : Unit → Option β} {r : β} (h : (ckN y).bind K = some r) : ¬ y = 0 ∧ K () = some r := by
  unfold ckN at h
  by_cases hc : y = 0
  · rw [if_pos hc] at h; cases h
  · rw [if_neg hc] at h; exact ⟨hc, h⟩
theorem ckL_at {β : Type} {y : Int64} {K : Unit → Option β} {r : β} (h : (ckL y).bind K = some r) : ¬ y = 0 ∧ K () = some r := by
  unfold ckL at h
  by_cases hc : y = 0
  · rw [if_pos hc] at h; cases h
  · rw [if_neg hc] at h; exact ⟨hc, h⟩
theorem ckB_at {β : Type} {v : Int32} {K : Unit → Option β} {r : β} (h : (ckB v).bind K = some r) : narrow .boolean (.int v) = .int v ∧ K () = some r := by
  unfold ckB at h
  by_cases hc : v = 0 ∨ v = 1
  · rw [if_pos hc] at h; exact ⟨by rcases hc with e | e <;> (rw [e]; decide), h⟩
  · rw [if_neg hc] at h; cases h
theorem ob_at {α β : Type} {o : Option α} {K : α → Option β} {r : β} (h : o.bind K = some r) : ∃ x, o = some x ∧ K x = some r := by
  cases o with
  | none => cases h
  | some x => exact ⟨x, rfl, h⟩
def ob2 {α β γ : Type} (o : Option (α × β)) (k : α → β → Option γ) : Option γ := o.bind fun q => k q.1 q.2
theorem ob2_at {α β γ : Type} {o : Option (α × β)} {K : α → β → Option γ} {r : γ} (h : ob2 o K = some r) : ∃ x y, o = some (x, y) ∧ K x y = some r := by
  cases o with
  | none => cases h
  | some x => exact ⟨x.1, x.2, rfl, h⟩
def lpN {α : Type} (z : α) (f : α → α) : Nat → α
  | 0 => z
  | n + 1 => f (lpN z f n)
theorem nb0 : narrow .boolean (.int 0) = .int 0 := by decide
theorem nb1 : narrow .boolean (.int 1) = .int 1 := by decide
theorem fb0 : fits .boolean (.int 0) = true := by decide
theorem fb1 : fits .boolean (.int 1) = true := by decide
/-! words, room -/
abbrev wsm (y : MethodName) (cc : ByteArray) (n : Nat) (ret : Option FieldType) : List Cond := Cond.code y cc n ret :: wd
theorem wsm_good {y : MethodName} {cc : ByteArray} {n : Nat} {ret : Option FieldType} (h : Cond.code y cc n ret ∈ wd) : GoodIn wd (wsm y cc n ret) := fun w hw => by
  rcases List.mem_cons.mp hw with e | e
  · rw [e]; exact ⟨h, wd_good _ h⟩
  · exact ⟨e, wd_good _ e⟩
abbrev RM (k : Nat) : Room := { frames := k, cells := 0, slots := 0, locals := 64 * k }
theorem cb_of {R : Room} {s : State} {args : Array Value} {own : String} {index : Nat} {y : MethodName} {bytes : ByteArray} {maxL : Nat} {ret : Option FieldType} {k : Nat} (n : Nat) (hts : ∀ w ∈ wd, w.before args s = true) (hc : Cond.code y bytes maxL ret ∈ wd) (hini : Cond.initialized y.cls ∈ wd) (hl : Cond.methodLink own index y ∈ wd) (hd : y.cls ≠ "java/lang/invoke/MethodHandle" ∧ y.cls ≠ "java/lang/invoke/VarHandle" ∧ (parseMethodDescriptor y.desc).map (fun d => d.parameters.length) = some n) (hR : k + 1 ≤ R.frames ∧ 8 + (maxL + 11) + 64 * k ≤ R.locals) : CallB R s args own index y bytes maxL ret (wsm y bytes maxL ret) (RM k) 0 0 n :=
  callB_of n hts (wsm_good hc) rfl rfl rfl (hts _ hini) (hts _ hl) hd hR
theorem cn_of {R : Room} {s : State} {args : Array Value} {own host : String} {index : Nat} {y : MethodName} {bytes : ByteArray} {maxL : Nat} {ret : Option FieldType} {k : Nat} (n : Nat) (hts : ∀ w ∈ wd, w.before args s = true) (hc : Cond.code y bytes maxL ret ∈ wd) (hini : Cond.initialized y.cls ∈ wd) (hl : va_Nw (.methodLinkNest own index y host) s) (hd : y.cls ≠ "java/lang/invoke/MethodHandle" ∧ y.cls ≠ "java/lang/invoke/VarHandle" ∧ (parseMethodDescriptor y.desc).map (fun d => d.parameters.length) = some n) (hR : k + 1 ≤ R.frames ∧ 8 + (maxL + 11) + 64 * k ≤ R.locals) : va_CN R s args own index y host bytes maxL ret (wsm y bytes maxL ret) (RM k) 0 0 n :=
  va_cnB n hts (wsm_good hc) rfl rfl rfl hl (hts _ hini) hd hR
def nestW : List Cond := [Cond.methodLinkNest RX7 27 yX6_init RX7, Cond.methodLinkNest RX7 52 yX1_init RX7, Cond.methodLinkNest RX4 38 yX7_isJunction RX7, Cond.methodLinkNest RX4 42 yX7_isCompany RX7, Cond.methodLinkNest RX4 45 yX7_isWithin RX7, Cond.methodLinkNest RX5 33 yX7_isWithin RX7, Cond.methodLinkNest RX5 66 yX7_isCompany RX7, Cond.methodLinkNest RX5 69 yX7_sumOf RX7, Cond.methodLinkNest RX6 37 yX7_isMark RX7, Cond.methodLinkNest RX6 41 yX7_isCompany RX7, Cond.methodLinkNest RX6 44 yX7_isJunction RX7, Cond.methodLinkNest RX6 47 yX7_isWithin RX7, Cond.methodLinkNest RX0 26 yX7_isWithin RX7, Cond.methodLinkNest RX0 36 yX7_isCompany RX7, Cond.methodLinkNest RX3 45 yX7_isJunction RX7, Cond.methodLinkNest RX3 49 yX7_isWithin RX7]
theorem nestW_form : ∀ w ∈ nestW, ∃ (o : String) (i : Nat) (y : MethodName) (h : String), w = .methodLinkNest o i y h := by
  intro w hw
  simp only [nestW, List.mem_cons, List.not_mem_nil, or_false] at hw
  rcases hw with rfl | rfl | rfl | rfl | rfl | rfl | rfl | rfl | rfl | rfl | rfl | rfl | rfl | rfl | rfl | rfl <;> exact ⟨_, _, _, _, rfl⟩
def NW (U : State) : Prop := ∀ w ∈ nestW, va_Nw w U
theorem NW.warm {s U : State} (hW : s.WarmedH U.vm) (h : NW s) : NW U := fun w hw => by
  obtain ⟨o, i, y, k, rfl⟩ := nestW_form w hw
  exact va_Nw.warmM hW (h _ hw)
theorem NW.same {u U : State} (e : u.vm = U.vm) (h : NW u) : NW U := fun w hw => by
  obtain ⟨o, i, y, k, rfl⟩ := nestW_form w hw
  exact va_Nw.same rfl e (h _ hw)
theorem NW.at {s : State} (h : NW s) {o : String} {i : Nat} {y : MethodName} {k : String} (hm : Cond.methodLinkNest o i y k ∈ nestW) : va_Nw (.methodLinkNest o i y k) s := h _ hm
/-! the frame of a world whose cells' addresses don't change -/
theorem va_D_fst {A : Nat → Prop} {ws ws' : va_W} (h : ws.map Prod.fst = ws'.map Prod.fst) (hD : va_D A ws) : va_D A ws' := by
  have key : ∀ (i : Nat) (p : Nat × va_E), ws'[i]? = some p → ∃ q, ws[i]? = some q ∧ q.1 = p.1 := by
    intro i p hp
    have h1 : (ws'.map Prod.fst)[i]? = some p.1 := by rw [List.getElem?_map, hp]; rfl
    rw [← h, List.getElem?_map] at h1
    cases hq : ws[i]? with
    | none => rw [hq] at h1; cases h1
    | some q => rw [hq] at h1; exact ⟨q, rfl, Option.some.inj h1⟩
  refine ⟨fun i j p q hp hq e => ?_, fun k q hq => ?_⟩
  · obtain ⟨p', hp', e1⟩ := key i p hp
    obtain ⟨q', hq', e2⟩ := key j q hq
    exact hD.1 i j p' q' hp' hq' (by rw [e1, e2, e])
  · obtain ⟨q', hq', e1⟩ := key k q hq
    rw [← e1]
    exact hD.2 k q' hq'

theorem nw0 : Cond.methodLinkNest RX7 27 yX6_init RX7 ∈ nestW := List.mem_of_getElem? (i := 0) rfl
theorem nl0 : Cond.methodLinkNest RX7 27 yX6_init RX7 ∈ lw_tbl := List.mem_of_getElem? (i := 119) (by decide +kernel)
theorem nw1 : Cond.methodLinkNest RX7 52 yX1_init RX7 ∈ nestW := List.mem_of_getElem? (i := 1) rfl
theorem nl1 : Cond.methodLinkNest RX7 52 yX1_init RX7 ∈ lw_tbl := List.mem_of_getElem? (i := 217) (by decide +kernel)
theorem nw2 : Cond.methodLinkNest RX4 38 yX7_isJunction RX7 ∈ nestW := List.mem_of_getElem? (i := 2) rfl
theorem nl2 : Cond.methodLinkNest RX4 38 yX7_isJunction RX7 ∈ lw_tbl := List.mem_of_getElem? (i := 311) (by decide +kernel)
theorem nw3 : Cond.methodLinkNest RX4 42 yX7_isCompany RX7 ∈ nestW := List.mem_of_getElem? (i := 3) rfl
theorem nl3 : Cond.methodLinkNest RX4 42 yX7_isCompany RX7 ∈ lw_tbl := List.mem_of_getElem? (i := 314) (by decide +kernel)
theorem nw4 : Cond.methodLinkNest RX4 45 yX7_isWithin RX7 ∈ nestW := List.mem_of_getElem? (i := 4) rfl
theorem nl4 : Cond.methodLinkNest RX4 45 yX7_isWithin RX7 ∈ lw_tbl := List.mem_of_getElem? (i := 317) (by decide +kernel)
theorem nw5 : Cond.methodLinkNest RX5 33 yX7_isWithin RX7 ∈ nestW := List.mem_of_getElem? (i := 5) rfl
theorem nl5 : Cond.methodLinkNest RX5 33 yX7_isWithin RX7 ∈ lw_tbl := List.mem_of_getElem? (i := 366) (by decide +kernel)
theorem nw6 : Cond.methodLinkNest RX5 66 yX7_isCompany RX7 ∈ nestW := List.mem_of_getElem? (i := 6) rfl
theorem nl6 : Cond.methodLinkNest RX5 66 yX7_isCompany RX7 ∈ lw_tbl := List.mem_of_getElem? (i := 374) (by decide +kernel)
theorem nw7 : Cond.methodLinkNest RX5 69 yX7_sumOf RX7 ∈ nestW := List.mem_of_getElem? (i := 7) rfl
theorem nl7 : Cond.methodLinkNest RX5 69 yX7_sumOf RX7 ∈ lw_tbl := List.mem_of_getElem? (i := 379) (by decide +kernel)
theorem nw8 : Cond.methodLinkNest RX6 37 yX7_isMark RX7 ∈ nestW := List.mem_of_getElem? (i := 8) rfl
theorem nl8 : Cond.methodLinkNest RX6 37 yX7_isMark RX7 ∈ lw_tbl := List.mem_of_getElem? (i := 398) (by decide +kernel)
theorem nw9 : Cond.methodLinkNest RX6 41 yX7_isCompany RX7 ∈ nestW := List.mem_of_getElem? (i := 9) rfl
theorem nl9 : Cond.methodLinkNest RX6 41 yX7_isCompany RX7 ∈ lw_tbl := List.mem_of_getElem? (i := 403) (by decide +kernel)
theorem nw10 : Cond.methodLinkNest RX6 44 yX7_isJunction RX7 ∈ nestW := List.mem_of_getElem? (i := 10) rfl
theorem nl10 : Cond.methodLinkNest RX6 44 yX7_isJunction RX7 ∈ lw_tbl := List.mem_of_getElem? (i := 412) (by decide +kernel)
theorem nw11 : Cond.methodLinkNest RX6 47 yX7_isWithin RX7 ∈ nestW := List.mem_of_getElem? (i := 11) rfl
theorem nl11 : Cond.methodLinkNest RX6 47 yX7_isWithin RX7 ∈ lw_tbl := List.mem_of_getElem? (i := 413) (by decide +kernel)
theorem nw12 : Cond.methodLinkNest RX0 26 yX7_isWithin RX7 ∈ nestW := List.mem_of_getElem? (i := 12) rfl
theorem nl12 : Cond.methodLinkNest RX0 26 yX7_isWithin RX7 ∈ lw_tbl := List.mem_of_getElem? (i := 504) (by decide +kernel)
theorem nw13 : Cond.methodLinkNest RX0 36 yX7_isCompany RX7 ∈ nestW := List.mem_of_getElem? (i := 13) rfl
theorem nl13 : Cond.methodLinkNest RX0 36 yX7_isCompany RX7 ∈ lw_tbl := List.mem_of_getElem? (i := 514) (by decide +kernel)
theorem nw14 : Cond.methodLinkNest RX3 45 yX7_isJunction RX7 ∈ nestW := List.mem_of_getElem? (i := 14) rfl
theorem nl14 : Cond.methodLinkNest RX3 45 yX7_isJunction RX7 ∈ lw_tbl := List.mem_of_getElem? (i := 567) (by decide +kernel)
theorem nw15 : Cond.methodLinkNest RX3 49 yX7_isWithin RX7 ∈ nestW := List.mem_of_getElem? (i := 15) rfl
theorem nl15 : Cond.methodLinkNest RX3 49 yX7_isWithin RX7 ∈ lw_tbl := List.mem_of_getElem? (i := 568) (by decide +kernel)
/-! the world K -/
def wK (a : Nat → Nat) (g : Nat → ClassId) (S : SS) : va_W := [(a 0, .inr (7, [.ref (a 1), .ref (a 2), .ref (a 3), .ref (a 4), .ref (a 5), .ref (a 6), .ref (a 7), .ref (a 35), .ref (a 36), .int (S 0 9)])),
  (a 1, .inr (4, [.ref (a 8), .ref (a 9), .ref (a 10), .ref (a 11), .ref (a 12), .int (S 1 5)])),
  (a 2, .inr (5, [.ref (a 13), .ref (a 14), .ref (a 15), .ref (a 1), .int (S 2 4), .int (S 2 5)])),
  (a 3, .inr (6, [.ref (a 16), .ref (a 17), .int (S 3 2), .ref (a 18), .ref (a 19), .ref (a 20), .ref (a 21), .int (S 3 7)])),
  (a 4, .inr (2, [.ref (a 1), .ref (a 3), .ref (a 22), .ref (a 23), .ref (a 24), .ref (a 25), .ref (a 26), .int (S 4 7), .int (S 4 8)])),
  (a 5, .inr (0, [.ref (a 3), .ref (a 4), .int (S 5 2), .int (S 5 3)])),
  (a 6, .inr (1, [.ref (a 27), .ref (a 28), .int (S 6 2)])),
  (a 7, .inr (3, [.ref (a 29), .ref (a 30), .int (S 7 2), .int (S 7 3), .ref (a 1), .ref (a 31), .ref (a 32), .ref (a 33), .ref (a 34), .int (S 7 9)])),
  (a 8, .inl (g 8, 24, .inl (S 8))),
  (a 9, .inl (g 9, 24, .inl (S 9))),
  (a 10, .inl (g 10, 24, .inl (S 10))),
  (a 11, .inl (g 11, 24, .inl (S 11))),
  (a 12, .inl (g 12, 144, .inl (S 12))),
  (a 13, .inl (g 13, 8, .inl (S 13))),
  (a 14, .inl (g 14, 8, .inl (S 14))),
  (a 15, .inl (g 15, 8, .inl (S 15))),
  (a 16, .inl (g 16, 4, .inl (S 16))),
  (a 17, .inl (g 17, 4, .inl (S 17))),
  (a 18, .inl (g 18, 7, .inl (S 18))),
  (a 19, .inl (g 19, 7, .inl (S 19))),
  (a 20, .inl (g 20, 7, .inl (S 20))),
  (a 21, .inl (g 21, 7, .inl (S 21))),
  (a 22, .inl (g 22, 28, .inl (S 22))),
  (a 23, .inl (g 23, 8, .inl (S 23))),
  (a 24, .inl (g 24, 7, .inl (S 24))),
  (a 25, .inl (g 25, 4, .inl (S 25))),
  (a 26, .inl (g 26, 7, .inl (S 26))),
  (a 27, .inl (g 27, 256, .inl (S 27))),
  (a 28, .inl (g 28, 256, .inl (S 28))),
  (a 29, .inl (g 29, 12, .inl (S 29))),
  (a 30, .inl (g 30, 12, .inl (S 30))),
  (a 31, .inl (g 31, 12, .inl (S 31))),
  (a 32, .inl (g 32, 144, .inl (S 32))),
  (a 33, .inl (g 33, 12, .inl (S 33))),
  (a 34, .inl (g 34, 12, .inl (S 34))),
  (a 35, .inl (g 35, 8, .inl (S 35))),
  (a 36, .inl (g 36, 8, .inl (S 36)))]
def tK (g : Nat → ClassId) : List (ClassId × FieldType) := [(g 8, .int), (g 9, .int), (g 10, .int), (g 11, .int), (g 12, .int), (g 13, .int), (g 14, .int), (g 15, .int), (g 16, .int), (g 17, .int), (g 18, .int), (g 19, .int), (g 20, .int), (g 21, .int), (g 22, .int), (g 23, .int), (g 24, .int), (g 25, .int), (g 26, .int), (g 27, .int), (g 28, .int), (g 29, .int), (g 30, .int), (g 31, .int), (g 32, .int), (g 33, .int), (g 34, .int), (g 35, .int), (g 36, .int)]
def AK (a : Nat → Nat) (q : Nat) : Prop := ∃ k, k < 37 ∧ q = a k
def EK (p : Program) (s : State) (m : MethodId) (args : Array Value) (meth : Method) (c : Code) (D : va_G) (a : Nat → Nat) (g : Nat → ClassId) (cc : ByteArray) (nL : Nat) (own : String) (ret : Option FieldType) : Prop :=
  p.tables.exec = Jvm.exec ∧ c.code = cc ∧ meth.sig.returnType = ret ∧ c.maxLocals = nL ∧ s.vm.findClass own = some m.cls ∧ (∀ w ∈ wd, w.before args s = true) ∧ va_K D vwCl (tK g) s ∧ NW s ∧ (∀ S, va_D (AK a) (wK a g S)) ∧ meth.locks = false
def WK (D : va_G) (a : Nat → Nat) (g : Nat → ClassId) (S : SS) (s : State) (H : Heap) (locs : List Loc) : Prop := va_P D vwCl (wK a g S) H ∧ va_S (AK a) s.heap H locs
def PK (D : va_G) (a : Nat → Nat) (g : Nat → ClassId) (S : SS) (av : List Value) : Array Value → State → Prop := va_Pc av (fun U => va_P D vwCl (wK a g S) U.heap ∧ va_K D vwCl (tK g) U ∧ NW U)
def QK (D : va_G) (a : Nat → Nat) (g : Nat → ClassId) (r : Option Value) (S : SS) : Array Value → State → Outcome → State → Prop := fun _ st o t => o = .returned r ∧ va_P D vwCl (wK a g S) t.heap ∧ va_F (AK a) st t
theorem PK_blind {D : va_G} {a : Nat → Nat} {g : Nat → ClassId} {S : SS} {av : List Value} : FrameBlind (PK D a g S av) := fun _ U f mk q => ⟨q.1, q.2.1, va_K.moved (u := U) (U := U.calling f mk _) (Vm.Alike.refl U.vm) q.2.2.1, NW.same (u := U) (U := U.calling f mk _) rfl q.2.2.2⟩
theorem PK_pre {D : va_G} {a : Nat → Nat} {g : Nat → ClassId} {S : SS} {av : List Value} {s : State} {H : Heap} (hK : va_K D vwCl (tK g) s) (hN : NW s) (hP : va_P D vwCl (wK a g S) H) : ∀ U : State, U.heap = H → s.WarmedH U.vm → PK D a g S av av.toArray U := fun U hU hW => ⟨rfl, by rw [hU]; exact hP, va_K.moved hW.alike hK, hN.warm hW⟩
section KROWS
variable {p : Program} {l : Launch} {e : Env} {R : Room} {s : State} {m : MethodId} {args : Array Value} {below : List Frame} {meth : Method} {c : Code} {H : Heap} {locs : List Loc} {cells slots : Nat} {Q : State → Prop} {cc : ByteArray} {pc : Nat} {ls : Array Slot} {rest : List Value} {D : va_G} {a : Nat → Nat} {g : Nat → ClassId} {nL : Nat} {own : String} {ret : Option FieldType}
variable {S : SS}
theorem EK.hx (E : EK p s m args meth c D a g cc nL own ret) : p.tables.exec = Jvm.exec := E.1
theorem EK.hb (E : EK p s m args meth c D a g cc nL own ret) : c.code = cc := E.2.1
theorem EK.hr (E : EK p s m args meth c D a g cc nL own ret) : meth.sig.returnType = ret := E.2.2.1
theorem EK.hml (E : EK p s m args meth c D a g cc nL own ret) : c.maxLocals = nL := E.2.2.2.1
theorem EK.hown (E : EK p s m args meth c D a g cc nL own ret) : s.vm.findClass own = some m.cls := E.2.2.2.2.1
theorem EK.hts (E : EK p s m args meth c D a g cc nL own ret) : ∀ w ∈ wd, w.before args s = true := E.2.2.2.2.2.1
theorem EK.hK (E : EK p s m args meth c D a g cc nL own ret) : va_K D vwCl (tK g) s := E.2.2.2.2.2.2.1
theorem EK.hN (E : EK p s m args meth c D a g cc nL own ret) : NW s := E.2.2.2.2.2.2.2.1
theorem EK.hD (E : EK p s m args meth c D a g cc nL own ret) : ∀ S, va_D (AK a) (wK a g S) := E.2.2.2.2.2.2.2.2.1
theorem EK.hlk (E : EK p s m args meth c D a g cc nL own ret) : meth.locks = false := E.2.2.2.2.2.2.2.2.2
theorem gK_0_0 (E : EK p s m args meth c D a g cc nL own ret) (hw : WK D a g S s H locs) {idx : Nat} (hl : (Cond.fieldLink own idx "WagonClearing" "network" "LWagonClearing$Network;").before args s = true) (hdg : decode cc pc = .ok (.getfield idx, 3)) (kk : W p l e R s m args below meth c H locs cells slots Q (F0 m (pc + 3) ls (.ref (a 1) :: rest))) : W p l e R s m args below meth c H locs cells slots Q (F0 m (pc) ls (.ref (a 0) :: rest)) :=
  va_get (ci := 7) (C := RX7) (T := TX7) (N := 10) E.hx E.hb E.hts inW7 E.hown E.hK hw.1 0 rfl rfl 0 (by decide) hl (fun _ h => h) rfl hdg kk
theorem gK_0_1 (E : EK p s m args meth c D a g cc nL own ret) (hw : WK D a g S s H locs) {idx : Nat} (hl : (Cond.fieldLink own idx "WagonClearing" "parting" "LWagonClearing$Parting;").before args s = true) (hdg : decode cc pc = .ok (.getfield idx, 3)) (kk : W p l e R s m args below meth c H locs cells slots Q (F0 m (pc + 3) ls (.ref (a 2) :: rest))) : W p l e R s m args below meth c H locs cells slots Q (F0 m (pc) ls (.ref (a 0) :: rest)) :=
  va_get (ci := 7) (C := RX7) (T := TX7) (N := 10) E.hx E.hb E.hts inW7 E.hown E.hK hw.1 0 rfl rfl 1 (by decide) hl (fun _ h => h) rfl hdg kk
theorem gK_0_2 (E : EK p s m args meth c D a g cc nL own ret) (hw : WK D a g S s H locs) {idx : Nat} (hl : (Cond.fieldLink own idx "WagonClearing" "register" "LWagonClearing$Register;").before args s = true) (hdg : decode cc pc = .ok (.getfield idx, 3)) (kk : W p l e R s m args below meth c H locs cells slots Q (F0 m (pc + 3) ls (.ref (a 3) :: rest))) : W p l e R s m args below meth c H locs cells slots Q (F0 m (pc) ls (.ref (a 0) :: rest)) :=
  va_get (ci := 7) (C := RX7) (T := TX7) (N := 10) E.hx E.hb E.hts inW7 E.hown E.hK hw.1 0 rfl rfl 2 (by decide) hl (fun _ h => h) rfl hdg kk
theorem gK_0_3 (E : EK p s m args meth c D a g cc nL own ret) (hw : WK D a g S s H locs) {idx : Nat} (hl : (Cond.fieldLink own idx "WagonClearing" "joining" "LWagonClearing$Joining;").before args s = true) (hdg : decode cc pc = .ok (.getfield idx, 3)) (kk : W p l e R s m args below meth c H locs cells slots Q (F0 m (pc + 3) ls (.ref (a 4) :: rest))) : W p l e R s m args below meth c H locs cells slots Q (F0 m (pc) ls (.ref (a 0) :: rest)) :=
  va_get (ci := 7) (C := RX7) (T := TX7) (N := 10) E.hx E.hb E.hts inW7 E.hown E.hK hw.1 0 rfl rfl 3 (by decide) hl (fun _ h => h) rfl hdg kk
theorem gK_0_4 (E : EK p s m args meth c D a g cc nL own ret) (hw : WK D a g S s H locs) {idx : Nat} (hl : (Cond.fieldLink own idx "WagonClearing" "charging" "LWagonClearing$Charging;").before args s = true) (hdg : decode cc pc = .ok (.getfield idx, 3)) (kk : W p l e R s m args below meth c H locs cells slots Q (F0 m (pc + 3) ls (.ref (a 5) :: rest))) : W p l e R s m args below meth c H locs cells slots Q (F0 m (pc) ls (.ref (a 0) :: rest)) :=
  va_get (ci := 7) (C := RX7) (T := TX7) (N := 10) E.hx E.hb E.hts inW7 E.hown E.hK hw.1 0 rfl rfl 4 (by decide) hl (fun _ h => h) rfl hdg kk
theorem gK_0_5 (E : EK p s m args meth c D a g cc nL own ret) (hw : WK D a g S s H locs) {idx : Nat} (hl : (Cond.fieldLink own idx "WagonClearing" "grouping" "LWagonClearing$Grouping;").before args s = true) (hdg : decode cc pc = .ok (.getfield idx, 3)) (kk : W p l e R s m args below meth c H locs cells slots Q (F0 m (pc + 3) ls (.ref (a 6) :: rest))) : W p l e R s m args below meth c H locs cells slots Q (F0 m (pc) ls (.ref (a 0) :: rest)) :=
  va_get (ci := 7) (C := RX7) (T := TX7) (N := 10) E.hx E.hb E.hts inW7 E.hown E.hK hw.1 0 rfl rfl 5 (by decide) hl (fun _ h => h) rfl hdg kk
theorem gK_0_6 (E : EK p s m args meth c D a g cc nL own ret) (hw : WK D a g S s H locs) {idx : Nat} (hl : (Cond.fieldLink own idx "WagonClearing" "leading" "LWagonClearing$Leading;").before args s = true) (hdg : decode cc pc = .ok (.getfield idx, 3)) (kk : W p l e R s m args below meth c H locs cells slots Q (F0 m (pc + 3) ls (.ref (a 7) :: rest))) : W p l e R s m args below meth c H locs cells slots Q (F0 m (pc) ls (.ref (a 0) :: rest)) :=
  va_get (ci := 7) (C := RX7) (T := TX7) (N := 10) E.hx E.hb E.hts inW7 E.hown E.hK hw.1 0 rfl rfl 6 (by decide) hl (fun _ h => h) rfl hdg kk
theorem gK_0_7 (E : EK p s m args meth c D a g cc nL own ret) (hw : WK D a g S s H locs) {idx : Nat} (hl : (Cond.fieldLink own idx "WagonClearing" "booked" "[I").before args s = true) (hdg : decode cc pc = .ok (.getfield idx, 3)) (kk : W p l e R s m args below meth c H locs cells slots Q (F0 m (pc + 3) ls (.ref (a 35) :: rest))) : W p l e R s m args below meth c H locs cells slots Q (F0 m (pc) ls (.ref (a 0) :: rest)) :=
  va_get (ci := 7) (C := RX7) (T := TX7) (N := 10) E.hx E.hb E.hts inW7 E.hown E.hK hw.1 0 rfl rfl 7 (by decide) hl (fun _ h => h) rfl hdg kk
theorem gK_0_8 (E : EK p s m args meth c D a g cc nL own ret) (hw : WK D a g S s H locs) {idx : Nat} (hl : (Cond.fieldLink own idx "WagonClearing" "balances" "[I").before args s = true) (hdg : decode cc pc = .ok (.getfield idx, 3)) (kk : W p l e R s m args below meth c H locs cells slots Q (F0 m (pc + 3) ls (.ref (a 36) :: rest))) : W p l e R s m args below meth c H locs cells slots Q (F0 m (pc) ls (.ref (a 0) :: rest)) :=
  va_get (ci := 7) (C := RX7) (T := TX7) (N := 10) E.hx E.hb E.hts inW7 E.hown E.hK hw.1 0 rfl rfl 8 (by decide) hl (fun _ h => h) rfl hdg kk
theorem gK_0_9 (E : EK p s m args meth c D a g cc nL own ret) (hw : WK D a g S s H locs) {idx : Nat} (hl : (Cond.fieldLink own idx "WagonClearing" "sums" "I").before args s = true) (hdg : decode cc pc = .ok (.getfield idx, 3)) (kk : W p l e R s m args below meth c H locs cells slots Q (F0 m (pc + 3) ls (.int (S 0 9) :: rest))) : W p l e R s m args below meth c H locs cells slots Q (F0 m (pc) ls (.ref (a 0) :: rest)) :=
  va_get (ci := 7) (C := RX7) (T := TX7) (N := 10) E.hx E.hb E.hts inW7 E.hown E.hK hw.1 0 rfl rfl 9 (by decide) hl (fun _ h => h) rfl hdg kk
theorem pK_0_9 (E : EK p s m args meth c D a g cc nL own ret) (hw : WK D a g S s H locs) {x : Int32} {idx : Nat} (hl : (Cond.fieldLink own idx "WagonClearing" "sums" "I").before args s = true) (hdg : decode cc pc = .ok (.putfield idx, 3)) (kk : ∀ (S1 : SS), S1 = st S 0 9 x → ∀ (H1 : Heap) (locs1 : List Loc), WK D a g S1 s H1 locs1 → W p l e R s m args below meth c H1 locs1 cells slots Q (F0 m (pc + 3) ls (rest))) : W p l e R s m args below meth c H locs cells slots Q (F0 m (pc) ls (.int x :: .ref (a 0) :: rest)) :=
  va_put (ci := 7) (C := RX7) (T := TX7) (N := 10) E.hx E.hb E.hts inW7 tyX7 tyX7_ok nmX7 E.hown E.hK hw.1 (E.hD S) hw.2 0 rfl rfl 9 (by decide) hl (fun _ h => h) rfl (tyX7_ok 9 (by decide)) rfl rfl (Nat.le_of_ble_eq_true rfl) hdg (fun H1 locs1 h1 _ h3 => kk _ rfl H1 locs1 ⟨h1, h3⟩)
theorem gK_1_0 (E : EK p s m args meth c D a g cc nL own ret) (hw : WK D a g S s H locs) {idx : Nat} (hl : (Cond.fieldLink own idx "WagonClearing$Network" "oneEnd" "[I").before args s = true) (hdg : decode cc pc = .ok (.getfield idx, 3)) (kk : W p l e R s m args below meth c H locs cells slots Q (F0 m (pc + 3) ls (.ref (a 8) :: rest))) : W p l e R s m args below meth c H locs cells slots Q (F0 m (pc) ls (.ref (a 1) :: rest)) :=
  va_get (ci := 4) (C := RX4) (T := TX4) (N := 6) E.hx E.hb E.hts inW4 E.hown E.hK hw.1 1 rfl rfl 0 (by decide) hl (fun _ h => h) rfl hdg kk
theorem gK_1_1 (E : EK p s m args meth c D a g cc nL own ret) (hw : WK D a g S s H locs) {idx : Nat} (hl : (Cond.fieldLink own idx "WagonClearing$Network" "otherEnd" "[I").before args s = true) (hdg : decode cc pc = .ok (.getfield idx, 3)) (kk : W p l e R s m args below meth c H locs cells slots Q (F0 m (pc + 3) ls (.ref (a 9) :: rest))) : W p l e R s m args below meth c H locs cells slots Q (F0 m (pc) ls (.ref (a 1) :: rest)) :=
  va_get (ci := 4) (C := RX4) (T := TX4) (N := 6) E.hx E.hb E.hts inW4 E.hown E.hK hw.1 1 rfl rfl 1 (by decide) hl (fun _ h => h) rfl hdg kk
theorem gK_1_2 (E : EK p s m args meth c D a g cc nL own ret) (hw : WK D a g S s H locs) {idx : Nat} (hl : (Cond.fieldLink own idx "WagonClearing$Network" "companies" "[I").before args s = true) (hdg : decode cc pc = .ok (.getfield idx, 3)) (kk : W p l e R s m args below meth c H locs cells slots Q (F0 m (pc + 3) ls (.ref (a 10) :: rest))) : W p l e R s m args below meth c H locs cells slots Q (F0 m (pc) ls (.ref (a 1) :: rest)) :=
  va_get (ci := 4) (C := RX4) (T := TX4) (N := 6) E.hx E.hb E.hts inW4 E.hown E.hK hw.1 1 rfl rfl 2 (by decide) hl (fun _ h => h) rfl hdg kk
theorem gK_1_3 (E : EK p s m args meth c D a g cc nL own ret) (hw : WK D a g S s H locs) {idx : Nat} (hl : (Cond.fieldLink own idx "WagonClearing$Network" "miles" "[I").before args s = true) (hdg : decode cc pc = .ok (.getfield idx, 3)) (kk : W p l e R s m args below meth c H locs cells slots Q (F0 m (pc + 3) ls (.ref (a 11) :: rest))) : W p l e R s m args below meth c H locs cells slots Q (F0 m (pc) ls (.ref (a 1) :: rest)) :=
  va_get (ci := 4) (C := RX4) (T := TX4) (N := 6) E.hx E.hb E.hts inW4 E.hown E.hK hw.1 1 rfl rfl 3 (by decide) hl (fun _ h => h) rfl hdg kk
theorem gK_1_4 (E : EK p s m args meth c D a g cc nL own ret) (hw : WK D a g S s H locs) {idx : Nat} (hl : (Cond.fieldLink own idx "WagonClearing$Network" "leasts" "[I").before args s = true) (hdg : decode cc pc = .ok (.getfield idx, 3)) (kk : W p l e R s m args below meth c H locs cells slots Q (F0 m (pc + 3) ls (.ref (a 12) :: rest))) : W p l e R s m args below meth c H locs cells slots Q (F0 m (pc) ls (.ref (a 1) :: rest)) :=
  va_get (ci := 4) (C := RX4) (T := TX4) (N := 6) E.hx E.hb E.hts inW4 E.hown E.hK hw.1 1 rfl rfl 4 (by decide) hl (fun _ h => h) rfl hdg kk
theorem gK_1_5 (E : EK p s m args meth c D a g cc nL own ret) (hw : WK D a g S s H locs) {idx : Nat} (hl : (Cond.fieldLink own idx "WagonClearing$Network" "lines" "I").before args s = true) (hdg : decode cc pc = .ok (.getfield idx, 3)) (kk : W p l e R s m args below meth c H locs cells slots Q (F0 m (pc + 3) ls (.int (S 1 5) :: rest))) : W p l e R s m args below meth c H locs cells slots Q (F0 m (pc) ls (.ref (a 1) :: rest)) :=
  va_get (ci := 4) (C := RX4) (T := TX4) (N := 6) E.hx E.hb E.hts inW4 E.hown E.hK hw.1 1 rfl rfl 5 (by decide) hl (fun _ h => h) rfl hdg kk
theorem pK_1_5 (E : EK p s m args meth c D a g cc nL own ret) (hw : WK D a g S s H locs) {x : Int32} {idx : Nat} (hl : (Cond.fieldLink own idx "WagonClearing$Network" "lines" "I").before args s = true) (hdg : decode cc pc = .ok (.putfield idx, 3)) (kk : ∀ (S1 : SS), S1 = st S 1 5 x → ∀ (H1 : Heap) (locs1 : List Loc), WK D a g S1 s H1 locs1 → W p l e R s m args below meth c H1 locs1 cells slots Q (F0 m (pc + 3) ls (rest))) : W p l e R s m args below meth c H locs cells slots Q (F0 m (pc) ls (.int x :: .ref (a 1) :: rest)) :=
  va_put (ci := 4) (C := RX4) (T := TX4) (N := 6) E.hx E.hb E.hts inW4 tyX4 tyX4_ok nmX4 E.hown E.hK hw.1 (E.hD S) hw.2 1 rfl rfl 5 (by decide) hl (fun _ h => h) rfl (tyX4_ok 5 (by decide)) rfl rfl (Nat.le_of_ble_eq_true rfl) hdg (fun H1 locs1 h1 _ h3 => kk _ rfl H1 locs1 ⟨h1, h3⟩)
theorem gK_2_0 (E : EK p s m args meth c D a g cc nL own ret) (hw : WK D a g S s H locs) {idx : Nat} (hl : (Cond.fieldLink own idx "WagonClearing$Parting" "parts" "[I").before args s = true) (hdg : decode cc pc = .ok (.getfield idx, 3)) (kk : W p l e R s m args below meth c H locs cells slots Q (F0 m (pc + 3) ls (.ref (a 13) :: rest))) : W p l e R s m args below meth c H locs cells slots Q (F0 m (pc) ls (.ref (a 2) :: rest)) :=
  va_get (ci := 5) (C := RX5) (T := TX5) (N := 6) E.hx E.hb E.hts inW5 E.hown E.hK hw.1 2 rfl rfl 0 (by decide) hl (fun _ h => h) rfl hdg kk
theorem gK_2_1 (E : EK p s m args meth c D a g cc nL own ret) (hw : WK D a g S s H locs) {idx : Nat} (hl : (Cond.fieldLink own idx "WagonClearing$Parting" "milesOf" "[I").before args s = true) (hdg : decode cc pc = .ok (.getfield idx, 3)) (kk : W p l e R s m args below meth c H locs cells slots Q (F0 m (pc + 3) ls (.ref (a 14) :: rest))) : W p l e R s m args below meth c H locs cells slots Q (F0 m (pc) ls (.ref (a 2) :: rest)) :=
  va_get (ci := 5) (C := RX5) (T := TX5) (N := 6) E.hx E.hb E.hts inW5 E.hown E.hK hw.1 2 rfl rfl 1 (by decide) hl (fun _ h => h) rfl hdg kk
theorem gK_2_2 (E : EK p s m args meth c D a g cc nL own ret) (hw : WK D a g S s H locs) {idx : Nat} (hl : (Cond.fieldLink own idx "WagonClearing$Parting" "cutOff" "[I").before args s = true) (hdg : decode cc pc = .ok (.getfield idx, 3)) (kk : W p l e R s m args below meth c H locs cells slots Q (F0 m (pc + 3) ls (.ref (a 15) :: rest))) : W p l e R s m args below meth c H locs cells slots Q (F0 m (pc) ls (.ref (a 2) :: rest)) :=
  va_get (ci := 5) (C := RX5) (T := TX5) (N := 6) E.hx E.hb E.hts inW5 E.hown E.hK hw.1 2 rfl rfl 2 (by decide) hl (fun _ h => h) rfl hdg kk
theorem gK_2_3 (E : EK p s m args meth c D a g cc nL own ret) (hw : WK D a g S s H locs) {idx : Nat} (hl : (Cond.fieldLink own idx "WagonClearing$Parting" "network" "LWagonClearing$Network;").before args s = true) (hdg : decode cc pc = .ok (.getfield idx, 3)) (kk : W p l e R s m args below meth c H locs cells slots Q (F0 m (pc + 3) ls (.ref (a 1) :: rest))) : W p l e R s m args below meth c H locs cells slots Q (F0 m (pc) ls (.ref (a 2) :: rest)) :=
  va_get (ci := 5) (C := RX5) (T := TX5) (N := 6) E.hx E.hb E.hts inW5 E.hown E.hK hw.1 2 rfl rfl 3 (by decide) hl (fun _ h => h) rfl hdg kk
theorem gK_2_4 (E : EK p s m args meth c D a g cc nL own ret) (hw : WK D a g S s H locs) {idx : Nat} (hl : (Cond.fieldLink own idx "WagonClearing$Parting" "firstCompany" "I").before args s = true) (hdg : decode cc pc = .ok (.getfield idx, 3)) (kk : W p l e R s m args below meth c H locs cells slots Q (F0 m (pc + 3) ls (.int (S 2 4) :: rest))) : W p l e R s m args below meth c H locs cells slots Q (F0 m (pc) ls (.ref (a 2) :: rest)) :=
  va_get (ci := 5) (C := RX5) (T := TX5) (N := 6) E.hx E.hb E.hts inW5 E.hown E.hK hw.1 2 rfl rfl 4 (by decide) hl (fun _ h => h) rfl hdg kk
theorem pK_2_4 (E : EK p s m args meth c D a g cc nL own ret) (hw : WK D a g S s H locs) {x : Int32} {idx : Nat} (hl : (Cond.fieldLink own idx "WagonClearing$Parting" "firstCompany" "I").before args s = true) (hdg : decode cc pc = .ok (.putfield idx, 3)) (kk : ∀ (S1 : SS), S1 = st S 2 4 x → ∀ (H1 : Heap) (locs1 : List Loc), WK D a g S1 s H1 locs1 → W p l e R s m args below meth c H1 locs1 cells slots Q (F0 m (pc + 3) ls (rest))) : W p l e R s m args below meth c H locs cells slots Q (F0 m (pc) ls (.int x :: .ref (a 2) :: rest)) :=
  va_put (ci := 5) (C := RX5) (T := TX5) (N := 6) E.hx E.hb E.hts inW5 tyX5 tyX5_ok nmX5 E.hown E.hK hw.1 (E.hD S) hw.2 2 rfl rfl 4 (by decide) hl (fun _ h => h) rfl (tyX5_ok 4 (by decide)) rfl rfl (Nat.le_of_ble_eq_true rfl) hdg (fun H1 locs1 h1 _ h3 => kk _ rfl H1 locs1 ⟨h1, h3⟩)
theorem gK_2_5 (E : EK p s m args meth c D a g cc nL own ret) (hw : WK D a g S s H locs) {idx : Nat} (hl : (Cond.fieldLink own idx "WagonClearing$Parting" "lastCompany" "I").before args s = true) (hdg : decode cc pc = .ok (.getfield idx, 3)) (kk : W p l e R s m args below meth c H locs cells slots Q (F0 m (pc + 3) ls (.int (S 2 5) :: rest))) : W p l e R s m args below meth c H locs cells slots Q (F0 m (pc) ls (.ref (a 2) :: rest)) :=
  va_get (ci := 5) (C := RX5) (T := TX5) (N := 6) E.hx E.hb E.hts inW5 E.hown E.hK hw.1 2 rfl rfl 5 (by decide) hl (fun _ h => h) rfl hdg kk
theorem pK_2_5 (E : EK p s m args meth c D a g cc nL own ret) (hw : WK D a g S s H locs) {x : Int32} {idx : Nat} (hl : (Cond.fieldLink own idx "WagonClearing$Parting" "lastCompany" "I").before args s = true) (hdg : decode cc pc = .ok (.putfield idx, 3)) (kk : ∀ (S1 : SS), S1 = st S 2 5 x → ∀ (H1 : Heap) (locs1 : List Loc), WK D a g S1 s H1 locs1 → W p l e R s m args below meth c H1 locs1 cells slots Q (F0 m (pc + 3) ls (rest))) : W p l e R s m args below meth c H locs cells slots Q (F0 m (pc) ls (.int x :: .ref (a 2) :: rest)) :=
  va_put (ci := 5) (C := RX5) (T := TX5) (N := 6) E.hx E.hb E.hts inW5 tyX5 tyX5_ok nmX5 E.hown E.hK hw.1 (E.hD S) hw.2 2 rfl rfl 5 (by decide) hl (fun _ h => h) rfl (tyX5_ok 5 (by decide)) rfl rfl (Nat.le_of_ble_eq_true rfl) hdg (fun H1 locs1 h1 _ h3 => kk _ rfl H1 locs1 ⟨h1, h3⟩)
theorem gK_3_0 (E : EK p s m args meth c D a g cc nL own ret) (hw : WK D a g S s H locs) {idx : Nat} (hl : (Cond.fieldLink own idx "WagonClearing$Register" "marks" "[I").before args s = true) (hdg : decode cc pc = .ok (.getfield idx, 3)) (kk : W p l e R s m args below meth c H locs cells slots Q (F0 m (pc + 3) ls (.ref (a 16) :: rest))) : W p l e R s m args below meth c H locs cells slots Q (F0 m (pc) ls (.ref (a 3) :: rest)) :=
  va_get (ci := 6) (C := RX6) (T := TX6) (N := 8) E.hx E.hb E.hts inW6 E.hown E.hK hw.1 3 rfl rfl 0 (by decide) hl (fun _ h => h) rfl hdg kk
theorem gK_3_1 (E : EK p s m args meth c D a g cc nL own ret) (hw : WK D a g S s H locs) {idx : Nat} (hl : (Cond.fieldLink own idx "WagonClearing$Register" "owners" "[I").before args s = true) (hdg : decode cc pc = .ok (.getfield idx, 3)) (kk : W p l e R s m args below meth c H locs cells slots Q (F0 m (pc + 3) ls (.ref (a 17) :: rest))) : W p l e R s m args below meth c H locs cells slots Q (F0 m (pc) ls (.ref (a 3) :: rest)) :=
  va_get (ci := 6) (C := RX6) (T := TX6) (N := 8) E.hx E.hb E.hts inW6 E.hown E.hK hw.1 3 rfl rfl 1 (by decide) hl (fun _ h => h) rfl hdg kk
theorem gK_3_2 (E : EK p s m args meth c D a g cc nL own ret) (hw : WK D a g S s H locs) {idx : Nat} (hl : (Cond.fieldLink own idx "WagonClearing$Register" "wagons" "I").before args s = true) (hdg : decode cc pc = .ok (.getfield idx, 3)) (kk : W p l e R s m args below meth c H locs cells slots Q (F0 m (pc + 3) ls (.int (S 3 2) :: rest))) : W p l e R s m args below meth c H locs cells slots Q (F0 m (pc) ls (.ref (a 3) :: rest)) :=
  va_get (ci := 6) (C := RX6) (T := TX6) (N := 8) E.hx E.hb E.hts inW6 E.hown E.hK hw.1 3 rfl rfl 2 (by decide) hl (fun _ h => h) rfl hdg kk
theorem pK_3_2 (E : EK p s m args meth c D a g cc nL own ret) (hw : WK D a g S s H locs) {x : Int32} {idx : Nat} (hl : (Cond.fieldLink own idx "WagonClearing$Register" "wagons" "I").before args s = true) (hdg : decode cc pc = .ok (.putfield idx, 3)) (kk : ∀ (S1 : SS), S1 = st S 3 2 x → ∀ (H1 : Heap) (locs1 : List Loc), WK D a g S1 s H1 locs1 → W p l e R s m args below meth c H1 locs1 cells slots Q (F0 m (pc + 3) ls (rest))) : W p l e R s m args below meth c H locs cells slots Q (F0 m (pc) ls (.int x :: .ref (a 3) :: rest)) :=
  va_put (ci := 6) (C := RX6) (T := TX6) (N := 8) E.hx E.hb E.hts inW6 tyX6 tyX6_ok nmX6 E.hown E.hK hw.1 (E.hD S) hw.2 3 rfl rfl 2 (by decide) hl (fun _ h => h) rfl (tyX6_ok 2 (by decide)) rfl rfl (Nat.le_of_ble_eq_true rfl) hdg (fun H1 locs1 h1 _ h3 => kk _ rfl H1 locs1 ⟨h1, h3⟩)
theorem gK_3_3 (E : EK p s m args meth c D a g cc nL own ret) (hw : WK D a g S s H locs) {idx : Nat} (hl : (Cond.fieldLink own idx "WagonClearing$Register" "written" "[I").before args s = true) (hdg : decode cc pc = .ok (.getfield idx, 3)) (kk : W p l e R s m args below meth c H locs cells slots Q (F0 m (pc + 3) ls (.ref (a 18) :: rest))) : W p l e R s m args below meth c H locs cells slots Q (F0 m (pc) ls (.ref (a 3) :: rest)) :=
  va_get (ci := 6) (C := RX6) (T := TX6) (N := 8) E.hx E.hb E.hts inW6 E.hown E.hK hw.1 3 rfl rfl 3 (by decide) hl (fun _ h => h) rfl hdg kk
theorem gK_3_4 (E : EK p s m args meth c D a g cc nL own ret) (hw : WK D a g S s H locs) {idx : Nat} (hl : (Cond.fieldLink own idx "WagonClearing$Register" "junctions" "[I").before args s = true) (hdg : decode cc pc = .ok (.getfield idx, 3)) (kk : W p l e R s m args below meth c H locs cells slots Q (F0 m (pc + 3) ls (.ref (a 19) :: rest))) : W p l e R s m args below meth c H locs cells slots Q (F0 m (pc) ls (.ref (a 3) :: rest)) :=
  va_get (ci := 6) (C := RX6) (T := TX6) (N := 8) E.hx E.hb E.hts inW6 E.hown E.hK hw.1 3 rfl rfl 4 (by decide) hl (fun _ h => h) rfl hdg kk
theorem gK_3_5 (E : EK p s m args meth c D a g cc nL own ret) (hw : WK D a g S s H locs) {idx : Nat} (hl : (Cond.fieldLink own idx "WagonClearing$Register" "days" "[I").before args s = true) (hdg : decode cc pc = .ok (.getfield idx, 3)) (kk : W p l e R s m args below meth c H locs cells slots Q (F0 m (pc + 3) ls (.ref (a 20) :: rest))) : W p l e R s m args below meth c H locs cells slots Q (F0 m (pc) ls (.ref (a 3) :: rest)) :=
  va_get (ci := 6) (C := RX6) (T := TX6) (N := 8) E.hx E.hb E.hts inW6 E.hown E.hK hw.1 3 rfl rfl 5 (by decide) hl (fun _ h => h) rfl hdg kk
theorem gK_3_6 (E : EK p s m args meth c D a g cc nL own ret) (hw : WK D a g S s H locs) {idx : Nat} (hl : (Cond.fieldLink own idx "WagonClearing$Register" "companies" "[I").before args s = true) (hdg : decode cc pc = .ok (.getfield idx, 3)) (kk : W p l e R s m args below meth c H locs cells slots Q (F0 m (pc + 3) ls (.ref (a 21) :: rest))) : W p l e R s m args below meth c H locs cells slots Q (F0 m (pc) ls (.ref (a 3) :: rest)) :=
  va_get (ci := 6) (C := RX6) (T := TX6) (N := 8) E.hx E.hb E.hts inW6 E.hown E.hK hw.1 3 rfl rfl 6 (by decide) hl (fun _ h => h) rfl hdg kk
theorem gK_3_7 (E : EK p s m args meth c D a g cc nL own ret) (hw : WK D a g S s H locs) {idx : Nat} (hl : (Cond.fieldLink own idx "WagonClearing$Register" "sights" "I").before args s = true) (hdg : decode cc pc = .ok (.getfield idx, 3)) (kk : W p l e R s m args below meth c H locs cells slots Q (F0 m (pc + 3) ls (.int (S 3 7) :: rest))) : W p l e R s m args below meth c H locs cells slots Q (F0 m (pc) ls (.ref (a 3) :: rest)) :=
  va_get (ci := 6) (C := RX6) (T := TX6) (N := 8) E.hx E.hb E.hts inW6 E.hown E.hK hw.1 3 rfl rfl 7 (by decide) hl (fun _ h => h) rfl hdg kk
theorem pK_3_7 (E : EK p s m args meth c D a g cc nL own ret) (hw : WK D a g S s H locs) {x : Int32} {idx : Nat} (hl : (Cond.fieldLink own idx "WagonClearing$Register" "sights" "I").before args s = true) (hdg : decode cc pc = .ok (.putfield idx, 3)) (kk : ∀ (S1 : SS), S1 = st S 3 7 x → ∀ (H1 : Heap) (locs1 : List Loc), WK D a g S1 s H1 locs1 → W p l e R s m args below meth c H1 locs1 cells slots Q (F0 m (pc + 3) ls (rest))) : W p l e R s m args below meth c H locs cells slots Q (F0 m (pc) ls (.int x :: .ref (a 3) :: rest)) :=
  va_put (ci := 6) (C := RX6) (T := TX6) (N := 8) E.hx E.hb E.hts inW6 tyX6 tyX6_ok nmX6 E.hown E.hK hw.1 (E.hD S) hw.2 3 rfl rfl 7 (by decide) hl (fun _ h => h) rfl (tyX6_ok 7 (by decide)) rfl rfl (Nat.le_of_ble_eq_true rfl) hdg (fun H1 locs1 h1 _ h3 => kk _ rfl H1 locs1 ⟨h1, h3⟩)
theorem gK_4_0 (E : EK p s m args meth c D a g cc nL own ret) (hw : WK D a g S s H locs) {idx : Nat} (hl : (Cond.fieldLink own idx "WagonClearing$Joining" "network" "LWagonClearing$Network;").before args s = true) (hdg : decode cc pc = .ok (.getfield idx, 3)) (kk : W p l e R s m args below meth c H locs cells slots Q (F0 m (pc + 3) ls (.ref (a 1) :: rest))) : W p l e R s m args below meth c H locs cells slots Q (F0 m (pc) ls (.ref (a 4) :: rest)) :=
  va_get (ci := 2) (C := RX2) (T := TX2) (N := 9) E.hx E.hb E.hts inW2 E.hown E.hK hw.1 4 rfl rfl 0 (by decide) hl (fun _ h => h) rfl hdg kk
theorem gK_4_1 (E : EK p s m args meth c D a g cc nL own ret) (hw : WK D a g S s H locs) {idx : Nat} (hl : (Cond.fieldLink own idx "WagonClearing$Joining" "register" "LWagonClearing$Register;").before args s = true) (hdg : decode cc pc = .ok (.getfield idx, 3)) (kk : W p l e R s m args below meth c H locs cells slots Q (F0 m (pc + 3) ls (.ref (a 3) :: rest))) : W p l e R s m args below meth c H locs cells slots Q (F0 m (pc) ls (.ref (a 4) :: rest)) :=
  va_get (ci := 2) (C := RX2) (T := TX2) (N := 9) E.hx E.hb E.hts inW2 E.hown E.hK hw.1 4 rfl rfl 1 (by decide) hl (fun _ h => h) rfl hdg kk
theorem gK_4_2 (E : EK p s m args meth c D a g cc nL own ret) (hw : WK D a g S s H locs) {idx : Nat} (hl : (Cond.fieldLink own idx "WagonClearing$Joining" "errors" "[I").before args s = true) (hdg : decode cc pc = .ok (.getfield idx, 3)) (kk : W p l e R s m args below meth c H locs cells slots Q (F0 m (pc + 3) ls (.ref (a 22) :: rest))) : W p l e R s m args below meth c H locs cells slots Q (F0 m (pc) ls (.ref (a 4) :: rest)) :=
  va_get (ci := 2) (C := RX2) (T := TX2) (N := 9) E.hx E.hb E.hts inW2 E.hown E.hK hw.1 4 rfl rfl 2 (by decide) hl (fun _ h => h) rfl hdg kk
theorem gK_4_3 (E : EK p s m args meth c D a g cc nL own ret) (hw : WK D a g S s H locs) {idx : Nat} (hl : (Cond.fieldLink own idx "WagonClearing$Joining" "floors" "[I").before args s = true) (hdg : decode cc pc = .ok (.getfield idx, 3)) (kk : W p l e R s m args below meth c H locs cells slots Q (F0 m (pc + 3) ls (.ref (a 23) :: rest))) : W p l e R s m args below meth c H locs cells slots Q (F0 m (pc) ls (.ref (a 4) :: rest)) :=
  va_get (ci := 2) (C := RX2) (T := TX2) (N := 9) E.hx E.hb E.hts inW2 E.hown E.hK hw.1 4 rfl rfl 3 (by decide) hl (fun _ h => h) rfl hdg kk
theorem gK_4_4 (E : EK p s m args meth c D a g cc nL own ret) (hw : WK D a g S s H locs) {idx : Nat} (hl : (Cond.fieldLink own idx "WagonClearing$Joining" "tried" "[I").before args s = true) (hdg : decode cc pc = .ok (.getfield idx, 3)) (kk : W p l e R s m args below meth c H locs cells slots Q (F0 m (pc + 3) ls (.ref (a 24) :: rest))) : W p l e R s m args below meth c H locs cells slots Q (F0 m (pc) ls (.ref (a 4) :: rest)) :=
  va_get (ci := 2) (C := RX2) (T := TX2) (N := 9) E.hx E.hb E.hts inW2 E.hown E.hK hw.1 4 rfl rfl 4 (by decide) hl (fun _ h => h) rfl hdg kk
theorem gK_4_5 (E : EK p s m args meth c D a g cc nL own ret) (hw : WK D a g S s H locs) {idx : Nat} (hl : (Cond.fieldLink own idx "WagonClearing$Joining" "latest" "[I").before args s = true) (hdg : decode cc pc = .ok (.getfield idx, 3)) (kk : W p l e R s m args below meth c H locs cells slots Q (F0 m (pc + 3) ls (.ref (a 25) :: rest))) : W p l e R s m args below meth c H locs cells slots Q (F0 m (pc) ls (.ref (a 4) :: rest)) :=
  va_get (ci := 2) (C := RX2) (T := TX2) (N := 9) E.hx E.hb E.hts inW2 E.hown E.hK hw.1 4 rfl rfl 5 (by decide) hl (fun _ h => h) rfl hdg kk
theorem gK_4_6 (E : EK p s m args meth c D a g cc nL own ret) (hw : WK D a g S s H locs) {idx : Nat} (hl : (Cond.fieldLink own idx "WagonClearing$Joining" "best" "[I").before args s = true) (hdg : decode cc pc = .ok (.getfield idx, 3)) (kk : W p l e R s m args below meth c H locs cells slots Q (F0 m (pc + 3) ls (.ref (a 26) :: rest))) : W p l e R s m args below meth c H locs cells slots Q (F0 m (pc) ls (.ref (a 4) :: rest)) :=
  va_get (ci := 2) (C := RX2) (T := TX2) (N := 9) E.hx E.hb E.hts inW2 E.hown E.hK hw.1 4 rfl rfl 6 (by decide) hl (fun _ h => h) rfl hdg kk
theorem gK_4_7 (E : EK p s m args meth c D a g cc nL own ret) (hw : WK D a g S s H locs) {idx : Nat} (hl : (Cond.fieldLink own idx "WagonClearing$Joining" "bestCost" "I").before args s = true) (hdg : decode cc pc = .ok (.getfield idx, 3)) (kk : W p l e R s m args below meth c H locs cells slots Q (F0 m (pc + 3) ls (.int (S 4 7) :: rest))) : W p l e R s m args below meth c H locs cells slots Q (F0 m (pc) ls (.ref (a 4) :: rest)) :=
  va_get (ci := 2) (C := RX2) (T := TX2) (N := 9) E.hx E.hb E.hts inW2 E.hown E.hK hw.1 4 rfl rfl 7 (by decide) hl (fun _ h => h) rfl hdg kk
theorem pK_4_7 (E : EK p s m args meth c D a g cc nL own ret) (hw : WK D a g S s H locs) {x : Int32} {idx : Nat} (hl : (Cond.fieldLink own idx "WagonClearing$Joining" "bestCost" "I").before args s = true) (hdg : decode cc pc = .ok (.putfield idx, 3)) (kk : ∀ (S1 : SS), S1 = st S 4 7 x → ∀ (H1 : Heap) (locs1 : List Loc), WK D a g S1 s H1 locs1 → W p l e R s m args below meth c H1 locs1 cells slots Q (F0 m (pc + 3) ls (rest))) : W p l e R s m args below meth c H locs cells slots Q (F0 m (pc) ls (.int x :: .ref (a 4) :: rest)) :=
  va_put (ci := 2) (C := RX2) (T := TX2) (N := 9) E.hx E.hb E.hts inW2 tyX2 tyX2_ok nmX2 E.hown E.hK hw.1 (E.hD S) hw.2 4 rfl rfl 7 (by decide) hl (fun _ h => h) rfl (tyX2_ok 7 (by decide)) rfl rfl (Nat.le_of_ble_eq_true rfl) hdg (fun H1 locs1 h1 _ h3 => kk _ rfl H1 locs1 ⟨h1, h3⟩)
theorem gK_4_8 (E : EK p s m args meth c D a g cc nL own ret) (hw : WK D a g S s H locs) {idx : Nat} (hl : (Cond.fieldLink own idx "WagonClearing$Joining" "known" "Z").before args s = true) (hdg : decode cc pc = .ok (.getfield idx, 3)) (kk : W p l e R s m args below meth c H locs cells slots Q (F0 m (pc + 3) ls (.int (S 4 8) :: rest))) : W p l e R s m args below meth c H locs cells slots Q (F0 m (pc) ls (.ref (a 4) :: rest)) :=
  va_get (ci := 2) (C := RX2) (T := TX2) (N := 9) E.hx E.hb E.hts inW2 E.hown E.hK hw.1 4 rfl rfl 8 (by decide) hl (fun _ h => h) rfl hdg kk
theorem pK_4_8 (E : EK p s m args meth c D a g cc nL own ret) (hw : WK D a g S s H locs) {x : Int32} (hn : narrow .boolean (.int x) = .int x) (hf : fits .boolean (.int x) = true) {idx : Nat} (hl : (Cond.fieldLink own idx "WagonClearing$Joining" "known" "Z").before args s = true) (hdg : decode cc pc = .ok (.putfield idx, 3)) (kk : ∀ (S1 : SS), S1 = st S 4 8 x → ∀ (H1 : Heap) (locs1 : List Loc), WK D a g S1 s H1 locs1 → W p l e R s m args below meth c H1 locs1 cells slots Q (F0 m (pc + 3) ls (rest))) : W p l e R s m args below meth c H locs cells slots Q (F0 m (pc) ls (.int x :: .ref (a 4) :: rest)) :=
  va_put (ci := 2) (C := RX2) (T := TX2) (N := 9) E.hx E.hb E.hts inW2 tyX2 tyX2_ok nmX2 E.hown E.hK hw.1 (E.hD S) hw.2 4 rfl rfl 8 (by decide) hl (fun _ h => h) rfl (tyX2_ok 8 (by decide)) hn hf (Nat.le_of_ble_eq_true rfl) hdg (fun H1 locs1 h1 _ h3 => kk _ rfl H1 locs1 ⟨h1, h3⟩)
theorem gK_5_0 (E : EK p s m args meth c D a g cc nL own ret) (hw : WK D a g S s H locs) {idx : Nat} (hl : (Cond.fieldLink own idx "WagonClearing$Charging" "register" "LWagonClearing$Register;").before args s = true) (hdg : decode cc pc = .ok (.getfield idx, 3)) (kk : W p l e R s m args below meth c H locs cells slots Q (F0 m (pc + 3) ls (.ref (a 3) :: rest))) : W p l e R s m args below meth c H locs cells slots Q (F0 m (pc) ls (.ref (a 5) :: rest)) :=
  va_get (ci := 0) (C := RX0) (T := TX0) (N := 4) E.hx E.hb E.hts inW0 E.hown E.hK hw.1 5 rfl rfl 0 (by decide) hl (fun _ h => h) rfl hdg kk
theorem gK_5_1 (E : EK p s m args meth c D a g cc nL own ret) (hw : WK D a g S s H locs) {idx : Nat} (hl : (Cond.fieldLink own idx "WagonClearing$Charging" "joining" "LWagonClearing$Joining;").before args s = true) (hdg : decode cc pc = .ok (.getfield idx, 3)) (kk : W p l e R s m args below meth c H locs cells slots Q (F0 m (pc + 3) ls (.ref (a 4) :: rest))) : W p l e R s m args below meth c H locs cells slots Q (F0 m (pc) ls (.ref (a 5) :: rest)) :=
  va_get (ci := 0) (C := RX0) (T := TX0) (N := 4) E.hx E.hb E.hts inW0 E.hown E.hK hw.1 5 rfl rfl 1 (by decide) hl (fun _ h => h) rfl hdg kk
theorem gK_5_2 (E : EK p s m args meth c D a g cc nL own ret) (hw : WK D a g S s H locs) {idx : Nat} (hl : (Cond.fieldLink own idx "WagonClearing$Charging" "freeDays" "I").before args s = true) (hdg : decode cc pc = .ok (.getfield idx, 3)) (kk : W p l e R s m args below meth c H locs cells slots Q (F0 m (pc + 3) ls (.int (S 5 2) :: rest))) : W p l e R s m args below meth c H locs cells slots Q (F0 m (pc) ls (.ref (a 5) :: rest)) :=
  va_get (ci := 0) (C := RX0) (T := TX0) (N := 4) E.hx E.hb E.hts inW0 E.hown E.hK hw.1 5 rfl rfl 2 (by decide) hl (fun _ h => h) rfl hdg kk
theorem pK_5_2 (E : EK p s m args meth c D a g cc nL own ret) (hw : WK D a g S s H locs) {x : Int32} {idx : Nat} (hl : (Cond.fieldLink own idx "WagonClearing$Charging" "freeDays" "I").before args s = true) (hdg : decode cc pc = .ok (.putfield idx, 3)) (kk : ∀ (S1 : SS), S1 = st S 5 2 x → ∀ (H1 : Heap) (locs1 : List Loc), WK D a g S1 s H1 locs1 → W p l e R s m args below meth c H1 locs1 cells slots Q (F0 m (pc + 3) ls (rest))) : W p l e R s m args below meth c H locs cells slots Q (F0 m (pc) ls (.int x :: .ref (a 5) :: rest)) :=
  va_put (ci := 0) (C := RX0) (T := TX0) (N := 4) E.hx E.hb E.hts inW0 tyX0 tyX0_ok nmX0 E.hown E.hK hw.1 (E.hD S) hw.2 5 rfl rfl 2 (by decide) hl (fun _ h => h) rfl (tyX0_ok 2 (by decide)) rfl rfl (Nat.le_of_ble_eq_true rfl) hdg (fun H1 locs1 h1 _ h3 => kk _ rfl H1 locs1 ⟨h1, h3⟩)
theorem gK_5_3 (E : EK p s m args meth c D a g cc nL own ret) (hw : WK D a g S s H locs) {idx : Nat} (hl : (Cond.fieldLink own idx "WagonClearing$Charging" "dayPrice" "I").before args s = true) (hdg : decode cc pc = .ok (.getfield idx, 3)) (kk : W p l e R s m args below meth c H locs cells slots Q (F0 m (pc + 3) ls (.int (S 5 3) :: rest))) : W p l e R s m args below meth c H locs cells slots Q (F0 m (pc) ls (.ref (a 5) :: rest)) :=
  va_get (ci := 0) (C := RX0) (T := TX0) (N := 4) E.hx E.hb E.hts inW0 E.hown E.hK hw.1 5 rfl rfl 3 (by decide) hl (fun _ h => h) rfl hdg kk
theorem pK_5_3 (E : EK p s m args meth c D a g cc nL own ret) (hw : WK D a g S s H locs) {x : Int32} {idx : Nat} (hl : (Cond.fieldLink own idx "WagonClearing$Charging" "dayPrice" "I").before args s = true) (hdg : decode cc pc = .ok (.putfield idx, 3)) (kk : ∀ (S1 : SS), S1 = st S 5 3 x → ∀ (H1 : Heap) (locs1 : List Loc), WK D a g S1 s H1 locs1 → W p l e R s m args below meth c H1 locs1 cells slots Q (F0 m (pc + 3) ls (rest))) : W p l e R s m args below meth c H locs cells slots Q (F0 m (pc) ls (.int x :: .ref (a 5) :: rest)) :=
  va_put (ci := 0) (C := RX0) (T := TX0) (N := 4) E.hx E.hb E.hts inW0 tyX0 tyX0_ok nmX0 E.hown E.hK hw.1 (E.hD S) hw.2 5 rfl rfl 3 (by decide) hl (fun _ h => h) rfl (tyX0_ok 3 (by decide)) rfl rfl (Nat.le_of_ble_eq_true rfl) hdg (fun H1 locs1 h1 _ h3 => kk _ rfl H1 locs1 ⟨h1, h3⟩)
theorem gK_6_0 (E : EK p s m args meth c D a g cc nL own ret) (hw : WK D a g S s H locs) {idx : Nat} (hl : (Cond.fieldLink own idx "WagonClearing$Grouping" "totals" "[I").before args s = true) (hdg : decode cc pc = .ok (.getfield idx, 3)) (kk : W p l e R s m args below meth c H locs cells slots Q (F0 m (pc + 3) ls (.ref (a 27) :: rest))) : W p l e R s m args below meth c H locs cells slots Q (F0 m (pc) ls (.ref (a 6) :: rest)) :=
  va_get (ci := 1) (C := RX1) (T := TX1) (N := 3) E.hx E.hb E.hts inW1 E.hown E.hK hw.1 6 rfl rfl 0 (by decide) hl (fun _ h => h) rfl hdg kk
theorem gK_6_1 (E : EK p s m args meth c D a g cc nL own ret) (hw : WK D a g S s H locs) {idx : Nat} (hl : (Cond.fieldLink own idx "WagonClearing$Grouping" "most" "[I").before args s = true) (hdg : decode cc pc = .ok (.getfield idx, 3)) (kk : W p l e R s m args below meth c H locs cells slots Q (F0 m (pc + 3) ls (.ref (a 28) :: rest))) : W p l e R s m args below meth c H locs cells slots Q (F0 m (pc) ls (.ref (a 6) :: rest)) :=
  va_get (ci := 1) (C := RX1) (T := TX1) (N := 3) E.hx E.hb E.hts inW1 E.hown E.hK hw.1 6 rfl rfl 1 (by decide) hl (fun _ h => h) rfl hdg kk
theorem gK_6_2 (E : EK p s m args meth c D a g cc nL own ret) (hw : WK D a g S s H locs) {idx : Nat} (hl : (Cond.fieldLink own idx "WagonClearing$Grouping" "members" "I").before args s = true) (hdg : decode cc pc = .ok (.getfield idx, 3)) (kk : W p l e R s m args below meth c H locs cells slots Q (F0 m (pc + 3) ls (.int (S 6 2) :: rest))) : W p l e R s m args below meth c H locs cells slots Q (F0 m (pc) ls (.ref (a 6) :: rest)) :=
  va_get (ci := 1) (C := RX1) (T := TX1) (N := 3) E.hx E.hb E.hts inW1 E.hown E.hK hw.1 6 rfl rfl 2 (by decide) hl (fun _ h => h) rfl hdg kk
theorem pK_6_2 (E : EK p s m args meth c D a g cc nL own ret) (hw : WK D a g S s H locs) {x : Int32} {idx : Nat} (hl : (Cond.fieldLink own idx "WagonClearing$Grouping" "members" "I").before args s = true) (hdg : decode cc pc = .ok (.putfield idx, 3)) (kk : ∀ (S1 : SS), S1 = st S 6 2 x → ∀ (H1 : Heap) (locs1 : List Loc), WK D a g S1 s H1 locs1 → W p l e R s m args below meth c H1 locs1 cells slots Q (F0 m (pc + 3) ls (rest))) : W p l e R s m args below meth c H locs cells slots Q (F0 m (pc) ls (.int x :: .ref (a 6) :: rest)) :=
  va_put (ci := 1) (C := RX1) (T := TX1) (N := 3) E.hx E.hb E.hts inW1 tyX1 tyX1_ok nmX1 E.hown E.hK hw.1 (E.hD S) hw.2 6 rfl rfl 2 (by decide) hl (fun _ h => h) rfl (tyX1_ok 2 (by decide)) rfl rfl (Nat.le_of_ble_eq_true rfl) hdg (fun H1 locs1 h1 _ h3 => kk _ rfl H1 locs1 ⟨h1, h3⟩)
theorem gK_7_0 (E : EK p s m args meth c D a g cc nL own ret) (hw : WK D a g S s H locs) {idx : Nat} (hl : (Cond.fieldLink own idx "WagonClearing$Leading" "there" "[I").before args s = true) (hdg : decode cc pc = .ok (.getfield idx, 3)) (kk : W p l e R s m args below meth c H locs cells slots Q (F0 m (pc + 3) ls (.ref (a 29) :: rest))) : W p l e R s m args below meth c H locs cells slots Q (F0 m (pc) ls (.ref (a 7) :: rest)) :=
  va_get (ci := 3) (C := RX3) (T := TX3) (N := 10) E.hx E.hb E.hts inW3 E.hown E.hK hw.1 7 rfl rfl 0 (by decide) hl (fun _ h => h) rfl hdg kk
theorem gK_7_1 (E : EK p s m args meth c D a g cc nL own ret) (hw : WK D a g S s H locs) {idx : Nat} (hl : (Cond.fieldLink own idx "WagonClearing$Leading" "wanted" "[I").before args s = true) (hdg : decode cc pc = .ok (.getfield idx, 3)) (kk : W p l e R s m args below meth c H locs cells slots Q (F0 m (pc + 3) ls (.ref (a 30) :: rest))) : W p l e R s m args below meth c H locs cells slots Q (F0 m (pc) ls (.ref (a 7) :: rest)) :=
  va_get (ci := 3) (C := RX3) (T := TX3) (N := 10) E.hx E.hb E.hts inW3 E.hown E.hK hw.1 7 rfl rfl 1 (by decide) hl (fun _ h => h) rfl hdg kk
theorem gK_7_2 (E : EK p s m args meth c D a g cc nL own ret) (hw : WK D a g S s H locs) {idx : Nat} (hl : (Cond.fieldLink own idx "WagonClearing$Leading" "wantsMet" "I").before args s = true) (hdg : decode cc pc = .ok (.getfield idx, 3)) (kk : W p l e R s m args below meth c H locs cells slots Q (F0 m (pc + 3) ls (.int (S 7 2) :: rest))) : W p l e R s m args below meth c H locs cells slots Q (F0 m (pc) ls (.ref (a 7) :: rest)) :=
  va_get (ci := 3) (C := RX3) (T := TX3) (N := 10) E.hx E.hb E.hts inW3 E.hown E.hK hw.1 7 rfl rfl 2 (by decide) hl (fun _ h => h) rfl hdg kk
theorem pK_7_2 (E : EK p s m args meth c D a g cc nL own ret) (hw : WK D a g S s H locs) {x : Int32} {idx : Nat} (hl : (Cond.fieldLink own idx "WagonClearing$Leading" "wantsMet" "I").before args s = true) (hdg : decode cc pc = .ok (.putfield idx, 3)) (kk : ∀ (S1 : SS), S1 = st S 7 2 x → ∀ (H1 : Heap) (locs1 : List Loc), WK D a g S1 s H1 locs1 → W p l e R s m args below meth c H1 locs1 cells slots Q (F0 m (pc + 3) ls (rest))) : W p l e R s m args below meth c H locs cells slots Q (F0 m (pc) ls (.int x :: .ref (a 7) :: rest)) :=
  va_put (ci := 3) (C := RX3) (T := TX3) (N := 10) E.hx E.hb E.hts inW3 tyX3 tyX3_ok nmX3 E.hown E.hK hw.1 (E.hD S) hw.2 7 rfl rfl 2 (by decide) hl (fun _ h => h) rfl (tyX3_ok 2 (by decide)) rfl rfl (Nat.le_of_ble_eq_true rfl) hdg (fun H1 locs1 h1 _ h3 => kk _ rfl H1 locs1 ⟨h1, h3⟩)
theorem gK_7_3 (E : EK p s m args meth c D a g cc nL own ret) (hw : WK D a g S s H locs) {idx : Nat} (hl : (Cond.fieldLink own idx "WagonClearing$Leading" "milesLed" "I").before args s = true) (hdg : decode cc pc = .ok (.getfield idx, 3)) (kk : W p l e R s m args below meth c H locs cells slots Q (F0 m (pc + 3) ls (.int (S 7 3) :: rest))) : W p l e R s m args below meth c H locs cells slots Q (F0 m (pc) ls (.ref (a 7) :: rest)) :=
  va_get (ci := 3) (C := RX3) (T := TX3) (N := 10) E.hx E.hb E.hts inW3 E.hown E.hK hw.1 7 rfl rfl 3 (by decide) hl (fun _ h => h) rfl hdg kk
theorem pK_7_3 (E : EK p s m args meth c D a g cc nL own ret) (hw : WK D a g S s H locs) {x : Int32} {idx : Nat} (hl : (Cond.fieldLink own idx "WagonClearing$Leading" "milesLed" "I").before args s = true) (hdg : decode cc pc = .ok (.putfield idx, 3)) (kk : ∀ (S1 : SS), S1 = st S 7 3 x → ∀ (H1 : Heap) (locs1 : List Loc), WK D a g S1 s H1 locs1 → W p l e R s m args below meth c H1 locs1 cells slots Q (F0 m (pc + 3) ls (rest))) : W p l e R s m args below meth c H locs cells slots Q (F0 m (pc) ls (.int x :: .ref (a 7) :: rest)) :=
  va_put (ci := 3) (C := RX3) (T := TX3) (N := 10) E.hx E.hb E.hts inW3 tyX3 tyX3_ok nmX3 E.hown E.hK hw.1 (E.hD S) hw.2 7 rfl rfl 3 (by decide) hl (fun _ h => h) rfl (tyX3_ok 3 (by decide)) rfl rfl (Nat.le_of_ble_eq_true rfl) hdg (fun H1 locs1 h1 _ h3 => kk _ rfl H1 locs1 ⟨h1, h3⟩)
theorem gK_7_4 (E : EK p s m args meth c D a g cc nL own ret) (hw : WK D a g S s H locs) {idx : Nat} (hl : (Cond.fieldLink own idx "WagonClearing$Leading" "network" "LWagonClearing$Network;").before args s = true) (hdg : decode cc pc = .ok (.getfield idx, 3)) (kk : W p l e R s m args below meth c H locs cells slots Q (F0 m (pc + 3) ls (.ref (a 1) :: rest))) : W p l e R s m args below meth c H locs cells slots Q (F0 m (pc) ls (.ref (a 7) :: rest)) :=
  va_get (ci := 3) (C := RX3) (T := TX3) (N := 10) E.hx E.hb E.hts inW3 E.hown E.hK hw.1 7 rfl rfl 4 (by decide) hl (fun _ h => h) rfl hdg kk
theorem gK_7_5 (E : EK p s m args meth c D a g cc nL own ret) (hw : WK D a g S s H locs) {idx : Nat} (hl : (Cond.fieldLink own idx "WagonClearing$Leading" "spare" "[I").before args s = true) (hdg : decode cc pc = .ok (.getfield idx, 3)) (kk : W p l e R s m args below meth c H locs cells slots Q (F0 m (pc + 3) ls (.ref (a 31) :: rest))) : W p l e R s m args below meth c H locs cells slots Q (F0 m (pc) ls (.ref (a 7) :: rest)) :=
  va_get (ci := 3) (C := RX3) (T := TX3) (N := 10) E.hx E.hb E.hts inW3 E.hown E.hK hw.1 7 rfl rfl 5 (by decide) hl (fun _ h => h) rfl hdg kk
theorem gK_7_6 (E : EK p s m args meth c D a g cc nL own ret) (hw : WK D a g S s H locs) {idx : Nat} (hl : (Cond.fieldLink own idx "WagonClearing$Leading" "moved" "[I").before args s = true) (hdg : decode cc pc = .ok (.getfield idx, 3)) (kk : W p l e R s m args below meth c H locs cells slots Q (F0 m (pc + 3) ls (.ref (a 32) :: rest))) : W p l e R s m args below meth c H locs cells slots Q (F0 m (pc) ls (.ref (a 7) :: rest)) :=
  va_get (ci := 3) (C := RX3) (T := TX3) (N := 10) E.hx E.hb E.hts inW3 E.hown E.hK hw.1 7 rfl rfl 6 (by decide) hl (fun _ h => h) rfl hdg kk
theorem gK_7_7 (E : EK p s m args meth c D a g cc nL own ret) (hw : WK D a g S s H locs) {idx : Nat} (hl : (Cond.fieldLink own idx "WagonClearing$Leading" "reach" "[I").before args s = true) (hdg : decode cc pc = .ok (.getfield idx, 3)) (kk : W p l e R s m args below meth c H locs cells slots Q (F0 m (pc + 3) ls (.ref (a 33) :: rest))) : W p l e R s m args below meth c H locs cells slots Q (F0 m (pc) ls (.ref (a 7) :: rest)) :=
  va_get (ci := 3) (C := RX3) (T := TX3) (N := 10) E.hx E.hb E.hts inW3 E.hown E.hK hw.1 7 rfl rfl 7 (by decide) hl (fun _ h => h) rfl hdg kk
theorem gK_7_8 (E : EK p s m args meth c D a g cc nL own ret) (hw : WK D a g S s H locs) {idx : Nat} (hl : (Cond.fieldLink own idx "WagonClearing$Leading" "before" "[I").before args s = true) (hdg : decode cc pc = .ok (.getfield idx, 3)) (kk : W p l e R s m args below meth c H locs cells slots Q (F0 m (pc + 3) ls (.ref (a 34) :: rest))) : W p l e R s m args below meth c H locs cells slots Q (F0 m (pc) ls (.ref (a 7) :: rest)) :=
  va_get (ci := 3) (C := RX3) (T := TX3) (N := 10) E.hx E.hb E.hts inW3 E.hown E.hK hw.1 7 rfl rfl 8 (by decide) hl (fun _ h => h) rfl hdg kk
theorem gK_7_9 (E : EK p s m args meth c D a g cc nL own ret) (hw : WK D a g S s H locs) {idx : Nat} (hl : (Cond.fieldLink own idx "WagonClearing$Leading" "known" "Z").before args s = true) (hdg : decode cc pc = .ok (.getfield idx, 3)) (kk : W p l e R s m args below meth c H locs cells slots Q (F0 m (pc + 3) ls (.int (S 7 9) :: rest))) : W p l e R s m args below meth c H locs cells slots Q (F0 m (pc) ls (.ref (a 7) :: rest)) :=
  va_get (ci := 3) (C := RX3) (T := TX3) (N := 10) E.hx E.hb E.hts inW3 E.hown E.hK hw.1 7 rfl rfl 9 (by decide) hl (fun _ h => h) rfl hdg kk
theorem pK_7_9 (E : EK p s m args meth c D a g cc nL own ret) (hw : WK D a g S s H locs) {x : Int32} (hn : narrow .boolean (.int x) = .int x) (hf : fits .boolean (.int x) = true) {idx : Nat} (hl : (Cond.fieldLink own idx "WagonClearing$Leading" "known" "Z").before args s = true) (hdg : decode cc pc = .ok (.putfield idx, 3)) (kk : ∀ (S1 : SS), S1 = st S 7 9 x → ∀ (H1 : Heap) (locs1 : List Loc), WK D a g S1 s H1 locs1 → W p l e R s m args below meth c H1 locs1 cells slots Q (F0 m (pc + 3) ls (rest))) : W p l e R s m args below meth c H locs cells slots Q (F0 m (pc) ls (.int x :: .ref (a 7) :: rest)) :=
  va_put (ci := 3) (C := RX3) (T := TX3) (N := 10) E.hx E.hb E.hts inW3 tyX3 tyX3_ok nmX3 E.hown E.hK hw.1 (E.hD S) hw.2 7 rfl rfl 9 (by decide) hl (fun _ h => h) rfl (tyX3_ok 9 (by decide)) hn hf (Nat.le_of_ble_eq_true rfl) hdg (fun H1 locs1 h1 _ h3 => kk _ rfl H1 locs1 ⟨h1, h3⟩)
theorem lK_8 (E : EK p s m args meth c D a g cc nL own ret) (hw : WK D a g S s H locs) {i : Int32} (hin : vp_in i 24) (hdg : decode cc pc = .ok (.iaload, 1)) (kk : ∀ v : Int32, v = (S 8) i.toNatClampNeg → W p l e R s m args below meth c H locs cells slots Q (F0 m (pc + 1) ls (.int v :: rest))) : W p l e R s m args below meth c H locs cells slots Q (F0 m (pc) ls (.int i :: .ref (a 8) :: rest)) :=
  va_iald E.hx E.hb E.hK hw.1 8 0 rfl rfl hin hdg (kk _ rfl)
theorem sK_8 (E : EK p s m args meth c D a g cc nL own ret) (hw : WK D a g S s H locs) {i : Int32} {x : Int32} (hin : vp_in i 24) (hdg : decode cc pc = .ok (.iastore, 1)) (kk : ∀ (S1 : SS), S1 = st S 8 i.toNatClampNeg x → ∀ (H1 : Heap) (locs1 : List Loc), WK D a g S1 s H1 locs1 → W p l e R s m args below meth c H1 locs1 cells slots Q (F0 m (pc + 1) ls (rest))) : W p l e R s m args below meth c H locs cells slots Q (F0 m (pc) ls (.int x :: .int i :: .ref (a 8) :: rest)) :=
  va_iast E.hx E.hb E.hK hw.1 (E.hD S) hw.2 8 0 rfl rfl hin hdg (fun H1 locs1 h1 _ h3 => kk _ rfl H1 locs1 ⟨h1, h3⟩)
theorem lK_9 (E : EK p s m args meth c D a g cc nL own ret) (hw : WK D a g S s H locs) {i : Int32} (hin : vp_in i 24) (hdg : decode cc pc = .ok (.iaload, 1)) (kk : ∀ v : Int32, v = (S 9) i.toNatClampNeg → W p l e R s m args below meth c H locs cells slots Q (F0 m (pc + 1) ls (.int v :: rest))) : W p l e R s m args below meth c H locs cells slots Q (F0 m (pc) ls (.int i :: .ref (a 9) :: rest)) :=
  va_iald E.hx E.hb E.hK hw.1 9 1 rfl rfl hin hdg (kk _ rfl)
theorem sK_9 (E : EK p s m args meth c D a g cc nL own ret) (hw : WK D a g S s H locs) {i : Int32} {x : Int32} (hin : vp_in i 24) (hdg : decode cc pc = .ok (.iastore, 1)) (kk : ∀ (S1 : SS), S1 = st S 9 i.toNatClampNeg x → ∀ (H1 : Heap) (locs1 : List Loc), WK D a g S1 s H1 locs1 → W p l e R s m args below meth c H1 locs1 cells slots Q (F0 m (pc + 1) ls (rest))) : W p l e R s m args below meth c H locs cells slots Q (F0 m (pc) ls (.int x :: .int i :: .ref (a 9) :: rest)) :=
  va_iast E.hx E.hb E.hK hw.1 (E.hD S) hw.2 9 1 rfl rfl hin hdg (fun H1 locs1 h1 _ h3 => kk _ rfl H1 locs1 ⟨h1, h3⟩)
theorem lK_10 (E : EK p s m args meth c D a g cc nL own ret) (hw : WK D a g S s H locs) {i : Int32} (hin : vp_in i 24) (hdg : decode cc pc = .ok (.iaload, 1)) (kk : ∀ v : Int32, v = (S 10) i.toNatClampNeg → W p l e R s m args below meth c H locs cells slots Q (F0 m (pc + 1) ls (.int v :: rest))) : W p l e R s m args below meth c H locs cells slots Q (F0 m (pc) ls (.int i :: .ref (a 10) :: rest)) :=
  va_iald E.hx E.hb E.hK hw.1 10 2 rfl rfl hin hdg (kk _ rfl)
theorem sK_10 (E : EK p s m args meth c D a g cc nL own ret) (hw : WK D a g S s H locs) {i : Int32} {x : Int32} (hin : vp_in i 24) (hdg : decode cc pc = .ok (.iastore, 1)) (kk : ∀ (S1 : SS), S1 = st S 10 i.toNatClampNeg x → ∀ (H1 : Heap) (locs1 : List Loc), WK D a g S1 s H1 locs1 → W p l e R s m args below meth c H1 locs1 cells slots Q (F0 m (pc + 1) ls (rest))) : W p l e R s m args below meth c H locs cells slots Q (F0 m (pc) ls (.int x :: .int i :: .ref (a 10) :: rest)) :=
  va_iast E.hx E.hb E.hK hw.1 (E.hD S) hw.2 10 2 rfl rfl hin hdg (fun H1 locs1 h1 _ h3 => kk _ rfl H1 locs1 ⟨h1, h3⟩)
theorem lK_11 (E : EK p s m args meth c D a g cc nL own ret) (hw : WK D a g S s H locs) {i : Int32} (hin : vp_in i 24) (hdg : decode cc pc = .ok (.iaload, 1)) (kk : ∀ v : Int32, v = (S 11) i.toNatClampNeg → W p l e R s m args below meth c H locs cells slots Q (F0 m (pc + 1) ls (.int v :: rest))) : W p l e R s m args below meth c H locs cells slots Q (F0 m (pc) ls (.int i :: .ref (a 11) :: rest)) :=
  va_iald E.hx E.hb E.hK hw.1 11 3 rfl rfl hin hdg (kk _ rfl)
theorem sK_11 (E : EK p s m args meth c D a g cc nL own ret) (hw : WK D a g S s H locs) {i : Int32} {x : Int32} (hin : vp_in i 24) (hdg : decode cc pc = .ok (.iastore, 1)) (kk : ∀ (S1 : SS), S1 = st S 11 i.toNatClampNeg x → ∀ (H1 : Heap) (locs1 : List Loc), WK D a g S1 s H1 locs1 → W p l e R s m args below meth c H1 locs1 cells slots Q (F0 m (pc + 1) ls (rest))) : W p l e R s m args below meth c H locs cells slots Q (F0 m (pc) ls (.int x :: .int i :: .ref (a 11) :: rest)) :=
  va_iast E.hx E.hb E.hK hw.1 (E.hD S) hw.2 11 3 rfl rfl hin hdg (fun H1 locs1 h1 _ h3 => kk _ rfl H1 locs1 ⟨h1, h3⟩)
theorem lK_12 (E : EK p s m args meth c D a g cc nL own ret) (hw : WK D a g S s H locs) {i : Int32} (hin : vp_in i 144) (hdg : decode cc pc = .ok (.iaload, 1)) (kk : ∀ v : Int32, v = (S 12) i.toNatClampNeg → W p l e R s m args below meth c H locs cells slots Q (F0 m (pc + 1) ls (.int v :: rest))) : W p l e R s m args below meth c H locs cells slots Q (F0 m (pc) ls (.int i :: .ref (a 12) :: rest)) :=
  va_iald E.hx E.hb E.hK hw.1 12 4 rfl rfl hin hdg (kk _ rfl)
theorem sK_12 (E : EK p s m args meth c D a g cc nL own ret) (hw : WK D a g S s H locs) {i : Int32} {x : Int32} (hin : vp_in i 144) (hdg : decode cc pc = .ok (.iastore, 1)) (kk : ∀ (S1 : SS), S1 = st S 12 i.toNatClampNeg x → ∀ (H1 : Heap) (locs1 : List Loc), WK D a g S1 s H1 locs1 → W p l e R s m args below meth c H1 locs1 cells slots Q (F0 m (pc + 1) ls (rest))) : W p l e R s m args below meth c H locs cells slots Q (F0 m (pc) ls (.int x :: .int i :: .ref (a 12) :: rest)) :=
  va_iast E.hx E.hb E.hK hw.1 (E.hD S) hw.2 12 4 rfl rfl hin hdg (fun H1 locs1 h1 _ h3 => kk _ rfl H1 locs1 ⟨h1, h3⟩)
theorem lK_13 (E : EK p s m args meth c D a g cc nL own ret) (hw : WK D a g S s H locs) {i : Int32} (hin : vp_in i 8) (hdg : decode cc pc = .ok (.iaload, 1)) (kk : ∀ v : Int32, v = (S 13) i.toNatClampNeg → W p l e R s m args below meth c H locs cells slots Q (F0 m (pc + 1) ls (.int v :: rest))) : W p l e R s m args below meth c H locs cells slots Q (F0 m (pc) ls (.int i :: .ref (a 13) :: rest)) :=
  va_iald E.hx E.hb E.hK hw.1 13 5 rfl rfl hin hdg (kk _ rfl)
theorem sK_13 (E : EK p s m args meth c D a g cc nL own ret) (hw : WK D a g S s H locs) {i : Int32} {x : Int32} (hin : vp_in i 8) (hdg : decode cc pc = .ok (.iastore, 1)) (kk : ∀ (S1 : SS), S1 = st S 13 i.toNatClampNeg x → ∀ (H1 : Heap) (locs1 : List Loc), WK D a g S1 s H1 locs1 → W p l e R s m args below meth c H1 locs1 cells slots Q (F0 m (pc + 1) ls (rest))) : W p l e R s m args below meth c H locs cells slots Q (F0 m (pc) ls (.int x :: .int i :: .ref (a 13) :: rest)) :=
  va_iast E.hx E.hb E.hK hw.1 (E.hD S) hw.2 13 5 rfl rfl hin hdg (fun H1 locs1 h1 _ h3 => kk _ rfl H1 locs1 ⟨h1, h3⟩)
theorem lK_14 (E : EK p s m args meth c D a g cc nL own ret) (hw : WK D a g S s H locs) {i : Int32} (hin : vp_in i 8) (hdg : decode cc pc = .ok (.iaload, 1)) (kk : ∀ v : Int32, v = (S 14) i.toNatClampNeg → W p l e R s m args below meth c H locs cells slots Q (F0 m (pc + 1) ls (.int v :: rest))) : W p l e R s m args below meth c H locs cells slots Q (F0 m (pc) ls (.int i :: .ref (a 14) :: rest)) :=
  va_iald E.hx E.hb E.hK hw.1 14 6 rfl rfl hin hdg (kk _ rfl)
theorem sK_14 (E : EK p s m args meth c D a g cc nL own ret) (hw : WK D a g S s H locs) {i : Int32} {x : Int32} (hin : vp_in i 8) (hdg : decode cc pc = .ok (.iastore, 1)) (kk : ∀ (S1 : SS), S1 = st S 14 i.toNatClampNeg x → ∀ (H1 : Heap) (locs1 : List Loc), WK D a g S1 s H1 locs1 → W p l e R s m args below meth c H1 locs1 cells slots Q (F0 m (pc + 1) ls (rest))) : W p l e R s m args below meth c H locs cells slots Q (F0 m (pc) ls (.int x :: .int i :: .ref (a 14) :: rest)) :=
  va_iast E.hx E.hb E.hK hw.1 (E.hD S) hw.2 14 6 rfl rfl hin hdg (fun H1 locs1 h1 _ h3 => kk _ rfl H1 locs1 ⟨h1, h3⟩)
theorem lK_15 (E : EK p s m args meth c D a g cc nL own ret) (hw : WK D a g S s H locs) {i : Int32} (hin : vp_in i 8) (hdg : decode cc pc = .ok (.iaload, 1)) (kk : ∀ v : Int32, v = (S 15) i.toNatClampNeg → W p l e R s m args below meth c H locs cells slots Q (F0 m (pc + 1) ls (.int v :: rest))) : W p l e R s m args below meth c H locs cells slots Q (F0 m (pc) ls (.int i :: .ref (a 15) :: rest)) :=
  va_iald E.hx E.hb E.hK hw.1 15 7 rfl rfl hin hdg (kk _ rfl)
theorem sK_15 (E : EK p s m args meth c D a g cc nL own ret) (hw : WK D a g S s H locs) {i : Int32} {x : Int32} (hin : vp_in i 8) (hdg : decode cc pc = .ok (.iastore, 1)) (kk : ∀ (S1 : SS), S1 = st S 15 i.toNatClampNeg x → ∀ (H1 : Heap) (locs1 : List Loc), WK D a g S1 s H1 locs1 → W p l e R s m args below meth c H1 locs1 cells slots Q (F0 m (pc + 1) ls (rest))) : W p l e R s m args below meth c H locs cells slots Q (F0 m (pc) ls (.int x :: .int i :: .ref (a 15) :: rest)) :=
  va_iast E.hx E.hb E.hK hw.1 (E.hD S) hw.2 15 7 rfl rfl hin hdg (fun H1 locs1 h1 _ h3 => kk _ rfl H1 locs1 ⟨h1, h3⟩)
theorem lK_16 (E : EK p s m args meth c D a g cc nL own ret) (hw : WK D a g S s H locs) {i : Int32} (hin : vp_in i 4) (hdg : decode cc pc = .ok (.iaload, 1)) (kk : ∀ v : Int32, v = (S 16) i.toNatClampNeg → W p l e R s m args below meth c H locs cells slots Q (F0 m (pc + 1) ls (.int v :: rest))) : W p l e R s m args below meth c H locs cells slots Q (F0 m (pc) ls (.int i :: .ref (a 16) :: rest)) :=
  va_iald E.hx E.hb E.hK hw.1 16 8 rfl rfl hin hdg (kk _ rfl)
theorem sK_16 (E : EK p s m args meth c D a g cc nL own ret) (hw : WK D a g S s H locs) {i : Int32} {x : Int32} (hin : vp_in i 4) (hdg : decode cc pc = .ok (.iastore, 1)) (kk : ∀ (S1 : SS), S1 = st S 16 i.toNatClampNeg x → ∀ (H1 : Heap) (locs1 : List Loc), WK D a g S1 s H1 locs1 → W p l e R s m args below meth c H1 locs1 cells slots Q (F0 m (pc + 1) ls (rest))) : W p l e R s m args below meth c H locs cells slots Q (F0 m (pc) ls (.int x :: .int i :: .ref (a 16) :: rest)) :=
  va_iast E.hx E.hb E.hK hw.1 (E.hD S) hw.2 16 8 rfl rfl hin hdg (fun H1 locs1 h1 _ h3 => kk _ rfl H1 locs1 ⟨h1, h3⟩)
theorem lK_17 (E : EK p s m args meth c D a g cc nL own ret) (hw : WK D a g S s H locs) {i : Int32} (hin : vp_in i 4) (hdg : decode cc pc = .ok (.iaload, 1)) (kk : ∀ v : Int32, v = (S 17) i.toNatClampNeg → W p l e R s m args below meth c H locs cells slots Q (F0 m (pc + 1) ls (.int v :: rest))) : W p l e R s m args below meth c H locs cells slots Q (F0 m (pc) ls (.int i :: .ref (a 17) :: rest)) :=
  va_iald E.hx E.hb E.hK hw.1 17 9 rfl rfl hin hdg (kk _ rfl)
theorem sK_17 (E : EK p s m args meth c D a g cc nL own ret) (hw : WK D a g S s H locs) {i : Int32} {x : Int32} (hin : vp_in i 4) (hdg : decode cc pc = .ok (.iastore, 1)) (kk : ∀ (S1 : SS), S1 = st S 17 i.toNatClampNeg x → ∀ (H1 : Heap) (locs1 : List Loc), WK D a g S1 s H1 locs1 → W p l e R s m args below meth c H1 locs1 cells slots Q (F0 m (pc + 1) ls (rest))) : W p l e R s m args below meth c H locs cells slots Q (F0 m (pc) ls (.int x :: .int i :: .ref (a 17) :: rest)) :=
  va_iast E.hx E.hb E.hK hw.1 (E.hD S) hw.2 17 9 rfl rfl hin hdg (fun H1 locs1 h1 _ h3 => kk _ rfl H1 locs1 ⟨h1, h3⟩)
theorem lK_18 (E : EK p s m args meth c D a g cc nL own ret) (hw : WK D a g S s H locs) {i : Int32} (hin : vp_in i 7) (hdg : decode cc pc = .ok (.iaload, 1)) (kk : ∀ v : Int32, v = (S 18) i.toNatClampNeg → W p l e R s m args below meth c H locs cells slots Q (F0 m (pc + 1) ls (.int v :: rest))) : W p l e R s m args below meth c H locs cells slots Q (F0 m (pc) ls (.int i :: .ref (a 18) :: rest)) :=
  va_iald E.hx E.hb E.hK hw.1 18 10 rfl rfl hin hdg (kk _ rfl)
theorem sK_18 (E : EK p s m args meth c D a g cc nL own ret) (hw : WK D a g S s H locs) {i : Int32} {x : Int32} (hin : vp_in i 7) (hdg : decode cc pc = .ok (.iastore, 1)) (kk : ∀ (S1 : SS), S1 = st S 18 i.toNatClampNeg x → ∀ (H1 : Heap) (locs1 : List Loc), WK D a g S1 s H1 locs1 → W p l e R s m args below meth c H1 locs1 cells slots Q (F0 m (pc + 1) ls (rest))) : W p l e R s m args below meth c H locs cells slots Q (F0 m (pc) ls (.int x :: .int i :: .ref (a 18) :: rest)) :=
  va_iast E.hx E.hb E.hK hw.1 (E.hD S) hw.2 18 10 rfl rfl hin hdg (fun H1 locs1 h1 _ h3 => kk _ rfl H1 locs1 ⟨h1, h3⟩)
theorem lK_19 (E : EK p s m args meth c D a g cc nL own ret) (hw : WK D a g S s H locs) {i : Int32} (hin : vp_in i 7) (hdg : decode cc pc = .ok (.iaload, 1)) (kk : ∀ v : Int32, v = (S 19) i.toNatClampNeg → W p l e R s m args below meth c H locs cells slots Q (F0 m (pc + 1) ls (.int v :: rest))) : W p l e R s m args below meth c H locs cells slots Q (F0 m (pc) ls (.int i :: .ref (a 19) :: rest)) :=
  va_iald E.hx E.hb E.hK hw.1 19 11 rfl rfl hin hdg (kk _ rfl)
theorem sK_19 (E : EK p s m args meth c D a g cc nL own ret) (hw : WK D a g S s H locs) {i : Int32} {x : Int32} (hin : vp_in i 7) (hdg : decode cc pc = .ok (.iastore, 1)) (kk : ∀ (S1 : SS), S1 = st S 19 i.toNatClampNeg x → ∀ (H1 : Heap) (locs1 : List Loc), WK D a g S1 s H1 locs1 → W p l e R s m args below meth c H1 locs1 cells slots Q (F0 m (pc + 1) ls (rest))) : W p l e R s m args below meth c H locs cells slots Q (F0 m (pc) ls (.int x :: .int i :: .ref (a 19) :: rest)) :=
  va_iast E.hx E.hb E.hK hw.1 (E.hD S) hw.2 19 11 rfl rfl hin hdg (fun H1 locs1 h1 _ h3 => kk _ rfl H1 locs1 ⟨h1, h3⟩)
theorem lK_20 (E : EK p s m args meth c D a g cc nL own ret) (hw : WK D a g S s H locs) {i : Int32} (hin : vp_in i 7) (hdg : decode cc pc = .ok (.iaload, 1)) (kk : ∀ v : Int32, v = (S 20) i.toNatClampNeg → W p l e R s m args below meth c H locs cells slots Q (F0 m (pc + 1) ls (.int v :: rest))) : W p l e R s m args below meth c H locs cells slots Q (F0 m (pc) ls (.int i :: .ref (a 20) :: rest)) :=
  va_iald E.hx E.hb E.hK hw.1 20 12 rfl rfl hin hdg (kk _ rfl)
theorem sK_20 (E : EK p s m args meth c D a g cc nL own ret) (hw : WK D a g S s H locs) {i : Int32} {x : Int32} (hin : vp_in i 7) (hdg : decode cc pc = .ok (.iastore, 1)) (kk : ∀ (S1 : SS), S1 = st S 20 i.toNatClampNeg x → ∀ (H1 : Heap) (locs1 : List Loc), WK D a g S1 s H1 locs1 → W p l e R s m args below meth c H1 locs1 cells slots Q (F0 m (pc + 1) ls (rest))) : W p l e R s m args below meth c H locs cells slots Q (F0 m (pc) ls (.int x :: .int i :: .ref (a 20) :: rest)) :=
  va_iast E.hx E.hb E.hK hw.1 (E.hD S) hw.2 20 12 rfl rfl hin hdg (fun H1 locs1 h1 _ h3 => kk _ rfl H1 locs1 ⟨h1, h3⟩)
theorem lK_21 (E : EK p s m args meth c D a g cc nL own ret) (hw : WK D a g S s H locs) {i : Int32} (hin : vp_in i 7) (hdg : decode cc pc = .ok (.iaload, 1)) (kk : ∀ v : Int32, v = (S 21) i.toNatClampNeg → W p l e R s m args below meth c H locs cells slots Q (F0 m (pc + 1) ls (.int v :: rest))) : W p l e R s m args below meth c H locs cells slots Q (F0 m (pc) ls (.int i :: .ref (a 21) :: rest)) :=
  va_iald E.hx E.hb E.hK hw.1 21 13 rfl rfl hin hdg (kk _ rfl)
theorem sK_21 (E : EK p s m args meth c D a g cc nL own ret) (hw : WK D a g S s H locs) {i : Int32} {x : Int32} (hin : vp_in i 7) (hdg : decode cc pc = .ok (.iastore, 1)) (kk : ∀ (S1 : SS), S1 = st S 21 i.toNatClampNeg x → ∀ (H1 : Heap) (locs1 : List Loc), WK D a g S1 s H1 locs1 → W p l e R s m args below meth c H1 locs1 cells slots Q (F0 m (pc + 1) ls (rest))) : W p l e R s m args below meth c H locs cells slots Q (F0 m (pc) ls (.int x :: .int i :: .ref (a 21) :: rest)) :=
  va_iast E.hx E.hb E.hK hw.1 (E.hD S) hw.2 21 13 rfl rfl hin hdg (fun H1 locs1 h1 _ h3 => kk _ rfl H1 locs1 ⟨h1, h3⟩)
theorem lK_22 (E : EK p s m args meth c D a g cc nL own ret) (hw : WK D a g S s H locs) {i : Int32} (hin : vp_in i 28) (hdg : decode cc pc = .ok (.iaload, 1)) (kk : ∀ v : Int32, v = (S 22) i.toNatClampNeg → W p l e R s m args below meth c H locs cells slots Q (F0 m (pc + 1) ls (.int v :: rest))) : W p l e R s m args below meth c H locs cells slots Q (F0 m (pc) ls (.int i :: .ref (a 22) :: rest)) :=
  va_iald E.hx E.hb E.hK hw.1 22 14 rfl rfl hin hdg (kk _ rfl)
theorem sK_22 (E : EK p s m args meth c D a g cc nL own ret) (hw : WK D a g S s H locs) {i : Int32} {x : Int32} (hin : vp_in i 28) (hdg : decode cc pc = .ok (.iastore, 1)) (kk : ∀ (S1 : SS), S1 = st S 22 i.toNatClampNeg x → ∀ (H1 : Heap) (locs1 : List Loc), WK D a g S1 s H1 locs1 → W p l e R s m args below meth c H1 locs1 cells slots Q (F0 m (pc + 1) ls (rest))) : W p l e R s m args below meth c H locs cells slots Q (F0 m (pc) ls (.int x :: .int i :: .ref (a 22) :: rest)) :=
  va_iast E.hx E.hb E.hK hw.1 (E.hD S) hw.2 22 14 rfl rfl hin hdg (fun H1 locs1 h1 _ h3 => kk _ rfl H1 locs1 ⟨h1, h3⟩)
theorem lK_23 (E : EK p s m args meth c D a g cc nL own ret) (hw : WK D a g S s H locs) {i : Int32} (hin : vp_in i 8) (hdg : decode cc pc = .ok (.iaload, 1)) (kk : ∀ v : Int32, v = (S 23) i.toNatClampNeg → W p l e R s m args below meth c H locs cells slots Q (F0 m (pc + 1) ls (.int v :: rest))) : W p l e R s m args below meth c H locs cells slots Q (F0 m (pc) ls (.int i :: .ref (a 23) :: rest)) :=
  va_iald E.hx E.hb E.hK hw.1 23 15 rfl rfl hin hdg (kk _ rfl)
theorem sK_23 (E : EK p s m args meth c D a g cc nL own ret) (hw : WK D a g S s H locs) {i : Int32} {x : Int32} (hin : vp_in i 8) (hdg : decode cc pc = .ok (.iastore, 1)) (kk : ∀ (S1 : SS), S1 = st S 23 i.toNatClampNeg x → ∀ (H1 : Heap) (locs1 : List Loc), WK D a g S1 s H1 locs1 → W p l e R s m args below meth c H1 locs1 cells slots Q (F0 m (pc + 1) ls (rest))) : W p l e R s m args below meth c H locs cells slots Q (F0 m (pc) ls (.int x :: .int i :: .ref (a 23) :: rest)) :=
  va_iast E.hx E.hb E.hK hw.1 (E.hD S) hw.2 23 15 rfl rfl hin hdg (fun H1 locs1 h1 _ h3 => kk _ rfl H1 locs1 ⟨h1, h3⟩)
theorem lK_24 (E : EK p s m args meth c D a g cc nL own ret) (hw : WK D a g S s H locs) {i : Int32} (hin : vp_in i 7) (hdg : decode cc pc = .ok (.iaload, 1)) (kk : ∀ v : Int32, v = (S 24) i.toNatClampNeg → W p l e R s m args below meth c H locs cells slots Q (F0 m (pc + 1) ls (.int v :: rest))) : W p l e R s m args below meth c H locs cells slots Q (F0 m (pc) ls (.int i :: .ref (a 24) :: rest)) :=
  va_iald E.hx E.hb E.hK hw.1 24 16 rfl rfl hin hdg (kk _ rfl)
theorem sK_24 (E : EK p s m args meth c D a g cc nL own ret) (hw : WK D a g S s H locs) {i : Int32} {x : Int32} (hin : vp_in i 7) (hdg : decode cc pc = .ok (.iastore, 1)) (kk : ∀ (S1 : SS), S1 = st S 24 i.toNatClampNeg x → ∀ (H1 : Heap) (locs1 : List Loc), WK D a g S1 s H1 locs1 → W p l e R s m args below meth c H1 locs1 cells slots Q (F0 m (pc + 1) ls (rest))) : W p l e R s m args below meth c H locs cells slots Q (F0 m (pc) ls (.int x :: .int i :: .ref (a 24) :: rest)) :=
  va_iast E.hx E.hb E.hK hw.1 (E.hD S) hw.2 24 16 rfl rfl hin hdg (fun H1 locs1 h1 _ h3 => kk _ rfl H1 locs1 ⟨h1, h3⟩)
theorem lK_25 (E : EK p s m args meth c D a g cc nL own ret) (hw : WK D a g S s H locs) {i : Int32} (hin : vp_in i 4) (hdg : decode cc pc = .ok (.iaload, 1)) (kk : ∀ v : Int32, v = (S 25) i.toNatClampNeg → W p l e R s m args below meth c H locs cells slots Q (F0 m (pc + 1) ls (.int v :: rest))) : W p l e R s m args below meth c H locs cells slots Q (F0 m (pc) ls (.int i :: .ref (a 25) :: rest)) :=
  va_iald E.hx E.hb E.hK hw.1 25 17 rfl rfl hin hdg (kk _ rfl)
theorem sK_25 (E : EK p s m args meth c D a g cc nL own ret) (hw : WK D a g S s H locs) {i : Int32} {x : Int32} (hin : vp_in i 4) (hdg : decode cc pc = .ok (.iastore, 1)) (kk : ∀ (S1 : SS), S1 = st S 25 i.toNatClampNeg x → ∀ (H1 : Heap) (locs1 : List Loc), WK D a g S1 s H1 locs1 → W p l e R s m args below meth c H1 locs1 cells slots Q (F0 m (pc + 1) ls (rest))) : W p l e R s m args below meth c H locs cells slots Q (F0 m (pc) ls (.int x :: .int i :: .ref (a 25) :: rest)) :=
  va_iast E.hx E.hb E.hK hw.1 (E.hD S) hw.2 25 17 rfl rfl hin hdg (fun H1 locs1 h1 _ h3 => kk _ rfl H1 locs1 ⟨h1, h3⟩)
theorem lK_26 (E : EK p s m args meth c D a g cc nL own ret) (hw : WK D a g S s H locs) {i : Int32} (hin : vp_in i 7) (hdg : decode cc pc = .ok (.iaload, 1)) (kk : ∀ v : Int32, v = (S 26) i.toNatClampNeg → W p l e R s m args below meth c H locs cells slots Q (F0 m (pc + 1) ls (.int v :: rest))) : W p l e R s m args below meth c H locs cells slots Q (F0 m (pc) ls (.int i :: .ref (a 26) :: rest)) :=
  va_iald E.hx E.hb E.hK hw.1 26 18 rfl rfl hin hdg (kk _ rfl)
theorem sK_26 (E : EK p s m args meth c D a g cc nL own ret) (hw : WK D a g S s H locs) {i : Int32} {x : Int32} (hin : vp_in i 7) (hdg : decode cc pc = .ok (.iastore, 1)) (kk : ∀ (S1 : SS), S1 = st S 26 i.toNatClampNeg x → ∀ (H1 : Heap) (locs1 : List Loc), WK D a g S1 s H1 locs1 → W p l e R s m args below meth c H1 locs1 cells slots Q (F0 m (pc + 1) ls (rest))) : W p l e R s m args below meth c H locs cells slots Q (F0 m (pc) ls (.int x :: .int i :: .ref (a 26) :: rest)) :=
  va_iast E.hx E.hb E.hK hw.1 (E.hD S) hw.2 26 18 rfl rfl hin hdg (fun H1 locs1 h1 _ h3 => kk _ rfl H1 locs1 ⟨h1, h3⟩)
theorem lK_27 (E : EK p s m args meth c D a g cc nL own ret) (hw : WK D a g S s H locs) {i : Int32} (hin : vp_in i 256) (hdg : decode cc pc = .ok (.iaload, 1)) (kk : ∀ v : Int32, v = (S 27) i.toNatClampNeg → W p l e R s m args below meth c H locs cells slots Q (F0 m (pc + 1) ls (.int v :: rest))) : W p l e R s m args below meth c H locs cells slots Q (F0 m (pc) ls (.int i :: .ref (a 27) :: rest)) :=
  va_iald E.hx E.hb E.hK hw.1 27 19 rfl rfl hin hdg (kk _ rfl)
theorem sK_27 (E : EK p s m args meth c D a g cc nL own ret) (hw : WK D a g S s H locs) {i : Int32} {x : Int32} (hin : vp_in i 256) (hdg : decode cc pc = .ok (.iastore, 1)) (kk : ∀ (S1 : SS), S1 = st S 27 i.toNatClampNeg x → ∀ (H1 : Heap) (locs1 : List Loc), WK D a g S1 s H1 locs1 → W p l e R s m args below meth c H1 locs1 cells slots Q (F0 m (pc + 1) ls (rest))) : W p l e R s m args below meth c H locs cells slots Q (F0 m (pc) ls (.int x :: .int i :: .ref (a 27) :: rest)) :=
  va_iast E.hx E.hb E.hK hw.1 (E.hD S) hw.2 27 19 rfl rfl hin hdg (fun H1 locs1 h1 _ h3 => kk _ rfl H1 locs1 ⟨h1, h3⟩)
theorem lK_28 (E : EK p s m args meth c D a g cc nL own ret) (hw : WK D a g S s H locs) {i : Int32} (hin : vp_in i 256) (hdg : decode cc pc = .ok (.iaload, 1)) (kk : ∀ v : Int32, v = (S 28) i.toNatClampNeg → W p l e R s m args below meth c H locs cells slots Q (F0 m (pc + 1) ls (.int v :: rest))) : W p l e R s m args below meth c H locs cells slots Q (F0 m (pc) ls (.int i :: .ref (a 28) :: rest)) :=
  va_iald E.hx E.hb E.hK hw.1 28 20 rfl rfl hin hdg (kk _ rfl)
theorem sK_28 (E : EK p s m args meth c D a g cc nL own ret) (hw : WK D a g S s H locs) {i : Int32} {x : Int32} (hin : vp_in i 256) (hdg : decode cc pc = .ok (.iastore, 1)) (kk : ∀ (S1 : SS), S1 = st S 28 i.toNatClampNeg x → ∀ (H1 : Heap) (locs1 : List Loc), WK D a g S1 s H1 locs1 → W p l e R s m args below meth c H1 locs1 cells slots Q (F0 m (pc + 1) ls (rest))) : W p l e R s m args below meth c H locs cells slots Q (F0 m (pc) ls (.int x :: .int i :: .ref (a 28) :: rest)) :=
  va_iast E.hx E.hb E.hK hw.1 (E.hD S) hw.2 28 20 rfl rfl hin hdg (fun H1 locs1 h1 _ h3 => kk _ rfl H1 locs1 ⟨h1, h3⟩)
theorem lK_29 (E : EK p s m args meth c D a g cc nL own ret) (hw : WK D a g S s H locs) {i : Int32} (hin : vp_in i 12) (hdg : decode cc pc = .ok (.iaload, 1)) (kk : ∀ v : Int32, v = (S 29) i.toNatClampNeg → W p l e R s m args below meth c H locs cells slots Q (F0 m (pc + 1) ls (.int v :: rest))) : W p l e R s m args below meth c H locs cells slots Q (F0 m (pc) ls (.int i :: .ref (a 29) :: rest)) :=
  va_iald E.hx E.hb E.hK hw.1 29 21 rfl rfl hin hdg (kk _ rfl)
theorem sK_29 (E : EK p s m args meth c D a g cc nL own ret) (hw : WK D a g S s H locs) {i : Int32} {x : Int32} (hin : vp_in i 12) (hdg : decode cc pc = .ok (.iastore, 1)) (kk : ∀ (S1 : SS), S1 = st S 29 i.toNatClampNeg x → ∀ (H1 : Heap) (locs1 : List Loc), WK D a g S1 s H1 locs1 → W p l e R s m args below meth c H1 locs1 cells slots Q (F0 m (pc + 1) ls (rest))) : W p l e R s m args below meth c H locs cells slots Q (F0 m (pc) ls (.int x :: .int i :: .ref (a 29) :: rest)) :=
  va_iast E.hx E.hb E.hK hw.1 (E.hD S) hw.2 29 21 rfl rfl hin hdg (fun H1 locs1 h1 _ h3 => kk _ rfl H1 locs1 ⟨h1, h3⟩)
theorem lK_30 (E : EK p s m args meth c D a g cc nL own ret) (hw : WK D a g S s H locs) {i : Int32} (hin : vp_in i 12) (hdg : decode cc pc = .ok (.iaload, 1)) (kk : ∀ v : Int32, v = (S 30) i.toNatClampNeg → W p l e R s m args below meth c H locs cells slots Q (F0 m (pc + 1) ls (.int v :: rest))) : W p l e R s m args below meth c H locs cells slots Q (F0 m (pc) ls (.int i :: .ref (a 30) :: rest)) :=
  va_iald E.hx E.hb E.hK hw.1 30 22 rfl rfl hin hdg (kk _ rfl)
theorem sK_30 (E : EK p s m args meth c D a g cc nL own ret) (hw : WK D a g S s H locs) {i : Int32} {x : Int32} (hin : vp_in i 12) (hdg : decode cc pc = .ok (.iastore, 1)) (kk : ∀ (S1 : SS), S1 = st S 30 i.toNatClampNeg x → ∀ (H1 : Heap) (locs1 : List Loc), WK D a g S1 s H1 locs1 → W p l e R s m args below meth c H1 locs1 cells slots Q (F0 m (pc + 1) ls (rest))) : W p l e R s m args below meth c H locs cells slots Q (F0 m (pc) ls (.int x :: .int i :: .ref (a 30) :: rest)) :=
  va_iast E.hx E.hb E.hK hw.1 (E.hD S) hw.2 30 22 rfl rfl hin hdg (fun H1 locs1 h1 _ h3 => kk _ rfl H1 locs1 ⟨h1, h3⟩)
theorem lK_31 (E : EK p s m args meth c D a g cc nL own ret) (hw : WK D a g S s H locs) {i : Int32} (hin : vp_in i 12) (hdg : decode cc pc = .ok (.iaload, 1)) (kk : ∀ v : Int32, v = (S 31) i.toNatClampNeg → W p l e R s m args below meth c H locs cells slots Q (F0 m (pc + 1) ls (.int v :: rest))) : W p l e R s m args below meth c H locs cells slots Q (F0 m (pc) ls (.int i :: .ref (a 31) :: rest)) :=
  va_iald E.hx E.hb E.hK hw.1 31 23 rfl rfl hin hdg (kk _ rfl)
theorem sK_31 (E : EK p s m args meth c D a g cc nL own ret) (hw : WK D a g S s H locs) {i : Int32} {x : Int32} (hin : vp_in i 12) (hdg : decode cc pc = .ok (.iastore, 1)) (kk : ∀ (S1 : SS), S1 = st S 31 i.toNatClampNeg x → ∀ (H1 : Heap) (locs1 : List Loc), WK D a g S1 s H1 locs1 → W p l e R s m args below meth c H1 locs1 cells slots Q (F0 m (pc + 1) ls (rest))) : W p l e R s m args below meth c H locs cells slots Q (F0 m (pc) ls (.int x :: .int i :: .ref (a 31) :: rest)) :=
  va_iast E.hx E.hb E.hK hw.1 (E.hD S) hw.2 31 23 rfl rfl hin hdg (fun H1 locs1 h1 _ h3 => kk _ rfl H1 locs1 ⟨h1, h3⟩)
theorem lK_32 (E : EK p s m args meth c D a g cc nL own ret) (hw : WK D a g S s H locs) {i : Int32} (hin : vp_in i 144) (hdg : decode cc pc = .ok (.iaload, 1)) (kk : ∀ v : Int32, v = (S 32) i.toNatClampNeg → W p l e R s m args below meth c H locs cells slots Q (F0 m (pc + 1) ls (.int v :: rest))) : W p l e R s m args below meth c H locs cells slots Q (F0 m (pc) ls (.int i :: .ref (a 32) :: rest)) :=
  va_iald E.hx E.hb E.hK hw.1 32 24 rfl rfl hin hdg (kk _ rfl)
theorem sK_32 (E : EK p s m args meth c D a g cc nL own ret) (hw : WK D a g S s H locs) {i : Int32} {x : Int32} (hin : vp_in i 144) (hdg : decode cc pc = .ok (.iastore, 1)) (kk : ∀ (S1 : SS), S1 = st S 32 i.toNatClampNeg x → ∀ (H1 : Heap) (locs1 : List Loc), WK D a g S1 s H1 locs1 → W p l e R s m args below meth c H1 locs1 cells slots Q (F0 m (pc + 1) ls (rest))) : W p l e R s m args below meth c H locs cells slots Q (F0 m (pc) ls (.int x :: .int i :: .ref (a 32) :: rest)) :=
  va_iast E.hx E.hb E.hK hw.1 (E.hD S) hw.2 32 24 rfl rfl hin hdg (fun H1 locs1 h1 _ h3 => kk _ rfl H1 locs1 ⟨h1, h3⟩)
theorem lK_33 (E : EK p s m args meth c D a g cc nL own ret) (hw : WK D a g S s H locs) {i : Int32} (hin : vp_in i 12) (hdg : decode cc pc = .ok (.iaload, 1)) (kk : ∀ v : Int32, v = (S 33) i.toNatClampNeg → W p l e R s m args below meth c H locs cells slots Q (F0 m (pc + 1) ls (.int v :: rest))) : W p l e R s m args below meth c H locs cells slots Q (F0 m (pc) ls (.int i :: .ref (a 33) :: rest)) :=
  va_iald E.hx E.hb E.hK hw.1 33 25 rfl rfl hin hdg (kk _ rfl)
theorem sK_33 (E : EK p s m args meth c D a g cc nL own ret) (hw : WK D a g S s H locs) {i : Int32} {x : Int32} (hin : vp_in i 12) (hdg : decode cc pc = .ok (.iastore, 1)) (kk : ∀ (S1 : SS), S1 = st S 33 i.toNatClampNeg x → ∀ (H1 : Heap) (locs1 : List Loc), WK D a g S1 s H1 locs1 → W p l e R s m args below meth c H1 locs1 cells slots Q (F0 m (pc + 1) ls (rest))) : W p l e R s m args below meth c H locs cells slots Q (F0 m (pc) ls (.int x :: .int i :: .ref (a 33) :: rest)) :=
  va_iast E.hx E.hb E.hK hw.1 (E.hD S) hw.2 33 25 rfl rfl hin hdg (fun H1 locs1 h1 _ h3 => kk _ rfl H1 locs1 ⟨h1, h3⟩)
theorem lK_34 (E : EK p s m args meth c D a g cc nL own ret) (hw : WK D a g S s H locs) {i : Int32} (hin : vp_in i 12) (hdg : decode cc pc = .ok (.iaload, 1)) (kk : ∀ v : Int32, v = (S 34) i.toNatClampNeg → W p l e R s m args below meth c H locs cells slots Q (F0 m (pc + 1) ls (.int v :: rest))) : W p l e R s m args below meth c H locs cells slots Q (F0 m (pc) ls (.int i :: .ref (a 34) :: rest)) :=
  va_iald E.hx E.hb E.hK hw.1 34 26 rfl rfl hin hdg (kk _ rfl)
theorem sK_34 (E : EK p s m args meth c D a g cc nL own ret) (hw : WK D a g S s H locs) {i : Int32} {x : Int32} (hin : vp_in i 12) (hdg : decode cc pc = .ok (.iastore, 1)) (kk : ∀ (S1 : SS), S1 = st S 34 i.toNatClampNeg x → ∀ (H1 : Heap) (locs1 : List Loc), WK D a g S1 s H1 locs1 → W p l e R s m args below meth c H1 locs1 cells slots Q (F0 m (pc + 1) ls (rest))) : W p l e R s m args below meth c H locs cells slots Q (F0 m (pc) ls (.int x :: .int i :: .ref (a 34) :: rest)) :=
  va_iast E.hx E.hb E.hK hw.1 (E.hD S) hw.2 34 26 rfl rfl hin hdg (fun H1 locs1 h1 _ h3 => kk _ rfl H1 locs1 ⟨h1, h3⟩)
theorem lK_35 (E : EK p s m args meth c D a g cc nL own ret) (hw : WK D a g S s H locs) {i : Int32} (hin : vp_in i 8) (hdg : decode cc pc = .ok (.iaload, 1)) (kk : ∀ v : Int32, v = (S 35) i.toNatClampNeg → W p l e R s m args below meth c H locs cells slots Q (F0 m (pc + 1) ls (.int v :: rest))) : W p l e R s m args below meth c H locs cells slots Q (F0 m (pc) ls (.int i :: .ref (a 35) :: rest)) :=
  va_iald E.hx E.hb E.hK hw.1 35 27 rfl rfl hin hdg (kk _ rfl)
theorem sK_35 (E : EK p s m args meth c D a g cc nL own ret) (hw : WK D a g S s H locs) {i : Int32} {x : Int32} (hin : vp_in i 8) (hdg : decode cc pc = .ok (.iastore, 1)) (kk : ∀ (S1 : SS), S1 = st S 35 i.toNatClampNeg x → ∀ (H1 : Heap) (locs1 : List Loc), WK D a g S1 s H1 locs1 → W p l e R s m args below meth c H1 locs1 cells slots Q (F0 m (pc + 1) ls (rest))) : W p l e R s m args below meth c H locs cells slots Q (F0 m (pc) ls (.int x :: .int i :: .ref (a 35) :: rest)) :=
  va_iast E.hx E.hb E.hK hw.1 (E.hD S) hw.2 35 27 rfl rfl hin hdg (fun H1 locs1 h1 _ h3 => kk _ rfl H1 locs1 ⟨h1, h3⟩)
theorem lK_36 (E : EK p s m args meth c D a g cc nL own ret) (hw : WK D a g S s H locs) {i : Int32} (hin : vp_in i 8) (hdg : decode cc pc = .ok (.iaload, 1)) (kk : ∀ v : Int32, v = (S 36) i.toNatClampNeg → W p l e R s m args below meth c H locs cells slots Q (F0 m (pc + 1) ls (.int v :: rest))) : W p l e R s m args below meth c H locs cells slots Q (F0 m (pc) ls (.int i :: .ref (a 36) :: rest)) :=
  va_iald E.hx E.hb E.hK hw.1 36 28 rfl rfl hin hdg (kk _ rfl)
theorem sK_36 (E : EK p s m args meth c D a g cc nL own ret) (hw : WK D a g S s H locs) {i : Int32} {x : Int32} (hin : vp_in i 8) (hdg : decode cc pc = .ok (.iastore, 1)) (kk : ∀ (S1 : SS), S1 = st S 36 i.toNatClampNeg x → ∀ (H1 : Heap) (locs1 : List Loc), WK D a g S1 s H1 locs1 → W p l e R s m args below meth c H1 locs1 cells slots Q (F0 m (pc + 1) ls (rest))) : W p l e R s m args below meth c H locs cells slots Q (F0 m (pc) ls (.int x :: .int i :: .ref (a 36) :: rest)) :=
  va_iast E.hx E.hb E.hK hw.1 (E.hD S) hw.2 36 28 rfl rfl hin hdg (fun H1 locs1 h1 _ h3 => kk _ rfl H1 locs1 ⟨h1, h3⟩)
theorem retK_i (E : EK p s m args meth c D a g cc nL own (some .int)) (hw : WK D a g S s H locs) {v : Int32} (hdg : decode cc pc = .ok (.ireturn, 1)) : W p l e R s m args below meth c H locs cells slots (MQ below (QK D a g (some (.int v)) S) args s cells slots (AK a)) (F0 m pc ls [.int v]) :=
  W.iret E.hx E.hb E.hr (fun t ht _ => ⟨rfl, by rw [ht]; exact hw.1, hw.2.F ht⟩) hw.2.2.2 hdg E.hlk
theorem retK_z (E : EK p s m args meth c D a g cc nL own (some .boolean)) (hw : WK D a g S s H locs) {v : Int32} (hn : narrow .boolean (.int v) = .int v) (hdg : decode cc pc = .ok (.ireturn, 1)) : W p l e R s m args below meth c H locs cells slots (MQ below (QK D a g (some (.int v)) S) args s cells slots (AK a)) (F0 m pc ls [.int v]) :=
  W.zret E.hx E.hb E.hr hn (fun t ht _ => ⟨rfl, by rw [ht]; exact hw.1, hw.2.F ht⟩) hw.2.2.2 hdg E.hlk
theorem retK_l (E : EK p s m args meth c D a g cc nL own (some .long)) (hw : WK D a g S s H locs) {v : Int64} (hdg : decode cc pc = .ok (.lreturn, 1)) : W p l e R s m args below meth c H locs cells slots (MQ below (QK D a g (some (.long v)) S) args s cells slots (AK a)) (F0 m pc ls [.long v]) :=
  W.lret E.hx E.hb E.hr (fun t ht _ => ⟨rfl, by rw [ht]; exact hw.1, hw.2.F ht⟩) hw.2.2.2 hdg E.hlk
theorem retK_v (E : EK p s m args meth c D a g cc nL own none) (hw : WK D a g S s H locs) (hdg : decode cc pc = .ok (.return_, 1)) : W p l e R s m args below meth c H locs cells slots (MQ below (QK D a g none S) args s cells slots (AK a)) (F0 m pc ls []) :=
  W.vret E.hx E.hb E.hr (fun t ht _ => ⟨rfl, by rw [ht]; exact hw.1, hw.2.F ht⟩) hw.2.2.2 hdg E.hlk
theorem callK_i {st0 : List Value} {av : Array Value} {S1 : SS} {r : Int32} (hw : WK D a g S s H locs) (hr : va_Run p l e R s m args below meth c H locs cells slots 0 0 (F0 m pc ls st0) rest (QK D a g (some (.int r)) S1 av) (AK a)) (kk : ∀ (H1 : Heap) (locs1 : List Loc), WK D a g S1 s H1 locs1 → W p l e R s m args below meth c H1 locs1 cells slots Q (F0 m (pc + 3) ls (.int r :: rest))) : W p l e R s m args below meth c H locs cells slots Q (F0 m pc ls st0) := by
  intro T hT X
  obtain ⟨v, st₀, t, T', L, h0, X', hL, e1, -, ⟨hv, hp, hz, hk⟩, sg⟩ := hr T hT X
  have hv := Outcome.returned.inj hv
  subst hv
  rw [h0] at hz hk
  obtain ⟨t2, a1, b1⟩ := kk T'.heap (locs ++ L) ⟨by rw [e1]; exact hp, Nat.le_trans hw.2.1 (by rw [e1]; exact hz), fun q h1 h2 => by rw [e1, hk q (Nat.lt_of_lt_of_le h1 hw.2.1) h2]; exact hw.2.2.1 q h1 h2, fun q hq => by
    rcases List.mem_append.mp hq with h | h
    · exact hw.2.2.2 q h
    · exact hL q h⟩ T' rfl X'
  exact ⟨t2, sg t2 a1, b1⟩
theorem callK_l {st0 : List Value} {av : Array Value} {S1 : SS} {r : Int64} (hw : WK D a g S s H locs) (hr : va_Run p l e R s m args below meth c H locs cells slots 0 0 (F0 m pc ls st0) rest (QK D a g (some (.long r)) S1 av) (AK a)) (kk : ∀ (H1 : Heap) (locs1 : List Loc), WK D a g S1 s H1 locs1 → W p l e R s m args below meth c H1 locs1 cells slots Q (F0 m (pc + 3) ls (.long r :: rest))) : W p l e R s m args below meth c H locs cells slots Q (F0 m pc ls st0) := by
  intro T hT X
  obtain ⟨v, st₀, t, T', L, h0, X', hL, e1, -, ⟨hv, hp, hz, hk⟩, sg⟩ := hr T hT X
  have hv := Outcome.returned.inj hv
  subst hv
  rw [h0] at hz hk
  obtain ⟨t2, a1, b1⟩ := kk T'.heap (locs ++ L) ⟨by rw [e1]; exact hp, Nat.le_trans hw.2.1 (by rw [e1]; exact hz), fun q h1 h2 => by rw [e1, hk q (Nat.lt_of_lt_of_le h1 hw.2.1) h2]; exact hw.2.2.1 q h1 h2, fun q hq => by
    rcases List.mem_append.mp hq with h | h
    · exact hw.2.2.2 q h
    · exact hL q h⟩ T' rfl X'
  exact ⟨t2, sg t2 a1, b1⟩
theorem callK_v {st0 : List Value} {av : Array Value} {S1 : SS}  (hw : WK D a g S s H locs) (hr : va_Run p l e R s m args below meth c H locs cells slots 0 0 (F0 m pc ls st0) rest (QK D a g (none) S1 av) (AK a)) (kk : ∀ (H1 : Heap) (locs1 : List Loc), WK D a g S1 s H1 locs1 → W p l e R s m args below meth c H1 locs1 cells slots Q (F0 m (pc + 3) ls (rest))) : W p l e R s m args below meth c H locs cells slots Q (F0 m pc ls st0) := by
  intro T hT X
  obtain ⟨v, st₀, t, T', L, h0, X', hL, e1, -, ⟨hv, hp, hz, hk⟩, sg⟩ := hr T hT X
  have hv := Outcome.returned.inj hv
  subst hv
  rw [h0] at hz hk
  obtain ⟨t2, a1, b1⟩ := kk T'.heap (locs ++ L) ⟨by rw [e1]; exact hp, Nat.le_trans hw.2.1 (by rw [e1]; exact hz), fun q h1 h2 => by rw [e1, hk q (Nat.lt_of_lt_of_le h1 hw.2.1) h2]; exact hw.2.2.1 q h1 h2, fun q hq => by
    rcases List.mem_append.mp hq with h | h
    · exact hw.2.2.2 q h
    · exact hL q h⟩ T' rfl X'
  exact ⟨t2, sg t2 a1, b1⟩
end KROWS
/-! the world M -/
def wM (a : Nat → Nat) (g : Nat → ClassId) (S : SM) : va_W := [(a 0, .inr (8, [.int (S.1 0 0), .ref (a 1), .ref (a 2), .ref (a 3), .ref (a 4), .ref (a 5), .int (S.1 0 6), .ref (a 6), .ref (a 7), .int (S.1 0 9), .ref (a 8), .ref (a 9), .ref (a 10), .ref (a 11), .int (S.1 0 14), .int (S.1 0 15), .int (S.1 0 16), .ref (a 12), .ref (a 13), .ref (a 14), .ref (a 15), .ref (a 16), .ref (a 24), .ref (a 17), .ref (a 18), .ref (a 19), .ref (a 20), .ref (a 21), .ref (a 22), .ref (a 23), .int (S.1 0 30)])),
  (a 1, .inl (g 1, 24, .inl (S.1 1))),
  (a 2, .inl (g 2, 24, .inl (S.1 2))),
  (a 3, .inl (g 3, 24, .inl (S.1 3))),
  (a 4, .inl (g 4, 24, .inl (S.1 4))),
  (a 5, .inl (g 5, 144, .inl (S.1 5))),
  (a 6, .inl (g 6, 4, .inl (S.1 6))),
  (a 7, .inl (g 7, 4, .inl (S.1 7))),
  (a 8, .inl (g 8, 7, .inl (S.1 8))),
  (a 9, .inl (g 9, 7, .inl (S.1 9))),
  (a 10, .inl (g 10, 7, .inl (S.1 10))),
  (a 11, .inl (g 11, 7, .inl (S.1 11))),
  (a 12, .inl (g 12, 8, .inl (S.1 12))),
  (a 13, .inl (g 13, 12, .inl (S.1 13))),
  (a 14, .inl (g 14, 12, .inl (S.1 14))),
  (a 15, .inl (g 15, 8, .inl (S.1 15))),
  (a 16, .inl (g 16, 8, .inl (S.1 16))),
  (a 17, .inl (g 17, 7, .inl (S.1 17))),
  (a 18, .inl (g 18, 7, .inl (S.1 18))),
  (a 19, .inl (g 19, 8, .inl (S.1 19))),
  (a 20, .inl (g 20, 256, .inl (S.1 20))),
  (a 21, .inl (g 21, 144, .inl (S.1 21))),
  (a 22, .inl (g 22, 24, .inl (S.1 22))),
  (a 23, .inl (g 23, 24, .inl (S.1 23))),
  (a 24, .inl (g 24, 8, .inr (.inl S.2)))]
def tM (g : Nat → ClassId) : List (ClassId × FieldType) := [(g 1, .int), (g 2, .int), (g 3, .int), (g 4, .int), (g 5, .int), (g 6, .int), (g 7, .int), (g 8, .int), (g 9, .int), (g 10, .int), (g 11, .int), (g 12, .int), (g 13, .int), (g 14, .int), (g 15, .int), (g 16, .int), (g 17, .int), (g 18, .int), (g 19, .int), (g 20, .int), (g 21, .int), (g 22, .int), (g 23, .int), (g 24, .long)]
def AM (a : Nat → Nat) (q : Nat) : Prop := ∃ k, k < 25 ∧ q = a k
def EM (p : Program) (s : State) (m : MethodId) (args : Array Value) (meth : Method) (c : Code) (D : va_G) (a : Nat → Nat) (g : Nat → ClassId) (cc : ByteArray) (nL : Nat) (own : String) (ret : Option FieldType) : Prop :=
  p.tables.exec = Jvm.exec ∧ c.code = cc ∧ meth.sig.returnType = ret ∧ c.maxLocals = nL ∧ s.vm.findClass own = some m.cls ∧ (∀ w ∈ wd, w.before args s = true) ∧ va_K D vwCl (tM g) s ∧ NW s ∧ (∀ S, va_D (AM a) (wM a g S)) ∧ meth.locks = false
def WM (D : va_G) (a : Nat → Nat) (g : Nat → ClassId) (S : SM) (s : State) (H : Heap) (locs : List Loc) : Prop := va_P D vwCl (wM a g S) H ∧ va_S (AM a) s.heap H locs
def PM (D : va_G) (a : Nat → Nat) (g : Nat → ClassId) (S : SM) (av : List Value) : Array Value → State → Prop := va_Pc av (fun U => va_P D vwCl (wM a g S) U.heap ∧ va_K D vwCl (tM g) U ∧ NW U)
def QM (D : va_G) (a : Nat → Nat) (g : Nat → ClassId) (r : Option Value) (S : SM) : Array Value → State → Outcome → State → Prop := fun _ st o t => o = .returned r ∧ va_P D vwCl (wM a g S) t.heap ∧ va_F (AM a) st t
theorem PM_blind {D : va_G} {a : Nat → Nat} {g : Nat → ClassId} {S : SM} {av : List Value} : FrameBlind (PM D a g S av) := fun _ U f mk q => ⟨q.1, q.2.1, va_K.moved (u := U) (U := U.calling f mk _) (Vm.Alike.refl U.vm) q.2.2.1, NW.same (u := U) (U := U.calling f mk _) rfl q.2.2.2⟩
theorem PM_pre {D : va_G} {a : Nat → Nat} {g : Nat → ClassId} {S : SM} {av : List Value} {s : State} {H : Heap} (hK : va_K D vwCl (tM g) s) (hN : NW s) (hP : va_P D vwCl (wM a g S) H) : ∀ U : State, U.heap = H → s.WarmedH U.vm → PM D a g S av av.toArray U := fun U hU hW => ⟨rfl, by rw [hU]; exact hP, va_K.moved hW.alike hK, hN.warm hW⟩
section MROWS
variable {p : Program} {l : Launch} {e : Env} {R : Room} {s : State} {m : MethodId} {args : Array Value} {below : List Frame} {meth : Method} {c : Code} {H : Heap} {locs : List Loc} {cells slots : Nat} {Q : State → Prop} {cc : ByteArray} {pc : Nat} {ls : Array Slot} {rest : List Value} {D : va_G} {a : Nat → Nat} {g : Nat → ClassId} {nL : Nat} {own : String} {ret : Option FieldType}
variable {S : SM}
theorem EM.hx (E : EM p s m args meth c D a g cc nL own ret) : p.tables.exec = Jvm.exec := E.1
theorem EM.hb (E : EM p s m args meth c D a g cc nL own ret) : c.code = cc := E.2.1
theorem EM.hr (E : EM p s m args meth c D a g cc nL own ret) : meth.sig.returnType = ret := E.2.2.1
theorem EM.hml (E : EM p s m args meth c D a g cc nL own ret) : c.maxLocals = nL := E.2.2.2.1
theorem EM.hown (E : EM p s m args meth c D a g cc nL own ret) : s.vm.findClass own = some m.cls := E.2.2.2.2.1
theorem EM.hts (E : EM p s m args meth c D a g cc nL own ret) : ∀ w ∈ wd, w.before args s = true := E.2.2.2.2.2.1
theorem EM.hK (E : EM p s m args meth c D a g cc nL own ret) : va_K D vwCl (tM g) s := E.2.2.2.2.2.2.1
theorem EM.hN (E : EM p s m args meth c D a g cc nL own ret) : NW s := E.2.2.2.2.2.2.2.1
theorem EM.hD (E : EM p s m args meth c D a g cc nL own ret) : ∀ S, va_D (AM a) (wM a g S) := E.2.2.2.2.2.2.2.2.1
theorem EM.hlk (E : EM p s m args meth c D a g cc nL own ret) : meth.locks = false := E.2.2.2.2.2.2.2.2.2
theorem gM_0_0 (E : EM p s m args meth c D a g cc nL own ret) (hw : WM D a g S s H locs) {idx : Nat} (hl : (Cond.fieldLink own idx "WagonClearingModel" "lines" "I").before args s = true) (hdg : decode cc pc = .ok (.getfield idx, 3)) (kk : W p l e R s m args below meth c H locs cells slots Q (F0 m (pc + 3) ls (.int (S.1 0 0) :: rest))) : W p l e R s m args below meth c H locs cells slots Q (F0 m (pc) ls (.ref (a 0) :: rest)) :=
  va_get (ci := 8) (C := RX8) (T := TX8) (N := 31) E.hx E.hb E.hts inW8 E.hown E.hK hw.1 0 rfl rfl 0 (by decide) hl (fun _ h => h) rfl hdg kk
theorem pM_0_0 (E : EM p s m args meth c D a g cc nL own ret) (hw : WM D a g S s H locs) {x : Int32} {idx : Nat} (hl : (Cond.fieldLink own idx "WagonClearingModel" "lines" "I").before args s = true) (hdg : decode cc pc = .ok (.putfield idx, 3)) (kk : ∀ (S1 : SM), S1 = stM S 0 0 x → ∀ (H1 : Heap) (locs1 : List Loc), WM D a g S1 s H1 locs1 → W p l e R s m args below meth c H1 locs1 cells slots Q (F0 m (pc + 3) ls (rest))) : W p l e R s m args below meth c H locs cells slots Q (F0 m (pc) ls (.int x :: .ref (a 0) :: rest)) :=
  va_put (ci := 8) (C := RX8) (T := TX8) (N := 31) E.hx E.hb E.hts inW8 tyX8 tyX8_ok nmX8 E.hown E.hK hw.1 (E.hD S) hw.2 0 rfl rfl 0 (by decide) hl (fun _ h => h) rfl (tyX8_ok 0 (by decide)) rfl rfl (Nat.le_of_ble_eq_true rfl) hdg (fun H1 locs1 h1 _ h3 => kk _ rfl H1 locs1 ⟨h1, h3⟩)
theorem gM_0_1 (E : EM p s m args meth c D a g cc nL own ret) (hw : WM D a g S s H locs) {idx : Nat} (hl : (Cond.fieldLink own idx "WagonClearingModel" "lineA" "[I").before args s = true) (hdg : decode cc pc = .ok (.getfield idx, 3)) (kk : W p l e R s m args below meth c H locs cells slots Q (F0 m (pc + 3) ls (.ref (a 1) :: rest))) : W p l e R s m args below meth c H locs cells slots Q (F0 m (pc) ls (.ref (a 0) :: rest)) :=
  va_get (ci := 8) (C := RX8) (T := TX8) (N := 31) E.hx E.hb E.hts inW8 E.hown E.hK hw.1 0 rfl rfl 1 (by decide) hl (fun _ h => h) rfl hdg kk
theorem gM_0_2 (E : EM p s m args meth c D a g cc nL own ret) (hw : WM D a g S s H locs) {idx : Nat} (hl : (Cond.fieldLink own idx "WagonClearingModel" "lineB" "[I").before args s = true) (hdg : decode cc pc = .ok (.getfield idx, 3)) (kk : W p l e R s m args below meth c H locs cells slots Q (F0 m (pc + 3) ls (.ref (a 2) :: rest))) : W p l e R s m args below meth c H locs cells slots Q (F0 m (pc) ls (.ref (a 0) :: rest)) :=
  va_get (ci := 8) (C := RX8) (T := TX8) (N := 31) E.hx E.hb E.hts inW8 E.hown E.hK hw.1 0 rfl rfl 2 (by decide) hl (fun _ h => h) rfl hdg kk
theorem gM_0_3 (E : EM p s m args meth c D a g cc nL own ret) (hw : WM D a g S s H locs) {idx : Nat} (hl : (Cond.fieldLink own idx "WagonClearingModel" "lineOf" "[I").before args s = true) (hdg : decode cc pc = .ok (.getfield idx, 3)) (kk : W p l e R s m args below meth c H locs cells slots Q (F0 m (pc + 3) ls (.ref (a 3) :: rest))) : W p l e R s m args below meth c H locs cells slots Q (F0 m (pc) ls (.ref (a 0) :: rest)) :=
  va_get (ci := 8) (C := RX8) (T := TX8) (N := 31) E.hx E.hb E.hts inW8 E.hown E.hK hw.1 0 rfl rfl 3 (by decide) hl (fun _ h => h) rfl hdg kk
theorem gM_0_4 (E : EM p s m args meth c D a g cc nL own ret) (hw : WM D a g S s H locs) {idx : Nat} (hl : (Cond.fieldLink own idx "WagonClearingModel" "miles" "[I").before args s = true) (hdg : decode cc pc = .ok (.getfield idx, 3)) (kk : W p l e R s m args below meth c H locs cells slots Q (F0 m (pc + 3) ls (.ref (a 4) :: rest))) : W p l e R s m args below meth c H locs cells slots Q (F0 m (pc) ls (.ref (a 0) :: rest)) :=
  va_get (ci := 8) (C := RX8) (T := TX8) (N := 31) E.hx E.hb E.hts inW8 E.hown E.hK hw.1 0 rfl rfl 4 (by decide) hl (fun _ h => h) rfl hdg kk
theorem gM_0_5 (E : EM p s m args meth c D a g cc nL own ret) (hw : WM D a g S s H locs) {idx : Nat} (hl : (Cond.fieldLink own idx "WagonClearingModel" "least" "[I").before args s = true) (hdg : decode cc pc = .ok (.getfield idx, 3)) (kk : W p l e R s m args below meth c H locs cells slots Q (F0 m (pc + 3) ls (.ref (a 5) :: rest))) : W p l e R s m args below meth c H locs cells slots Q (F0 m (pc) ls (.ref (a 0) :: rest)) :=
  va_get (ci := 8) (C := RX8) (T := TX8) (N := 31) E.hx E.hb E.hts inW8 E.hown E.hK hw.1 0 rfl rfl 5 (by decide) hl (fun _ h => h) rfl hdg kk
theorem gM_0_6 (E : EM p s m args meth c D a g cc nL own ret) (hw : WM D a g S s H locs) {idx : Nat} (hl : (Cond.fieldLink own idx "WagonClearingModel" "wagons" "I").before args s = true) (hdg : decode cc pc = .ok (.getfield idx, 3)) (kk : W p l e R s m args below meth c H locs cells slots Q (F0 m (pc + 3) ls (.int (S.1 0 6) :: rest))) : W p l e R s m args below meth c H locs cells slots Q (F0 m (pc) ls (.ref (a 0) :: rest)) :=
  va_get (ci := 8) (C := RX8) (T := TX8) (N := 31) E.hx E.hb E.hts inW8 E.hown E.hK hw.1 0 rfl rfl 6 (by decide) hl (fun _ h => h) rfl hdg kk
theorem pM_0_6 (E : EM p s m args meth c D a g cc nL own ret) (hw : WM D a g S s H locs) {x : Int32} {idx : Nat} (hl : (Cond.fieldLink own idx "WagonClearingModel" "wagons" "I").before args s = true) (hdg : decode cc pc = .ok (.putfield idx, 3)) (kk : ∀ (S1 : SM), S1 = stM S 0 6 x → ∀ (H1 : Heap) (locs1 : List Loc), WM D a g S1 s H1 locs1 → W p l e R s m args below meth c H1 locs1 cells slots Q (F0 m (pc + 3) ls (rest))) : W p l e R s m args below meth c H locs cells slots Q (F0 m (pc) ls (.int x :: .ref (a 0) :: rest)) :=
  va_put (ci := 8) (C := RX8) (T := TX8) (N := 31) E.hx E.hb E.hts inW8 tyX8 tyX8_ok nmX8 E.hown E.hK hw.1 (E.hD S) hw.2 0 rfl rfl 6 (by decide) hl (fun _ h => h) rfl (tyX8_ok 6 (by decide)) rfl rfl (Nat.le_of_ble_eq_true rfl) hdg (fun H1 locs1 h1 _ h3 => kk _ rfl H1 locs1 ⟨h1, h3⟩)
theorem gM_0_7 (E : EM p s m args meth c D a g cc nL own ret) (hw : WM D a g S s H locs) {idx : Nat} (hl : (Cond.fieldLink own idx "WagonClearingModel" "mark" "[I").before args s = true) (hdg : decode cc pc = .ok (.getfield idx, 3)) (kk : W p l e R s m args below meth c H locs cells slots Q (F0 m (pc + 3) ls (.ref (a 6) :: rest))) : W p l e R s m args below meth c H locs cells slots Q (F0 m (pc) ls (.ref (a 0) :: rest)) :=
  va_get (ci := 8) (C := RX8) (T := TX8) (N := 31) E.hx E.hb E.hts inW8 E.hown E.hK hw.1 0 rfl rfl 7 (by decide) hl (fun _ h => h) rfl hdg kk
theorem gM_0_8 (E : EM p s m args meth c D a g cc nL own ret) (hw : WM D a g S s H locs) {idx : Nat} (hl : (Cond.fieldLink own idx "WagonClearingModel" "owner" "[I").before args s = true) (hdg : decode cc pc = .ok (.getfield idx, 3)) (kk : W p l e R s m args below meth c H locs cells slots Q (F0 m (pc + 3) ls (.ref (a 7) :: rest))) : W p l e R s m args below meth c H locs cells slots Q (F0 m (pc) ls (.ref (a 0) :: rest)) :=
  va_get (ci := 8) (C := RX8) (T := TX8) (N := 31) E.hx E.hb E.hts inW8 E.hown E.hK hw.1 0 rfl rfl 8 (by decide) hl (fun _ h => h) rfl hdg kk
theorem gM_0_9 (E : EM p s m args meth c D a g cc nL own ret) (hw : WM D a g S s H locs) {idx : Nat} (hl : (Cond.fieldLink own idx "WagonClearingModel" "sights" "I").before args s = true) (hdg : decode cc pc = .ok (.getfield idx, 3)) (kk : W p l e R s m args below meth c H locs cells slots Q (F0 m (pc + 3) ls (.int (S.1 0 9) :: rest))) : W p l e R s m args below meth c H locs cells slots Q (F0 m (pc) ls (.ref (a 0) :: rest)) :=
  va_get (ci := 8) (C := RX8) (T := TX8) (N := 31) E.hx E.hb E.hts inW8 E.hown E.hK hw.1 0 rfl rfl 9 (by decide) hl (fun _ h => h) rfl hdg kk
theorem pM_0_9 (E : EM p s m args meth c D a g cc nL own ret) (hw : WM D a g S s H locs) {x : Int32} {idx : Nat} (hl : (Cond.fieldLink own idx "WagonClearingModel" "sights" "I").before args s = true) (hdg : decode cc pc = .ok (.putfield idx, 3)) (kk : ∀ (S1 : SM), S1 = stM S 0 9 x → ∀ (H1 : Heap) (locs1 : List Loc), WM D a g S1 s H1 locs1 → W p l e R s m args below meth c H1 locs1 cells slots Q (F0 m (pc + 3) ls (rest))) : W p l e R s m args below meth c H locs cells slots Q (F0 m (pc) ls (.int x :: .ref (a 0) :: rest)) :=
  va_put (ci := 8) (C := RX8) (T := TX8) (N := 31) E.hx E.hb E.hts inW8 tyX8 tyX8_ok nmX8 E.hown E.hK hw.1 (E.hD S) hw.2 0 rfl rfl 9 (by decide) hl (fun _ h => h) rfl (tyX8_ok 9 (by decide)) rfl rfl (Nat.le_of_ble_eq_true rfl) hdg (fun H1 locs1 h1 _ h3 => kk _ rfl H1 locs1 ⟨h1, h3⟩)
theorem gM_0_10 (E : EM p s m args meth c D a g cc nL own ret) (hw : WM D a g S s H locs) {idx : Nat} (hl : (Cond.fieldLink own idx "WagonClearingModel" "seenMark" "[I").before args s = true) (hdg : decode cc pc = .ok (.getfield idx, 3)) (kk : W p l e R s m args below meth c H locs cells slots Q (F0 m (pc + 3) ls (.ref (a 8) :: rest))) : W p l e R s m args below meth c H locs cells slots Q (F0 m (pc) ls (.ref (a 0) :: rest)) :=
  va_get (ci := 8) (C := RX8) (T := TX8) (N := 31) E.hx E.hb E.hts inW8 E.hown E.hK hw.1 0 rfl rfl 10 (by decide) hl (fun _ h => h) rfl hdg kk
theorem gM_0_11 (E : EM p s m args meth c D a g cc nL own ret) (hw : WM D a g S s H locs) {idx : Nat} (hl : (Cond.fieldLink own idx "WagonClearingModel" "seenAt" "[I").before args s = true) (hdg : decode cc pc = .ok (.getfield idx, 3)) (kk : W p l e R s m args below meth c H locs cells slots Q (F0 m (pc + 3) ls (.ref (a 9) :: rest))) : W p l e R s m args below meth c H locs cells slots Q (F0 m (pc) ls (.ref (a 0) :: rest)) :=
  va_get (ci := 8) (C := RX8) (T := TX8) (N := 31) E.hx E.hb E.hts inW8 E.hown E.hK hw.1 0 rfl rfl 11 (by decide) hl (fun _ h => h) rfl hdg kk
theorem gM_0_12 (E : EM p s m args meth c D a g cc nL own ret) (hw : WM D a g S s H locs) {idx : Nat} (hl : (Cond.fieldLink own idx "WagonClearingModel" "seenOn" "[I").before args s = true) (hdg : decode cc pc = .ok (.getfield idx, 3)) (kk : W p l e R s m args below meth c H locs cells slots Q (F0 m (pc + 3) ls (.ref (a 10) :: rest))) : W p l e R s m args below meth c H locs cells slots Q (F0 m (pc) ls (.ref (a 0) :: rest)) :=
  va_get (ci := 8) (C := RX8) (T := TX8) (N := 31) E.hx E.hb E.hts inW8 E.hown E.hK hw.1 0 rfl rfl 12 (by decide) hl (fun _ h => h) rfl hdg kk
theorem gM_0_13 (E : EM p s m args meth c D a g cc nL own ret) (hw : WM D a g S s H locs) {idx : Nat} (hl : (Cond.fieldLink own idx "WagonClearingModel" "seenOf" "[I").before args s = true) (hdg : decode cc pc = .ok (.getfield idx, 3)) (kk : W p l e R s m args below meth c H locs cells slots Q (F0 m (pc + 3) ls (.ref (a 11) :: rest))) : W p l e R s m args below meth c H locs cells slots Q (F0 m (pc) ls (.ref (a 0) :: rest)) :=
  va_get (ci := 8) (C := RX8) (T := TX8) (N := 31) E.hx E.hb E.hts inW8 E.hown E.hK hw.1 0 rfl rfl 13 (by decide) hl (fun _ h => h) rfl hdg kk
theorem gM_0_14 (E : EM p s m args meth c D a g cc nL own ret) (hw : WM D a g S s H locs) {idx : Nat} (hl : (Cond.fieldLink own idx "WagonClearingModel" "free" "I").before args s = true) (hdg : decode cc pc = .ok (.getfield idx, 3)) (kk : W p l e R s m args below meth c H locs cells slots Q (F0 m (pc + 3) ls (.int (S.1 0 14) :: rest))) : W p l e R s m args below meth c H locs cells slots Q (F0 m (pc) ls (.ref (a 0) :: rest)) :=
  va_get (ci := 8) (C := RX8) (T := TX8) (N := 31) E.hx E.hb E.hts inW8 E.hown E.hK hw.1 0 rfl rfl 14 (by decide) hl (fun _ h => h) rfl hdg kk
theorem pM_0_14 (E : EM p s m args meth c D a g cc nL own ret) (hw : WM D a g S s H locs) {x : Int32} {idx : Nat} (hl : (Cond.fieldLink own idx "WagonClearingModel" "free" "I").before args s = true) (hdg : decode cc pc = .ok (.putfield idx, 3)) (kk : ∀ (S1 : SM), S1 = stM S 0 14 x → ∀ (H1 : Heap) (locs1 : List Loc), WM D a g S1 s H1 locs1 → W p l e R s m args below meth c H1 locs1 cells slots Q (F0 m (pc + 3) ls (rest))) : W p l e R s m args below meth c H locs cells slots Q (F0 m (pc) ls (.int x :: .ref (a 0) :: rest)) :=
  va_put (ci := 8) (C := RX8) (T := TX8) (N := 31) E.hx E.hb E.hts inW8 tyX8 tyX8_ok nmX8 E.hown E.hK hw.1 (E.hD S) hw.2 0 rfl rfl 14 (by decide) hl (fun _ h => h) rfl (tyX8_ok 14 (by decide)) rfl rfl (Nat.le_of_ble_eq_true rfl) hdg (fun H1 locs1 h1 _ h3 => kk _ rfl H1 locs1 ⟨h1, h3⟩)
theorem gM_0_15 (E : EM p s m args meth c D a g cc nL own ret) (hw : WM D a g S s H locs) {idx : Nat} (hl : (Cond.fieldLink own idx "WagonClearingModel" "price" "I").before args s = true) (hdg : decode cc pc = .ok (.getfield idx, 3)) (kk : W p l e R s m args below meth c H locs cells slots Q (F0 m (pc + 3) ls (.int (S.1 0 15) :: rest))) : W p l e R s m args below meth c H locs cells slots Q (F0 m (pc) ls (.ref (a 0) :: rest)) :=
  va_get (ci := 8) (C := RX8) (T := TX8) (N := 31) E.hx E.hb E.hts inW8 E.hown E.hK hw.1 0 rfl rfl 15 (by decide) hl (fun _ h => h) rfl hdg kk
theorem pM_0_15 (E : EM p s m args meth c D a g cc nL own ret) (hw : WM D a g S s H locs) {x : Int32} {idx : Nat} (hl : (Cond.fieldLink own idx "WagonClearingModel" "price" "I").before args s = true) (hdg : decode cc pc = .ok (.putfield idx, 3)) (kk : ∀ (S1 : SM), S1 = stM S 0 15 x → ∀ (H1 : Heap) (locs1 : List Loc), WM D a g S1 s H1 locs1 → W p l e R s m args below meth c H1 locs1 cells slots Q (F0 m (pc + 3) ls (rest))) : W p l e R s m args below meth c H locs cells slots Q (F0 m (pc) ls (.int x :: .ref (a 0) :: rest)) :=
  va_put (ci := 8) (C := RX8) (T := TX8) (N := 31) E.hx E.hb E.hts inW8 tyX8 tyX8_ok nmX8 E.hown E.hK hw.1 (E.hD S) hw.2 0 rfl rfl 15 (by decide) hl (fun _ h => h) rfl (tyX8_ok 15 (by decide)) rfl rfl (Nat.le_of_ble_eq_true rfl) hdg (fun H1 locs1 h1 _ h3 => kk _ rfl H1 locs1 ⟨h1, h3⟩)
theorem gM_0_16 (E : EM p s m args meth c D a g cc nL own ret) (hw : WM D a g S s H locs) {idx : Nat} (hl : (Cond.fieldLink own idx "WagonClearingModel" "booked" "I").before args s = true) (hdg : decode cc pc = .ok (.getfield idx, 3)) (kk : W p l e R s m args below meth c H locs cells slots Q (F0 m (pc + 3) ls (.int (S.1 0 16) :: rest))) : W p l e R s m args below meth c H locs cells slots Q (F0 m (pc) ls (.ref (a 0) :: rest)) :=
  va_get (ci := 8) (C := RX8) (T := TX8) (N := 31) E.hx E.hb E.hts inW8 E.hown E.hK hw.1 0 rfl rfl 16 (by decide) hl (fun _ h => h) rfl hdg kk
theorem pM_0_16 (E : EM p s m args meth c D a g cc nL own ret) (hw : WM D a g S s H locs) {x : Int32} {idx : Nat} (hl : (Cond.fieldLink own idx "WagonClearingModel" "booked" "I").before args s = true) (hdg : decode cc pc = .ok (.putfield idx, 3)) (kk : ∀ (S1 : SM), S1 = stM S 0 16 x → ∀ (H1 : Heap) (locs1 : List Loc), WM D a g S1 s H1 locs1 → W p l e R s m args below meth c H1 locs1 cells slots Q (F0 m (pc + 3) ls (rest))) : W p l e R s m args below meth c H locs cells slots Q (F0 m (pc) ls (.int x :: .ref (a 0) :: rest)) :=
  va_put (ci := 8) (C := RX8) (T := TX8) (N := 31) E.hx E.hb E.hts inW8 tyX8 tyX8_ok nmX8 E.hown E.hK hw.1 (E.hD S) hw.2 0 rfl rfl 16 (by decide) hl (fun _ h => h) rfl (tyX8_ok 16 (by decide)) rfl rfl (Nat.le_of_ble_eq_true rfl) hdg (fun H1 locs1 h1 _ h3 => kk _ rfl H1 locs1 ⟨h1, h3⟩)
theorem gM_0_17 (E : EM p s m args meth c D a g cc nL own ret) (hw : WM D a g S s H locs) {idx : Nat} (hl : (Cond.fieldLink own idx "WagonClearingModel" "balances" "[I").before args s = true) (hdg : decode cc pc = .ok (.getfield idx, 3)) (kk : W p l e R s m args below meth c H locs cells slots Q (F0 m (pc + 3) ls (.ref (a 12) :: rest))) : W p l e R s m args below meth c H locs cells slots Q (F0 m (pc) ls (.ref (a 0) :: rest)) :=
  va_get (ci := 8) (C := RX8) (T := TX8) (N := 31) E.hx E.hb E.hts inW8 E.hown E.hK hw.1 0 rfl rfl 17 (by decide) hl (fun _ h => h) rfl hdg kk
theorem gM_0_18 (E : EM p s m args meth c D a g cc nL own ret) (hw : WM D a g S s H locs) {idx : Nat} (hl : (Cond.fieldLink own idx "WagonClearingModel" "there" "[I").before args s = true) (hdg : decode cc pc = .ok (.getfield idx, 3)) (kk : W p l e R s m args below meth c H locs cells slots Q (F0 m (pc + 3) ls (.ref (a 13) :: rest))) : W p l e R s m args below meth c H locs cells slots Q (F0 m (pc) ls (.ref (a 0) :: rest)) :=
  va_get (ci := 8) (C := RX8) (T := TX8) (N := 31) E.hx E.hb E.hts inW8 E.hown E.hK hw.1 0 rfl rfl 18 (by decide) hl (fun _ h => h) rfl hdg kk
theorem gM_0_19 (E : EM p s m args meth c D a g cc nL own ret) (hw : WM D a g S s H locs) {idx : Nat} (hl : (Cond.fieldLink own idx "WagonClearingModel" "wanted" "[I").before args s = true) (hdg : decode cc pc = .ok (.getfield idx, 3)) (kk : W p l e R s m args below meth c H locs cells slots Q (F0 m (pc + 3) ls (.ref (a 14) :: rest))) : W p l e R s m args below meth c H locs cells slots Q (F0 m (pc) ls (.ref (a 0) :: rest)) :=
  va_get (ci := 8) (C := RX8) (T := TX8) (N := 31) E.hx E.hb E.hts inW8 E.hown E.hK hw.1 0 rfl rfl 19 (by decide) hl (fun _ h => h) rfl hdg kk
theorem gM_0_20 (E : EM p s m args meth c D a g cc nL own ret) (hw : WM D a g S s H locs) {idx : Nat} (hl : (Cond.fieldLink own idx "WagonClearingModel" "parts" "[I").before args s = true) (hdg : decode cc pc = .ok (.getfield idx, 3)) (kk : W p l e R s m args below meth c H locs cells slots Q (F0 m (pc + 3) ls (.ref (a 15) :: rest))) : W p l e R s m args below meth c H locs cells slots Q (F0 m (pc) ls (.ref (a 0) :: rest)) :=
  va_get (ci := 8) (C := RX8) (T := TX8) (N := 31) E.hx E.hb E.hts inW8 E.hown E.hK hw.1 0 rfl rfl 20 (by decide) hl (fun _ h => h) rfl hdg kk
theorem gM_0_21 (E : EM p s m args meth c D a g cc nL own ret) (hw : WM D a g S s H locs) {idx : Nat} (hl : (Cond.fieldLink own idx "WagonClearingModel" "run" "[I").before args s = true) (hdg : decode cc pc = .ok (.getfield idx, 3)) (kk : W p l e R s m args below meth c H locs cells slots Q (F0 m (pc + 3) ls (.ref (a 16) :: rest))) : W p l e R s m args below meth c H locs cells slots Q (F0 m (pc) ls (.ref (a 0) :: rest)) :=
  va_get (ci := 8) (C := RX8) (T := TX8) (N := 31) E.hx E.hb E.hts inW8 E.hown E.hK hw.1 0 rfl rfl 21 (by decide) hl (fun _ h => h) rfl hdg kk
theorem gM_0_22 (E : EM p s m args meth c D a g cc nL own ret) (hw : WM D a g S s H locs) {idx : Nat} (hl : (Cond.fieldLink own idx "WagonClearingModel" "cut" "[J").before args s = true) (hdg : decode cc pc = .ok (.getfield idx, 3)) (kk : W p l e R s m args below meth c H locs cells slots Q (F0 m (pc + 3) ls (.ref (a 24) :: rest))) : W p l e R s m args below meth c H locs cells slots Q (F0 m (pc) ls (.ref (a 0) :: rest)) :=
  va_get (ci := 8) (C := RX8) (T := TX8) (N := 31) E.hx E.hb E.hts inW8 E.hown E.hK hw.1 0 rfl rfl 22 (by decide) hl (fun _ h => h) rfl hdg kk
theorem gM_0_23 (E : EM p s m args meth c D a g cc nL own ret) (hw : WM D a g S s H locs) {idx : Nat} (hl : (Cond.fieldLink own idx "WagonClearingModel" "of" "[I").before args s = true) (hdg : decode cc pc = .ok (.getfield idx, 3)) (kk : W p l e R s m args below meth c H locs cells slots Q (F0 m (pc + 3) ls (.ref (a 17) :: rest))) : W p l e R s m args below meth c H locs cells slots Q (F0 m (pc) ls (.ref (a 0) :: rest)) :=
  va_get (ci := 8) (C := RX8) (T := TX8) (N := 31) E.hx E.hb E.hts inW8 E.hown E.hK hw.1 0 rfl rfl 23 (by decide) hl (fun _ h => h) rfl hdg kk
theorem gM_0_24 (E : EM p s m args meth c D a g cc nL own ret) (hw : WM D a g S s H locs) {idx : Nat} (hl : (Cond.fieldLink own idx "WagonClearingModel" "best" "[I").before args s = true) (hdg : decode cc pc = .ok (.getfield idx, 3)) (kk : W p l e R s m args below meth c H locs cells slots Q (F0 m (pc + 3) ls (.ref (a 18) :: rest))) : W p l e R s m args below meth c H locs cells slots Q (F0 m (pc) ls (.ref (a 0) :: rest)) :=
  va_get (ci := 8) (C := RX8) (T := TX8) (N := 31) E.hx E.hb E.hts inW8 E.hown E.hK hw.1 0 rfl rfl 24 (by decide) hl (fun _ h => h) rfl hdg kk
theorem gM_0_25 (E : EM p s m args meth c D a g cc nL own ret) (hw : WM D a g S s H locs) {idx : Nat} (hl : (Cond.fieldLink own idx "WagonClearingModel" "nowOf" "[I").before args s = true) (hdg : decode cc pc = .ok (.getfield idx, 3)) (kk : W p l e R s m args below meth c H locs cells slots Q (F0 m (pc + 3) ls (.ref (a 19) :: rest))) : W p l e R s m args below meth c H locs cells slots Q (F0 m (pc) ls (.ref (a 0) :: rest)) :=
  va_get (ci := 8) (C := RX8) (T := TX8) (N := 31) E.hx E.hb E.hts inW8 E.hown E.hK hw.1 0 rfl rfl 25 (by decide) hl (fun _ h => h) rfl hdg kk
theorem gM_0_26 (E : EM p s m args meth c D a g cc nL own ret) (hw : WM D a g S s H locs) {idx : Nat} (hl : (Cond.fieldLink own idx "WagonClearingModel" "most" "[I").before args s = true) (hdg : decode cc pc = .ok (.getfield idx, 3)) (kk : W p l e R s m args below meth c H locs cells slots Q (F0 m (pc + 3) ls (.ref (a 20) :: rest))) : W p l e R s m args below meth c H locs cells slots Q (F0 m (pc) ls (.ref (a 0) :: rest)) :=
  va_get (ci := 8) (C := RX8) (T := TX8) (N := 31) E.hx E.hb E.hts inW8 E.hown E.hK hw.1 0 rfl rfl 26 (by decide) hl (fun _ h => h) rfl hdg kk
theorem gM_0_27 (E : EM p s m args meth c D a g cc nL own ret) (hw : WM D a g S s H locs) {idx : Nat} (hl : (Cond.fieldLink own idx "WagonClearingModel" "led" "[I").before args s = true) (hdg : decode cc pc = .ok (.getfield idx, 3)) (kk : W p l e R s m args below meth c H locs cells slots Q (F0 m (pc + 3) ls (.ref (a 21) :: rest))) : W p l e R s m args below meth c H locs cells slots Q (F0 m (pc) ls (.ref (a 0) :: rest)) :=
  va_get (ci := 8) (C := RX8) (T := TX8) (N := 31) E.hx E.hb E.hts inW8 E.hown E.hK hw.1 0 rfl rfl 27 (by decide) hl (fun _ h => h) rfl hdg kk
theorem gM_0_28 (E : EM p s m args meth c D a g cc nL own ret) (hw : WM D a g S s H locs) {idx : Nat} (hl : (Cond.fieldLink own idx "WagonClearingModel" "far" "[I").before args s = true) (hdg : decode cc pc = .ok (.getfield idx, 3)) (kk : W p l e R s m args below meth c H locs cells slots Q (F0 m (pc + 3) ls (.ref (a 22) :: rest))) : W p l e R s m args below meth c H locs cells slots Q (F0 m (pc) ls (.ref (a 0) :: rest)) :=
  va_get (ci := 8) (C := RX8) (T := TX8) (N := 31) E.hx E.hb E.hts inW8 E.hown E.hK hw.1 0 rfl rfl 28 (by decide) hl (fun _ h => h) rfl hdg kk
theorem gM_0_29 (E : EM p s m args meth c D a g cc nL own ret) (hw : WM D a g S s H locs) {idx : Nat} (hl : (Cond.fieldLink own idx "WagonClearingModel" "by" "[I").before args s = true) (hdg : decode cc pc = .ok (.getfield idx, 3)) (kk : W p l e R s m args below meth c H locs cells slots Q (F0 m (pc + 3) ls (.ref (a 23) :: rest))) : W p l e R s m args below meth c H locs cells slots Q (F0 m (pc) ls (.ref (a 0) :: rest)) :=
  va_get (ci := 8) (C := RX8) (T := TX8) (N := 31) E.hx E.hb E.hts inW8 E.hown E.hK hw.1 0 rfl rfl 29 (by decide) hl (fun _ h => h) rfl hdg kk
theorem gM_0_30 (E : EM p s m args meth c D a g cc nL own ret) (hw : WM D a g S s H locs) {idx : Nat} (hl : (Cond.fieldLink own idx "WagonClearingModel" "sum" "I").before args s = true) (hdg : decode cc pc = .ok (.getfield idx, 3)) (kk : W p l e R s m args below meth c H locs cells slots Q (F0 m (pc + 3) ls (.int (S.1 0 30) :: rest))) : W p l e R s m args below meth c H locs cells slots Q (F0 m (pc) ls (.ref (a 0) :: rest)) :=
  va_get (ci := 8) (C := RX8) (T := TX8) (N := 31) E.hx E.hb E.hts inW8 E.hown E.hK hw.1 0 rfl rfl 30 (by decide) hl (fun _ h => h) rfl hdg kk
theorem pM_0_30 (E : EM p s m args meth c D a g cc nL own ret) (hw : WM D a g S s H locs) {x : Int32} {idx : Nat} (hl : (Cond.fieldLink own idx "WagonClearingModel" "sum" "I").before args s = true) (hdg : decode cc pc = .ok (.putfield idx, 3)) (kk : ∀ (S1 : SM), S1 = stM S 0 30 x → ∀ (H1 : Heap) (locs1 : List Loc), WM D a g S1 s H1 locs1 → W p l e R s m args below meth c H1 locs1 cells slots Q (F0 m (pc + 3) ls (rest))) : W p l e R s m args below meth c H locs cells slots Q (F0 m (pc) ls (.int x :: .ref (a 0) :: rest)) :=
  va_put (ci := 8) (C := RX8) (T := TX8) (N := 31) E.hx E.hb E.hts inW8 tyX8 tyX8_ok nmX8 E.hown E.hK hw.1 (E.hD S) hw.2 0 rfl rfl 30 (by decide) hl (fun _ h => h) rfl (tyX8_ok 30 (by decide)) rfl rfl (Nat.le_of_ble_eq_true rfl) hdg (fun H1 locs1 h1 _ h3 => kk _ rfl H1 locs1 ⟨h1, h3⟩)
theorem lM_1 (E : EM p s m args meth c D a g cc nL own ret) (hw : WM D a g S s H locs) {i : Int32} (hin : vp_in i 24) (hdg : decode cc pc = .ok (.iaload, 1)) (kk : ∀ v : Int32, v = (S.1 1) i.toNatClampNeg → W p l e R s m args below meth c H locs cells slots Q (F0 m (pc + 1) ls (.int v :: rest))) : W p l e R s m args below meth c H locs cells slots Q (F0 m (pc) ls (.int i :: .ref (a 1) :: rest)) :=
  va_iald E.hx E.hb E.hK hw.1 1 0 rfl rfl hin hdg (kk _ rfl)
theorem sM_1 (E : EM p s m args meth c D a g cc nL own ret) (hw : WM D a g S s H locs) {i : Int32} {x : Int32} (hin : vp_in i 24) (hdg : decode cc pc = .ok (.iastore, 1)) (kk : ∀ (S1 : SM), S1 = stM S 1 i.toNatClampNeg x → ∀ (H1 : Heap) (locs1 : List Loc), WM D a g S1 s H1 locs1 → W p l e R s m args below meth c H1 locs1 cells slots Q (F0 m (pc + 1) ls (rest))) : W p l e R s m args below meth c H locs cells slots Q (F0 m (pc) ls (.int x :: .int i :: .ref (a 1) :: rest)) :=
  va_iast E.hx E.hb E.hK hw.1 (E.hD S) hw.2 1 0 rfl rfl hin hdg (fun H1 locs1 h1 _ h3 => kk _ rfl H1 locs1 ⟨h1, h3⟩)
theorem lM_2 (E : EM p s m args meth c D a g cc nL own ret) (hw : WM D a g S s H locs) {i : Int32} (hin : vp_in i 24) (hdg : decode cc pc = .ok (.iaload, 1)) (kk : ∀ v : Int32, v = (S.1 2) i.toNatClampNeg → W p l e R s m args below meth c H locs cells slots Q (F0 m (pc + 1) ls (.int v :: rest))) : W p l e R s m args below meth c H locs cells slots Q (F0 m (pc) ls (.int i :: .ref (a 2) :: rest)) :=
  va_iald E.hx E.hb E.hK hw.1 2 1 rfl rfl hin hdg (kk _ rfl)
theorem sM_2 (E : EM p s m args meth c D a g cc nL own ret) (hw : WM D a g S s H locs) {i : Int32} {x : Int32} (hin : vp_in i 24) (hdg : decode cc pc = .ok (.iastore, 1)) (kk : ∀ (S1 : SM), S1 = stM S 2 i.toNatClampNeg x → ∀ (H1 : Heap) (locs1 : List Loc), WM D a g S1 s H1 locs1 → W p l e R s m args below meth c H1 locs1 cells slots Q (F0 m (pc + 1) ls (rest))) : W p l e R s m args below meth c H locs cells slots Q (F0 m (pc) ls (.int x :: .int i :: .ref (a 2) :: rest)) :=
  va_iast E.hx E.hb E.hK hw.1 (E.hD S) hw.2 2 1 rfl rfl hin hdg (fun H1 locs1 h1 _ h3 => kk _ rfl H1 locs1 ⟨h1, h3⟩)
theorem lM_3 (E : EM p s m args meth c D a g cc nL own ret) (hw : WM D a g S s H locs) {i : Int32} (hin : vp_in i 24) (hdg : decode cc pc = .ok (.iaload, 1)) (kk : ∀ v : Int32, v = (S.1 3) i.toNatClampNeg → W p l e R s m args below meth c H locs cells slots Q (F0 m (pc + 1) ls (.int v :: rest))) : W p l e R s m args below meth c H locs cells slots Q (F0 m (pc) ls (.int i :: .ref (a 3) :: rest)) :=
  va_iald E.hx E.hb E.hK hw.1 3 2 rfl rfl hin hdg (kk _ rfl)
theorem sM_3 (E : EM p s m args meth c D a g cc nL own ret) (hw : WM D a g S s H locs) {i : Int32} {x : Int32} (hin : vp_in i 24) (hdg : decode cc pc = .ok (.iastore, 1)) (kk : ∀ (S1 : SM), S1 = stM S 3 i.toNatClampNeg x → ∀ (H1 : Heap) (locs1 : List Loc), WM D a g S1 s H1 locs1 → W p l e R s m args below meth c H1 locs1 cells slots Q (F0 m (pc + 1) ls (rest))) : W p l e R s m args below meth c H locs cells slots Q (F0 m (pc) ls (.int x :: .int i :: .ref (a 3) :: rest)) :=
  va_iast E.hx E.hb E.hK hw.1 (E.hD S) hw.2 3 2 rfl rfl hin hdg (fun H1 locs1 h1 _ h3 => kk _ rfl H1 locs1 ⟨h1, h3⟩)
theorem lM_4 (E : EM p s m args meth c D a g cc nL own ret) (hw : WM D a g S s H locs) {i : Int32} (hin : vp_in i 24) (hdg : decode cc pc = .ok (.iaload, 1)) (kk : ∀ v : Int32, v = (S.1 4) i.toNatClampNeg → W p l e R s m args below meth c H locs cells slots Q (F0 m (pc + 1) ls (.int v :: rest))) : W p l e R s m args below meth c H locs cells slots Q (F0 m (pc) ls (.int i :: .ref (a 4) :: rest)) :=
  va_iald E.hx E.hb E.hK hw.1 4 3 rfl rfl hin hdg (kk _ rfl)
theorem sM_4 (E : EM p s m args meth c D a g cc nL own ret) (hw : WM D a g S s H locs) {i : Int32} {x : Int32} (hin : vp_in i 24) (hdg : decode cc pc = .ok (.iastore, 1)) (kk : ∀ (S1 : SM), S1 = stM S 4 i.toNatClampNeg x → ∀ (H1 : Heap) (locs1 : List Loc), WM D a g S1 s H1 locs1 → W p l e R s m args below meth c H1 locs1 cells slots Q (F0 m (pc + 1) ls (rest))) : W p l e R s m args below meth c H locs cells slots Q (F0 m (pc) ls (.int x :: .int i :: .ref (a 4) :: rest)) :=
  va_iast E.hx E.hb E.hK hw.1 (E.hD S) hw.2 4 3 rfl rfl hin hdg (fun H1 locs1 h1 _ h3 => kk _ rfl H1 locs1 ⟨h1, h3⟩)
theorem lM_5 (E : EM p s m args meth c D a g cc nL own ret) (hw : WM D a g S s H locs) {i : Int32} (hin : vp_in i 144) (hdg : decode cc pc = .ok (.iaload, 1)) (kk : ∀ v : Int32, v = (S.1 5) i.toNatClampNeg → W p l e R s m args below meth c H locs cells slots Q (F0 m (pc + 1) ls (.int v :: rest))) : W p l e R s m args below meth c H locs cells slots Q (F0 m (pc) ls (.int i :: .ref (a 5) :: rest)) :=
  va_iald E.hx E.hb E.hK hw.1 5 4 rfl rfl hin hdg (kk _ rfl)
theorem sM_5 (E : EM p s m args meth c D a g cc nL own ret) (hw : WM D a g S s H locs) {i : Int32} {x : Int32} (hin : vp_in i 144) (hdg : decode cc pc = .ok (.iastore, 1)) (kk : ∀ (S1 : SM), S1 = stM S 5 i.toNatClampNeg x → ∀ (H1 : Heap) (locs1 : List Loc), WM D a g S1 s H1 locs1 → W p l e R s m args below meth c H1 locs1 cells slots Q (F0 m (pc + 1) ls (rest))) : W p l e R s m args below meth c H locs cells slots Q (F0 m (pc) ls (.int x :: .int i :: .ref (a 5) :: rest)) :=
  va_iast E.hx E.hb E.hK hw.1 (E.hD S) hw.2 5 4 rfl rfl hin hdg (fun H1 locs1 h1 _ h3 => kk _ rfl H1 locs1 ⟨h1, h3⟩)
theorem lM_6 (E : EM p s m args meth c D a g cc nL own ret) (hw : WM D a g S s H locs) {i : Int32} (hin : vp_in i 4) (hdg : decode cc pc = .ok (.iaload, 1)) (kk : ∀ v : Int32, v = (S.1 6) i.toNatClampNeg → W p l e R s m args below meth c H locs cells slots Q (F0 m (pc + 1) ls (.int v :: rest))) : W p l e R s m args below meth c H locs cells slots Q (F0 m (pc) ls (.int i :: .ref (a 6) :: rest)) :=
  va_iald E.hx E.hb E.hK hw.1 6 5 rfl rfl hin hdg (kk _ rfl)
theorem sM_6 (E : EM p s m args meth c D a g cc nL own ret) (hw : WM D a g S s H locs) {i : Int32} {x : Int32} (hin : vp_in i 4) (hdg : decode cc pc = .ok (.iastore, 1)) (kk : ∀ (S1 : SM), S1 = stM S 6 i.toNatClampNeg x → ∀ (H1 : Heap) (locs1 : List Loc), WM D a g S1 s H1 locs1 → W p l e R s m args below meth c H1 locs1 cells slots Q (F0 m (pc + 1) ls (rest))) : W p l e R s m args below meth c H locs cells slots Q (F0 m (pc) ls (.int x :: .int i :: .ref (a 6) :: rest)) :=
  va_iast E.hx E.hb E.hK hw.1 (E.hD S) hw.2 6 5 rfl rfl hin hdg (fun H1 locs1 h1 _ h3 => kk _ rfl H1 locs1 ⟨h1, h3⟩)
theorem lM_7 (E : EM p s m args meth c D a g cc nL own ret) (hw : WM D a g S s H locs) {i : Int32} (hin : vp_in i 4) (hdg : decode cc pc = .ok (.iaload, 1)) (kk : ∀ v : Int32, v = (S.1 7) i.toNatClampNeg → W p l e R s m args below meth c H locs cells slots Q (F0 m (pc + 1) ls (.int v :: rest))) : W p l e R s m args below meth c H locs cells slots Q (F0 m (pc) ls (.int i :: .ref (a 7) :: rest)) :=
  va_iald E.hx E.hb E.hK hw.1 7 6 rfl rfl hin hdg (kk _ rfl)
theorem sM_7 (E : EM p s m args meth c D a g cc nL own ret) (hw : WM D a g S s H locs) {i : Int32} {x : Int32} (hin : vp_in i 4) (hdg : decode cc pc = .ok (.iastore, 1)) (kk : ∀ (S1 : SM), S1 = stM S 7 i.toNatClampNeg x → ∀ (H1 : Heap) (locs1 : List Loc), WM D a g S1 s H1 locs1 → W p l e R s m args below meth c H1 locs1 cells slots Q (F0 m (pc + 1) ls (rest))) : W p l e R s m args below meth c H locs cells slots Q (F0 m (pc) ls (.int x :: .int i :: .ref (a 7) :: rest)) :=
  va_iast E.hx E.hb E.hK hw.1 (E.hD S) hw.2 7 6 rfl rfl hin hdg (fun H1 locs1 h1 _ h3 => kk _ rfl H1 locs1 ⟨h1, h3⟩)
theorem lM_8 (E : EM p s m args meth c D a g cc nL own ret) (hw : WM D a g S s H locs) {i : Int32} (hin : vp_in i 7) (hdg : decode cc pc = .ok (.iaload, 1)) (kk : ∀ v : Int32, v = (S.1 8) i.toNatClampNeg → W p l e R s m args below meth c H locs cells slots Q (F0 m (pc + 1) ls (.int v :: rest))) : W p l e R s m args below meth c H locs cells slots Q (F0 m (pc) ls (.int i :: .ref (a 8) :: rest)) :=
  va_iald E.hx E.hb E.hK hw.1 8 7 rfl rfl hin hdg (kk _ rfl)
theorem sM_8 (E : EM p s m args meth c D a g cc nL own ret) (hw : WM D a g S s H locs) {i : Int32} {x : Int32} (hin : vp_in i 7) (hdg : decode cc pc = .ok (.iastore, 1)) (kk : ∀ (S1 : SM), S1 = stM S 8 i.toNatClampNeg x → ∀ (H1 : Heap) (locs1 : List Loc), WM D a g S1 s H1 locs1 → W p l e R s m args below meth c H1 locs1 cells slots Q (F0 m (pc + 1) ls (rest))) : W p l e R s m args below meth c H locs cells slots Q (F0 m (pc) ls (.int x :: .int i :: .ref (a 8) :: rest)) :=
  va_iast E.hx E.hb E.hK hw.1 (E.hD S) hw.2 8 7 rfl rfl hin hdg (fun H1 locs1 h1 _ h3 => kk _ rfl H1 locs1 ⟨h1, h3⟩)
theorem lM_9 (E : EM p s m args meth c D a g cc nL own ret) (hw : WM D a g S s H locs) {i : Int32} (hin : vp_in i 7) (hdg : decode cc pc = .ok (.iaload, 1)) (kk : ∀ v : Int32, v = (S.1 9) i.toNatClampNeg → W p l e R s m args below meth c H locs cells slots Q (F0 m (pc + 1) ls (.int v :: rest))) : W p l e R s m args below meth c H locs cells slots Q (F0 m (pc) ls (.int i :: .ref (a 9) :: rest)) :=
  va_iald E.hx E.hb E.hK hw.1 9 8 rfl rfl hin hdg (kk _ rfl)
theorem sM_9 (E : EM p s m args meth c D a g cc nL own ret) (hw : WM D a g S s H locs) {i : Int32} {x : Int32} (hin : vp_in i 7) (hdg : decode cc pc = .ok (.iastore, 1)) (kk : ∀ (S1 : SM), S1 = stM S 9 i.toNatClampNeg x → ∀ (H1 : Heap) (locs1 : List Loc), WM D a g S1 s H1 locs1 → W p l e R s m args below meth c H1 locs1 cells slots Q (F0 m (pc + 1) ls (rest))) : W p l e R s m args below meth c H locs cells slots Q (F0 m (pc) ls (.int x :: .int i :: .ref (a 9) :: rest)) :=
  va_iast E.hx E.hb E.hK hw.1 (E.hD S) hw.2 9 8 rfl rfl hin hdg (fun H1 locs1 h1 _ h3 => kk _ rfl H1 locs1 ⟨h1, h3⟩)
theorem lM_10 (E : EM p s m args meth c D a g cc nL own ret) (hw : WM D a g S s H locs) {i : Int32} (hin : vp_in i 7) (hdg : decode cc pc = .ok (.iaload, 1)) (kk : ∀ v : Int32, v = (S.1 10) i.toNatClampNeg → W p l e R s m args below meth c H locs cells slots Q (F0 m (pc + 1) ls (.int v :: rest))) : W p l e R s m args below meth c H locs cells slots Q (F0 m (pc) ls (.int i :: .ref (a 10) :: rest)) :=
  va_iald E.hx E.hb E.hK hw.1 10 9 rfl rfl hin hdg (kk _ rfl)
theorem sM_10 (E : EM p s m args meth c D a g cc nL own ret) (hw : WM D a g S s H locs) {i : Int32} {x : Int32} (hin : vp_in i 7) (hdg : decode cc pc = .ok (.iastore, 1)) (kk : ∀ (S1 : SM), S1 = stM S 10 i.toNatClampNeg x → ∀ (H1 : Heap) (locs1 : List Loc), WM D a g S1 s H1 locs1 → W p l e R s m args below meth c H1 locs1 cells slots Q (F0 m (pc + 1) ls (rest))) : W p l e R s m args below meth c H locs cells slots Q (F0 m (pc) ls (.int x :: .int i :: .ref (a 10) :: rest)) :=
  va_iast E.hx E.hb E.hK hw.1 (E.hD S) hw.2 10 9 rfl rfl hin hdg (fun H1 locs1 h1 _ h3 => kk _ rfl H1 locs1 ⟨h1, h3⟩)
theorem lM_11 (E : EM p s m args meth c D a g cc nL own ret) (hw : WM D a g S s H locs) {i : Int32} (hin : vp_in i 7) (hdg : decode cc pc = .ok (.iaload, 1)) (kk : ∀ v : Int32, v = (S.1 11) i.toNatClampNeg → W p l e R s m args below meth c H locs cells slots Q (F0 m (pc + 1) ls (.int v :: rest))) : W p l e R s m args below meth c H locs cells slots Q (F0 m (pc) ls (.int i :: .ref (a 11) :: rest)) :=
  va_iald E.hx E.hb E.hK hw.1 11 10 rfl rfl hin hdg (kk _ rfl)
theorem sM_11 (E : EM p s m args meth c D a g cc nL own ret) (hw : WM D a g S s H locs) {i : Int32} {x : Int32} (hin : vp_in i 7) (hdg : decode cc pc = .ok (.iastore, 1)) (kk : ∀ (S1 : SM), S1 = stM S 11 i.toNatClampNeg x → ∀ (H1 : Heap) (locs1 : List Loc), WM D a g S1 s H1 locs1 → W p l e R s m args below meth c H1 locs1 cells slots Q (F0 m (pc + 1) ls (rest))) : W p l e R s m args below meth c H locs cells slots Q (F0 m (pc) ls (.int x :: .int i :: .ref (a 11) :: rest)) :=
  va_iast E.hx E.hb E.hK hw.1 (E.hD S) hw.2 11 10 rfl rfl hin hdg (fun H1 locs1 h1 _ h3 => kk _ rfl H1 locs1 ⟨h1, h3⟩)
theorem lM_12 (E : EM p s m args meth c D a g cc nL own ret) (hw : WM D a g S s H locs) {i : Int32} (hin : vp_in i 8) (hdg : decode cc pc = .ok (.iaload, 1)) (kk : ∀ v : Int32, v = (S.1 12) i.toNatClampNeg → W p l e R s m args below meth c H locs cells slots Q (F0 m (pc + 1) ls (.int v :: rest))) : W p l e R s m args below meth c H locs cells slots Q (F0 m (pc) ls (.int i :: .ref (a 12) :: rest)) :=
  va_iald E.hx E.hb E.hK hw.1 12 11 rfl rfl hin hdg (kk _ rfl)
theorem sM_12 (E : EM p s m args meth c D a g cc nL own ret) (hw : WM D a g S s H locs) {i : Int32} {x : Int32} (hin : vp_in i 8) (hdg : decode cc pc = .ok (.iastore, 1)) (kk : ∀ (S1 : SM), S1 = stM S 12 i.toNatClampNeg x → ∀ (H1 : Heap) (locs1 : List Loc), WM D a g S1 s H1 locs1 → W p l e R s m args below meth c H1 locs1 cells slots Q (F0 m (pc + 1) ls (rest))) : W p l e R s m args below meth c H locs cells slots Q (F0 m (pc) ls (.int x :: .int i :: .ref (a 12) :: rest)) :=
  va_iast E.hx E.hb E.hK hw.1 (E.hD S) hw.2 12 11 rfl rfl hin hdg (fun H1 locs1 h1 _ h3 => kk _ rfl H1 locs1 ⟨h1, h3⟩)
theorem lM_13 (E : EM p s m args meth c D a g cc nL own ret) (hw : WM D a g S s H locs) {i : Int32} (hin : vp_in i 12) (hdg : decode cc pc = .ok (.iaload, 1)) (kk : ∀ v : Int32, v = (S.1 13) i.toNatClampNeg → W p l e R s m args below meth c H locs cells slots Q (F0 m (pc + 1) ls (.int v :: rest))) : W p l e R s m args below meth c H locs cells slots Q (F0 m (pc) ls (.int i :: .ref (a 13) :: rest)) :=
  va_iald E.hx E.hb E.hK hw.1 13 12 rfl rfl hin hdg (kk _ rfl)
theorem sM_13 (E : EM p s m args meth c D a g cc nL own ret) (hw : WM D a g S s H locs) {i : Int32} {x : Int32} (hin : vp_in i 12) (hdg : decode cc pc = .ok (.iastore, 1)) (kk : ∀ (S1 : SM), S1 = stM S 13 i.toNatClampNeg x → ∀ (H1 : Heap) (locs1 : List Loc), WM D a g S1 s H1 locs1 → W p l e R s m args below meth c H1 locs1 cells slots Q (F0 m (pc + 1) ls (rest))) : W p l e R s m args below meth c H locs cells slots Q (F0 m (pc) ls (.int x :: .int i :: .ref (a 13) :: rest)) :=
  va_iast E.hx E.hb E.hK hw.1 (E.hD S) hw.2 13 12 rfl rfl hin hdg (fun H1 locs1 h1 _ h3 => kk _ rfl H1 locs1 ⟨h1, h3⟩)
theorem lM_14 (E : EM p s m args meth c D a g cc nL own ret) (hw : WM D a g S s H locs) {i : Int32} (hin : vp_in i 12) (hdg : decode cc pc = .ok (.iaload, 1)) (kk : ∀ v : Int32, v = (S.1 14) i.toNatClampNeg → W p l e R s m args below meth c H locs cells slots Q (F0 m (pc + 1) ls (.int v :: rest))) : W p l e R s m args below meth c H locs cells slots Q (F0 m (pc) ls (.int i :: .ref (a 14) :: rest)) :=
  va_iald E.hx E.hb E.hK hw.1 14 13 rfl rfl hin hdg (kk _ rfl)
theorem sM_14 (E : EM p s m args meth c D a g cc nL own ret) (hw : WM D a g S s H locs) {i : Int32} {x : Int32} (hin : vp_in i 12) (hdg : decode cc pc = .ok (.iastore, 1)) (kk : ∀ (S1 : SM), S1 = stM S 14 i.toNatClampNeg x → ∀ (H1 : Heap) (locs1 : List Loc), WM D a g S1 s H1 locs1 → W p l e R s m args below meth c H1 locs1 cells slots Q (F0 m (pc + 1) ls (rest))) : W p l e R s m args below meth c H locs cells slots Q (F0 m (pc) ls (.int x :: .int i :: .ref (a 14) :: rest)) :=
  va_iast E.hx E.hb E.hK hw.1 (E.hD S) hw.2 14 13 rfl rfl hin hdg (fun H1 locs1 h1 _ h3 => kk _ rfl H1 locs1 ⟨h1, h3⟩)
theorem lM_15 (E : EM p s m args meth c D a g cc nL own ret) (hw : WM D a g S s H locs) {i : Int32} (hin : vp_in i 8) (hdg : decode cc pc = .ok (.iaload, 1)) (kk : ∀ v : Int32, v = (S.1 15) i.toNatClampNeg → W p l e R s m args below meth c H locs cells slots Q (F0 m (pc + 1) ls (.int v :: rest))) : W p l e R s m args below meth c H locs cells slots Q (F0 m (pc) ls (.int i :: .ref (a 15) :: rest)) :=
  va_iald E.hx E.hb E.hK hw.1 15 14 rfl rfl hin hdg (kk _ rfl)
theorem sM_15 (E : EM p s m args meth c D a g cc nL own ret) (hw : WM D a g S s H locs) {i : Int32} {x : Int32} (hin : vp_in i 8) (hdg : decode cc pc = .ok (.iastore, 1)) (kk : ∀ (S1 : SM), S1 = stM S 15 i.toNatClampNeg x → ∀ (H1 : Heap) (locs1 : List Loc), WM D a g S1 s H1 locs1 → W p l e R s m args below meth c H1 locs1 cells slots Q (F0 m (pc + 1) ls (rest))) : W p l e R s m args below meth c H locs cells slots Q (F0 m (pc) ls (.int x :: .int i :: .ref (a 15) :: rest)) :=
  va_iast E.hx E.hb E.hK hw.1 (E.hD S) hw.2 15 14 rfl rfl hin hdg (fun H1 locs1 h1 _ h3 => kk _ rfl H1 locs1 ⟨h1, h3⟩)
theorem lM_16 (E : EM p s m args meth c D a g cc nL own ret) (hw : WM D a g S s H locs) {i : Int32} (hin : vp_in i 8) (hdg : decode cc pc = .ok (.iaload, 1)) (kk : ∀ v : Int32, v = (S.1 16) i.toNatClampNeg → W p l e R s m args below meth c H locs cells slots Q (F0 m (pc + 1) ls (.int v :: rest))) : W p l e R s m args below meth c H locs cells slots Q (F0 m (pc) ls (.int i :: .ref (a 16) :: rest)) :=
  va_iald E.hx E.hb E.hK hw.1 16 15 rfl rfl hin hdg (kk _ rfl)
theorem sM_16 (E : EM p s m args meth c D a g cc nL own ret) (hw : WM D a g S s H locs) {i : Int32} {x : Int32} (hin : vp_in i 8) (hdg : decode cc pc = .ok (.iastore, 1)) (kk : ∀ (S1 : SM), S1 = stM S 16 i.toNatClampNeg x → ∀ (H1 : Heap) (locs1 : List Loc), WM D a g S1 s H1 locs1 → W p l e R s m args below meth c H1 locs1 cells slots Q (F0 m (pc + 1) ls (rest))) : W p l e R s m args below meth c H locs cells slots Q (F0 m (pc) ls (.int x :: .int i :: .ref (a 16) :: rest)) :=
  va_iast E.hx E.hb E.hK hw.1 (E.hD S) hw.2 16 15 rfl rfl hin hdg (fun H1 locs1 h1 _ h3 => kk _ rfl H1 locs1 ⟨h1, h3⟩)
theorem lM_17 (E : EM p s m args meth c D a g cc nL own ret) (hw : WM D a g S s H locs) {i : Int32} (hin : vp_in i 7) (hdg : decode cc pc = .ok (.iaload, 1)) (kk : ∀ v : Int32, v = (S.1 17) i.toNatClampNeg → W p l e R s m args below meth c H locs cells slots Q (F0 m (pc + 1) ls (.int v :: rest))) : W p l e R s m args below meth c H locs cells slots Q (F0 m (pc) ls (.int i :: .ref (a 17) :: rest)) :=
  va_iald E.hx E.hb E.hK hw.1 17 16 rfl rfl hin hdg (kk _ rfl)
theorem sM_17 (E : EM p s m args meth c D a g cc nL own ret) (hw : WM D a g S s H locs) {i : Int32} {x : Int32} (hin : vp_in i 7) (hdg : decode cc pc = .ok (.iastore, 1)) (kk : ∀ (S1 : SM), S1 = stM S 17 i.toNatClampNeg x → ∀ (H1 : Heap) (locs1 : List Loc), WM D a g S1 s H1 locs1 → W p l e R s m args below meth c H1 locs1 cells slots Q (F0 m (pc + 1) ls (rest))) : W p l e R s m args below meth c H locs cells slots Q (F0 m (pc) ls (.int x :: .int i :: .ref (a 17) :: rest)) :=
  va_iast E.hx E.hb E.hK hw.1 (E.hD S) hw.2 17 16 rfl rfl hin hdg (fun H1 locs1 h1 _ h3 => kk _ rfl H1 locs1 ⟨h1, h3⟩)
theorem lM_18 (E : EM p s m args meth c D a g cc nL own ret) (hw : WM D a g S s H locs) {i : Int32} (hin : vp_in i 7) (hdg : decode cc pc = .ok (.iaload, 1)) (kk : ∀ v : Int32, v = (S.1 18) i.toNatClampNeg → W p l e R s m args below meth c H locs cells slots Q (F0 m (pc + 1) ls (.int v :: rest))) : W p l e R s m args below meth c H locs cells slots Q (F0 m (pc) ls (.int i :: .ref (a 18) :: rest)) :=
  va_iald E.hx E.hb E.hK hw.1 18 17 rfl rfl hin hdg (kk _ rfl)
theorem sM_18 (E : EM p s m args meth c D a g cc nL own ret) (hw : WM D a g S s H locs) {i : Int32} {x : Int32} (hin : vp_in i 7) (hdg : decode cc pc = .ok (.iastore, 1)) (kk : ∀ (S1 : SM), S1 = stM S 18 i.toNatClampNeg x → ∀ (H1 : Heap) (locs1 : List Loc), WM D a g S1 s H1 locs1 → W p l e R s m args below meth c H1 locs1 cells slots Q (F0 m (pc + 1) ls (rest))) : W p l e R s m args below meth c H locs cells slots Q (F0 m (pc) ls (.int x :: .int i :: .ref (a 18) :: rest)) :=
  va_iast E.hx E.hb E.hK hw.1 (E.hD S) hw.2 18 17 rfl rfl hin hdg (fun H1 locs1 h1 _ h3 => kk _ rfl H1 locs1 ⟨h1, h3⟩)
theorem lM_19 (E : EM p s m args meth c D a g cc nL own ret) (hw : WM D a g S s H locs) {i : Int32} (hin : vp_in i 8) (hdg : decode cc pc = .ok (.iaload, 1)) (kk : ∀ v : Int32, v = (S.1 19) i.toNatClampNeg → W p l e R s m args below meth c H locs cells slots Q (F0 m (pc + 1) ls (.int v :: rest))) : W p l e R s m args below meth c H locs cells slots Q (F0 m (pc) ls (.int i :: .ref (a 19) :: rest)) :=
  va_iald E.hx E.hb E.hK hw.1 19 18 rfl rfl hin hdg (kk _ rfl)
theorem sM_19 (E : EM p s m args meth c D a g cc nL own ret) (hw : WM D a g S s H locs) {i : Int32} {x : Int32} (hin : vp_in i 8) (hdg : decode cc pc = .ok (.iastore, 1)) (kk : ∀ (S1 : SM), S1 = stM S 19 i.toNatClampNeg x → ∀ (H1 : Heap) (locs1 : List Loc), WM D a g S1 s H1 locs1 → W p l e R s m args below meth c H1 locs1 cells slots Q (F0 m (pc + 1) ls (rest))) : W p l e R s m args below meth c H locs cells slots Q (F0 m (pc) ls (.int x :: .int i :: .ref (a 19) :: rest)) :=
  va_iast E.hx E.hb E.hK hw.1 (E.hD S) hw.2 19 18 rfl rfl hin hdg (fun H1 locs1 h1 _ h3 => kk _ rfl H1 locs1 ⟨h1, h3⟩)
theorem lM_20 (E : EM p s m args meth c D a g cc nL own ret) (hw : WM D a g S s H locs) {i : Int32} (hin : vp_in i 256) (hdg : decode cc pc = .ok (.iaload, 1)) (kk : ∀ v : Int32, v = (S.1 20) i.toNatClampNeg → W p l e R s m args below meth c H locs cells slots Q (F0 m (pc + 1) ls (.int v :: rest))) : W p l e R s m args below meth c H locs cells slots Q (F0 m (pc) ls (.int i :: .ref (a 20) :: rest)) :=
  va_iald E.hx E.hb E.hK hw.1 20 19 rfl rfl hin hdg (kk _ rfl)
theorem sM_20 (E : EM p s m args meth c D a g cc nL own ret) (hw : WM D a g S s H locs) {i : Int32} {x : Int32} (hin : vp_in i 256) (hdg : decode cc pc = .ok (.iastore, 1)) (kk : ∀ (S1 : SM), S1 = stM S 20 i.toNatClampNeg x → ∀ (H1 : Heap) (locs1 : List Loc), WM D a g S1 s H1 locs1 → W p l e R s m args below meth c H1 locs1 cells slots Q (F0 m (pc + 1) ls (rest))) : W p l e R s m args below meth c H locs cells slots Q (F0 m (pc) ls (.int x :: .int i :: .ref (a 20) :: rest)) :=
  va_iast E.hx E.hb E.hK hw.1 (E.hD S) hw.2 20 19 rfl rfl hin hdg (fun H1 locs1 h1 _ h3 => kk _ rfl H1 locs1 ⟨h1, h3⟩)
theorem lM_21 (E : EM p s m args meth c D a g cc nL own ret) (hw : WM D a g S s H locs) {i : Int32} (hin : vp_in i 144) (hdg : decode cc pc = .ok (.iaload, 1)) (kk : ∀ v : Int32, v = (S.1 21) i.toNatClampNeg → W p l e R s m args below meth c H locs cells slots Q (F0 m (pc + 1) ls (.int v :: rest))) : W p l e R s m args below meth c H locs cells slots Q (F0 m (pc) ls (.int i :: .ref (a 21) :: rest)) :=
  va_iald E.hx E.hb E.hK hw.1 21 20 rfl rfl hin hdg (kk _ rfl)
theorem sM_21 (E : EM p s m args meth c D a g cc nL own ret) (hw : WM D a g S s H locs) {i : Int32} {x : Int32} (hin : vp_in i 144) (hdg : decode cc pc = .ok (.iastore, 1)) (kk : ∀ (S1 : SM), S1 = stM S 21 i.toNatClampNeg x → ∀ (H1 : Heap) (locs1 : List Loc), WM D a g S1 s H1 locs1 → W p l e R s m args below meth c H1 locs1 cells slots Q (F0 m (pc + 1) ls (rest))) : W p l e R s m args below meth c H locs cells slots Q (F0 m (pc) ls (.int x :: .int i :: .ref (a 21) :: rest)) :=
  va_iast E.hx E.hb E.hK hw.1 (E.hD S) hw.2 21 20 rfl rfl hin hdg (fun H1 locs1 h1 _ h3 => kk _ rfl H1 locs1 ⟨h1, h3⟩)
theorem lM_22 (E : EM p s m args meth c D a g cc nL own ret) (hw : WM D a g S s H locs) {i : Int32} (hin : vp_in i 24) (hdg : decode cc pc = .ok (.iaload, 1)) (kk : ∀ v : Int32, v = (S.1 22) i.toNatClampNeg → W p l e R s m args below meth c H locs cells slots Q (F0 m (pc + 1) ls (.int v :: rest))) : W p l e R s m args below meth c H locs cells slots Q (F0 m (pc) ls (.int i :: .ref (a 22) :: rest)) :=
  va_iald E.hx E.hb E.hK hw.1 22 21 rfl rfl hin hdg (kk _ rfl)
theorem sM_22 (E : EM p s m args meth c D a g cc nL own ret) (hw : WM D a g S s H locs) {i : Int32} {x : Int32} (hin : vp_in i 24) (hdg : decode cc pc = .ok (.iastore, 1)) (kk : ∀ (S1 : SM), S1 = stM S 22 i.toNatClampNeg x → ∀ (H1 : Heap) (locs1 : List Loc), WM D a g S1 s H1 locs1 → W p l e R s m args below meth c H1 locs1 cells slots Q (F0 m (pc + 1) ls (rest))) : W p l e R s m args below meth c H locs cells slots Q (F0 m (pc) ls (.int x :: .int i :: .ref (a 22) :: rest)) :=
  va_iast E.hx E.hb E.hK hw.1 (E.hD S) hw.2 22 21 rfl rfl hin hdg (fun H1 locs1 h1 _ h3 => kk _ rfl H1 locs1 ⟨h1, h3⟩)
theorem lM_23 (E : EM p s m args meth c D a g cc nL own ret) (hw : WM D a g S s H locs) {i : Int32} (hin : vp_in i 24) (hdg : decode cc pc = .ok (.iaload, 1)) (kk : ∀ v : Int32, v = (S.1 23) i.toNatClampNeg → W p l e R s m args below meth c H locs cells slots Q (F0 m (pc + 1) ls (.int v :: rest))) : W p l e R s m args below meth c H locs cells slots Q (F0 m (pc) ls (.int i :: .ref (a 23) :: rest)) :=
  va_iald E.hx E.hb E.hK hw.1 23 22 rfl rfl hin hdg (kk _ rfl)
theorem sM_23 (E : EM p s m args meth c D a g cc nL own ret) (hw : WM D a g S s H locs) {i : Int32} {x : Int32} (hin : vp_in i 24) (hdg : decode cc pc = .ok (.iastore, 1)) (kk : ∀ (S1 : SM), S1 = stM S 23 i.toNatClampNeg x → ∀ (H1 : Heap) (locs1 : List Loc), WM D a g S1 s H1 locs1 → W p l e R s m args below meth c H1 locs1 cells slots Q (F0 m (pc + 1) ls (rest))) : W p l e R s m args below meth c H locs cells slots Q (F0 m (pc) ls (.int x :: .int i :: .ref (a 23) :: rest)) :=
  va_iast E.hx E.hb E.hK hw.1 (E.hD S) hw.2 23 22 rfl rfl hin hdg (fun H1 locs1 h1 _ h3 => kk _ rfl H1 locs1 ⟨h1, h3⟩)
theorem lM_24 (E : EM p s m args meth c D a g cc nL own ret) (hw : WM D a g S s H locs) {i : Int32} (hin : vp_in i 8) (hdg : decode cc pc = .ok (.laload, 1)) (kk : ∀ v : Int64, v = S.2 i.toNatClampNeg → W p l e R s m args below meth c H locs cells slots Q (F0 m (pc + 1) ls (.long v :: rest))) : W p l e R s m args below meth c H locs cells slots Q (F0 m (pc) ls (.int i :: .ref (a 24) :: rest)) :=
  va_lald E.hx E.hb E.hK hw.1 24 23 rfl rfl hin hdg (kk _ rfl)
theorem sM_24 (E : EM p s m args meth c D a g cc nL own ret) (hw : WM D a g S s H locs) {i : Int32} {x : Int64} (hin : vp_in i 8) (hdg : decode cc pc = .ok (.lastore, 1)) (kk : ∀ (S1 : SM), S1 = stL S i.toNatClampNeg x → ∀ (H1 : Heap) (locs1 : List Loc), WM D a g S1 s H1 locs1 → W p l e R s m args below meth c H1 locs1 cells slots Q (F0 m (pc + 1) ls (rest))) : W p l e R s m args below meth c H locs cells slots Q (F0 m (pc) ls (.long x :: .int i :: .ref (a 24) :: rest)) :=
  va_last E.hx E.hb E.hK hw.1 (E.hD S) hw.2 24 23 rfl rfl hin hdg (fun H1 locs1 h1 _ h3 => kk _ rfl H1 locs1 ⟨h1, h3⟩)
theorem retM_i (E : EM p s m args meth c D a g cc nL own (some .int)) (hw : WM D a g S s H locs) {v : Int32} (hdg : decode cc pc = .ok (.ireturn, 1)) : W p l e R s m args below meth c H locs cells slots (MQ below (QM D a g (some (.int v)) S) args s cells slots (AM a)) (F0 m pc ls [.int v]) :=
  W.iret E.hx E.hb E.hr (fun t ht _ => ⟨rfl, by rw [ht]; exact hw.1, hw.2.F ht⟩) hw.2.2.2 hdg E.hlk
theorem retM_z (E : EM p s m args meth c D a g cc nL own (some .boolean)) (hw : WM D a g S s H locs) {v : Int32} (hn : narrow .boolean (.int v) = .int v) (hdg : decode cc pc = .ok (.ireturn, 1)) : W p l e R s m args below meth c H locs cells slots (MQ below (QM D a g (some (.int v)) S) args s cells slots (AM a)) (F0 m pc ls [.int v]) :=
  W.zret E.hx E.hb E.hr hn (fun t ht _ => ⟨rfl, by rw [ht]; exact hw.1, hw.2.F ht⟩) hw.2.2.2 hdg E.hlk
theorem retM_l (E : EM p s m args meth c D a g cc nL own (some .long)) (hw : WM D a g S s H locs) {v : Int64} (hdg : decode cc pc = .ok (.lreturn, 1)) : W p l e R s m args below meth c H locs cells slots (MQ below (QM D a g (some (.long v)) S) args s cells slots (AM a)) (F0 m pc ls [.long v]) :=
  W.lret E.hx E.hb E.hr (fun t ht _ => ⟨rfl, by rw [ht]; exact hw.1, hw.2.F ht⟩) hw.2.2.2 hdg E.hlk
theorem retM_v (E : EM p s m args meth c D a g cc nL own none) (hw : WM D a g S s H locs) (hdg : decode cc pc = .ok (.return_, 1)) : W p l e R s m args below meth c H locs cells slots (MQ below (QM D a g none S) args s cells slots (AM a)) (F0 m pc ls []) :=
  W.vret E.hx E.hb E.hr (fun t ht _ => ⟨rfl, by rw [ht]; exact hw.1, hw.2.F ht⟩) hw.2.2.2 hdg E.hlk
theorem callM_i {st0 : List Value} {av : Array Value} {S1 : SM} {r : Int32} (hw : WM D a g S s H locs) (hr : va_Run p l e R s m args below meth c H locs cells slots 0 0 (F0 m pc ls st0) rest (QM D a g (some (.int r)) S1 av) (AM a)) (kk : ∀ (H1 : Heap) (locs1 : List Loc), WM D a g S1 s H1 locs1 → W p l e R s m args below meth c H1 locs1 cells slots Q (F0 m (pc + 3) ls (.int r :: rest))) : W p l e R s m args below meth c H locs cells slots Q (F0 m pc ls st0) := by
  intro T hT X
  obtain ⟨v, st₀, t, T', L, h0, X', hL, e1, -, ⟨hv, hp, hz, hk⟩, sg⟩ := hr T hT X
  have hv := Outcome.returned.inj hv
  subst hv
  rw [h0] at hz hk
  obtain ⟨t2, a1, b1⟩ := kk T'.heap (locs ++ L) ⟨by rw [e1]; exact hp, Nat.le_trans hw.2.1 (by rw [e1]; exact hz), fun q h1 h2 => by rw [e1, hk q (Nat.lt_of_lt_of_le h1 hw.2.1) h2]; exact hw.2.2.1 q h1 h2, fun q hq => by
    rcases List.mem_append.mp hq with h | h
    · exact hw.2.2.2 q h
    · exact hL q h⟩ T' rfl X'
  exact ⟨t2, sg t2 a1, b1⟩
theorem callM_l {st0 : List Value} {av : Array Value} {S1 : SM} {r : Int64} (hw : WM D a g S s H locs) (hr : va_Run p l e R s m args below meth c H locs cells slots 0 0 (F0 m pc ls st0) rest (QM D a g (some (.long r)) S1 av) (AM a)) (kk : ∀ (H1 : Heap) (locs1 : List Loc), WM D a g S1 s H1 locs1 → W p l e R s m args below meth c H1 locs1 cells slots Q (F0 m (pc + 3) ls (.long r :: rest))) : W p l e R s m args below meth c H locs cells slots Q (F0 m pc ls st0) := by
  intro T hT X
  obtain ⟨v, st₀, t, T', L, h0, X', hL, e1, -, ⟨hv, hp, hz, hk⟩, sg⟩ := hr T hT X
  have hv := Outcome.returned.inj hv
  subst hv
  rw [h0] at hz hk
  obtain ⟨t2, a1, b1⟩ := kk T'.heap (locs ++ L) ⟨by rw [e1]; exact hp, Nat.le_trans hw.2.1 (by rw [e1]; exact hz), fun q h1 h2 => by rw [e1, hk q (Nat.lt_of_lt_of_le h1 hw.2.1) h2]; exact hw.2.2.1 q h1 h2, fun q hq => by
    rcases List.mem_append.mp hq with h | h
    · exact hw.2.2.2 q h
    · exact hL q h⟩ T' rfl X'
  exact ⟨t2, sg t2 a1, b1⟩
theorem callM_v {st0 : List Value} {av : Array Value} {S1 : SM}  (hw : WM D a g S s H locs) (hr : va_Run p l e R s m args below meth c H locs cells slots 0 0 (F0 m pc ls st0) rest (QM D a g (none) S1 av) (AM a)) (kk : ∀ (H1 : Heap) (locs1 : List Loc), WM D a g S1 s H1 locs1 → W p l e R s m args below meth c H1 locs1 cells slots Q (F0 m (pc + 3) ls (rest))) : W p l e R s m args below meth c H locs cells slots Q (F0 m pc ls st0) := by
  intro T hT X
  obtain ⟨v, st₀, t, T', L, h0, X', hL, e1, -, ⟨hv, hp, hz, hk⟩, sg⟩ := hr T hT X
  have hv := Outcome.returned.inj hv
  subst hv
  rw [h0] at hz hk
  obtain ⟨t2, a1, b1⟩ := kk T'.heap (locs ++ L) ⟨by rw [e1]; exact hp, Nat.le_trans hw.2.1 (by rw [e1]; exact hz), fun q h1 h2 => by rw [e1, hk q (Nat.lt_of_lt_of_le h1 hw.2.1) h2]; exact hw.2.2.1 q h1 h2, fun q hq => by
    rcases List.mem_append.mp hq with h | h
    · exact hw.2.2.2 q h
    · exact hL q h⟩ T' rfl X'
  exact ⟨t2, sg t2 a1, b1⟩
end MROWS
end
section
/-! constants -/
theorem bp_7 : (Int8.ofInt (7)).toInt32 = (7 : Int32) := by decide
theorem bp_8 : (Int8.ofInt (8)).toInt32 = (8 : Int32) := by decide
theorem bp_9 : (Int8.ofInt (9)).toInt32 = (9 : Int32) := by decide
theorem bp_10 : (Int8.ofInt (10)).toInt32 = (10 : Int32) := by decide
theorem bp_11 : (Int8.ofInt (11)).toInt32 = (11 : Int32) := by decide
theorem bp_12 : (Int8.ofInt (12)).toInt32 = (12 : Int32) := by decide
theorem bp_13 : (Int8.ofInt (13)).toInt32 = (13 : Int32) := by decide
theorem bp_16 : (Int8.ofInt (16)).toInt32 = (16 : Int32) := by decide
theorem bp_24 : (Int8.ofInt (24)).toInt32 = (24 : Int32) := by decide
theorem bp_30 : (Int8.ofInt (30)).toInt32 = (30 : Int32) := by decide
theorem bp_63 : (Int8.ofInt (63)).toInt32 = (63 : Int32) := by decide
theorem bp_99 : (Int8.ofInt (99)).toInt32 = (99 : Int32) := by decide
theorem bp_100 : (Int8.ofInt (100)).toInt32 = (100 : Int32) := by decide
theorem bp_108 : (Int8.ofInt (108)).toInt32 = (108 : Int32) := by decide
theorem ic_m1 : Int32.ofInt (-1) = (-1 : Int32) := by decide
theorem ic_0 : Int32.ofInt (0) = (0 : Int32) := by decide
theorem ic_1 : Int32.ofInt (1) = (1 : Int32) := by decide
theorem ic_2 : Int32.ofInt (2) = (2 : Int32) := by decide
theorem ic_3 : Int32.ofInt (3) = (3 : Int32) := by decide
theorem ic_4 : Int32.ofInt (4) = (4 : Int32) := by decide
theorem ic_5 : Int32.ofInt (5) = (5 : Int32) := by decide
theorem sp_144 : (Int16.ofInt (144)).toInt32 = (144 : Int32) := by decide
theorem sp_200 : (Int16.ofInt (200)).toInt32 = (200 : Int32) := by decide
theorem sp_256 : (Int16.ofInt (256)).toInt32 = (256 : Int32) := by decide
theorem sp_999 : (Int16.ofInt (999)).toInt32 = (999 : Int32) := by decide
theorem sp_1000 : (Int16.ofInt (1000)).toInt32 = (1000 : Int32) := by decide
theorem sp_10000 : (Int16.ofInt (10000)).toInt32 = (10000 : Int32) := by decide
theorem sw_out5 {x : Int32} (h0 : ¬ x = 0) (h1 : ¬ x = 1) (h2 : ¬ x = 2) (h3 : ¬ x = 3) (h4 : ¬ x = 4) (h5 : ¬ x = 5) : x.toInt < 0 ∨ 5 < x.toInt := by
  have e : ∀ k : Int32, ¬ x = k → ¬ x.toInt = k.toInt := fun k h q => h (Int32.toInt_inj.mp q)
  have e0 := e 0 h0
  have e1 := e 1 h1
  have e2 := e 2 h2
  have e3 := e 3 h3
  have e4 := e 4 h4
  have e5 := e 5 h5
  rw [show (0 : Int32).toInt = 0 from by decide] at e0
  rw [show (1 : Int32).toInt = 1 from by decide] at e1
  rw [show (2 : Int32).toInt = 2 from by decide] at e2
  rw [show (3 : Int32).toInt = 3 from by decide] at e3
  rw [show (4 : Int32).toInt = 4 from by decide] at e4
  rw [show (5 : Int32).toInt = 5 from by decide] at e5
  omega
end
section
/-! X7_isJunction -/
def k7_isJunction (F : Nat) (S : SS) (x0 : Int32) : Option Int32 :=
  if x0 < 0 then (some ((0 : Int32))) else (if ((12 : Int32)) ≤ x0 then (some ((0 : Int32))) else (some ((1 : Int32))))
set_option maxRecDepth 100000 in
set_option maxHeartbeats 4000000 in
theorem mk7_isJunction {l : Launch} {D : va_G} {a : Nat → Nat} {g : Nat → ClassId} (hD : ∀ S, va_D (AK a) (wK a g S)) {F : Nat} {S : SS} {x0 : Int32} {out : Int32} (hf : k7_isJunction F S x0 = some out) : Met l yX7_isJunction (wsm yX7_isJunction cX7_isJunction 1 (some .boolean)) (RM 1) (PK D a g S [.int x0]) (QK D a g (some (.int out)) S) 0 0 (AK a) := by
  refine Met.ofW (cc := cX7_isJunction) (maxL := 1) (ret := (some .boolean)) (by decide) rfl ?_
  intro p e s m args below meth c s₁ B hml hv
  obtain ⟨rfl, hP, hK, hN⟩ := hv
  have hts := atoms_spec (ws := wsm yX7_isJunction cX7_isJunction 1 (some .boolean)) B.pre
  have E : EK p s m _ meth c D a g cX7_isJunction 1 RX7 (some .boolean) := ⟨B.exec, B.bytes, B.returns, hml, findClass_of_methodNamed B.named, fun w h => hts w (List.mem_cons_of_mem _ h), hK, hN, hD, B.notSynchronized⟩
  have hx := E.hx
  have hb := E.hb
  have hw : WK D a g S s s.heap [] := ⟨hP, va_S.rf⟩
  have hl := lv_entry ([.int x0]) (n := 1) (Nat.le_of_ble_eq_true rfl)
  rw [lg_entry_eq]
  generalize (lg_sl ([.int x0]) ++ List.replicate (1 - (lg_sl ([.int x0])).length) Slot.unset).toArray = ls at hl ⊢
  have hl : lv_has ls 1 [(0, .int (x0))] := hl
  show W p l e (RM 1) s m _ below meth c s.heap [] 0 0 (MQ below (QK D a g (some (.int out)) S) _ s 0 0 (AK a)) (F0 m 0 ls [])
  unfold k7_isJunction at hf
  refine lv_iload_n hx hb dX7_isJunction_0 rfl (lv_at hl 0 rfl) ?_
  refine lv_if_lt (tgt := 14) hx hb dX7_isJunction_1 (by decide) (fun c_1 => ?_) (fun c_1 => ?_)
  · replace hf := ite_t hf c_1
    refine lv_iconst hx hb dX7_isJunction_14 ic_0 ?_
    cases hf
    exact retK_z E hw nb0 dX7_isJunction_15
  · replace hf := ite_f hf c_1
    refine lv_iload_n hx hb dX7_isJunction_4 rfl (lv_at hl 0 rfl) ?_
    refine lv_bipush hx hb dX7_isJunction_5 bp_12 ?_
    refine lv_icmp_ge (tgt := 14) hx hb dX7_isJunction_7 (by decide) (fun c_2 => ?_) (fun c_2 => ?_)
    · replace hf := ite_t hf c_2
      refine lv_iconst hx hb dX7_isJunction_14 ic_0 ?_
      cases hf
      exact retK_z E hw nb0 dX7_isJunction_15
    · replace hf := ite_f hf c_2
      refine lv_iconst hx hb dX7_isJunction_10 ic_1 ?_
      refine lv_goto (tgt := 15) hx hb dX7_isJunction_11 (by decide) ?_
      cases hf
      exact retK_z E hw nb1 dX7_isJunction_15
theorem qnk7_isJunction {p : Program} {l : Launch} {e : Env} {R : Room} {s : State} {m : MethodId} {args : Array Value} {below : List Frame} {meth : Method} {c : Code} {H : Heap} {locs : List Loc} {cells slots : Nat} {Q : State → Prop} {cc : ByteArray} {pc : Nat} {ls : Array Slot} {rest : List Value} {D : va_G} {a : Nat → Nat} {g : Nat → ClassId} {nL : Nat} {own : String} {ret : Option FieldType} {S S1 : SS} {k : Nat} {x0 : Int32} {r : Int32} (E : EK p s m args meth c D a g cc nL own ret) (hw : WK D a g S s H locs) (hM : Met l yX7_isJunction (wsm yX7_isJunction cX7_isJunction 1 (some .boolean)) (RM k) (PK D a g S [.int x0]) (QK D a g (some (.int r)) S1) 0 0 (AK a)) {idx : Nat} {host : String} (hlk : Cond.methodLinkNest own idx yX7_isJunction host ∈ nestW) (hdg : decode cc pc = .ok (.invokestatic idx, 3)) (hR : k + 1 ≤ R.frames ∧ 8 + (1 + 11) + 64 * k ≤ R.locals) (hls : ls.size = nL) (hrest : (rest.map fun v => v.category).sum ≤ 8) (hcs : cells ≤ R.cells ∧ slots ≤ R.slots) (kk : ∀ (H1 : Heap) (locs1 : List Loc), WK D a g S1 s H1 locs1 → W p l e R s m args below meth c H1 locs1 cells slots Q (F0 m (pc + 3) ls (.int r :: rest))) : W p l e R s m args below meth c H locs cells slots Q (F0 m pc ls (.int x0 :: rest)) :=
  callK_i hw (va_runSN (As := [.int x0]) (rest := rest) ⟨E.hx, E.hb, E.hml, E.hown, E.hts⟩ hM ⟨cn_of 1 E.hts wl313 wl35 (E.hN.at hlk) (by decide +kernel) hR, E.hts _ wl312, trivial⟩ ⟨PK_blind, PK_pre E.hK E.hN hw.1⟩ rfl rfl hls rfl (lv_room hrest) hdg hcs) kk
/-! X7_isCompany -/
def k7_isCompany (F : Nat) (S : SS) (x0 : Int32) : Option Int32 :=
  if x0 < 0 then (some ((0 : Int32))) else (if ((8 : Int32)) ≤ x0 then (some ((0 : Int32))) else (some ((1 : Int32))))
set_option maxRecDepth 100000 in
set_option maxHeartbeats 4000000 in
theorem mk7_isCompany {l : Launch} {D : va_G} {a : Nat → Nat} {g : Nat → ClassId} (hD : ∀ S, va_D (AK a) (wK a g S)) {F : Nat} {S : SS} {x0 : Int32} {out : Int32} (hf : k7_isCompany F S x0 = some out) : Met l yX7_isCompany (wsm yX7_isCompany cX7_isCompany 1 (some .boolean)) (RM 1) (PK D a g S [.int x0]) (QK D a g (some (.int out)) S) 0 0 (AK a) := by
  refine Met.ofW (cc := cX7_isCompany) (maxL := 1) (ret := (some .boolean)) (by decide) rfl ?_
  intro p e s m args below meth c s₁ B hml hv
  obtain ⟨rfl, hP, hK, hN⟩ := hv
  have hts := atoms_spec (ws := wsm yX7_isCompany cX7_isCompany 1 (some .boolean)) B.pre
  have E : EK p s m _ meth c D a g cX7_isCompany 1 RX7 (some .boolean) := ⟨B.exec, B.bytes, B.returns, hml, findClass_of_methodNamed B.named, fun w h => hts w (List.mem_cons_of_mem _ h), hK, hN, hD, B.notSynchronized⟩
  have hx := E.hx
  have hb := E.hb
  have hw : WK D a g S s s.heap [] := ⟨hP, va_S.rf⟩
  have hl := lv_entry ([.int x0]) (n := 1) (Nat.le_of_ble_eq_true rfl)
  rw [lg_entry_eq]
  generalize (lg_sl ([.int x0]) ++ List.replicate (1 - (lg_sl ([.int x0])).length) Slot.unset).toArray = ls at hl ⊢
  have hl : lv_has ls 1 [(0, .int (x0))] := hl
  show W p l e (RM 1) s m _ below meth c s.heap [] 0 0 (MQ below (QK D a g (some (.int out)) S) _ s 0 0 (AK a)) (F0 m 0 ls [])
  unfold k7_isCompany at hf
  refine lv_iload_n hx hb dX7_isCompany_0 rfl (lv_at hl 0 rfl) ?_
  refine lv_if_lt (tgt := 14) hx hb dX7_isCompany_1 (by decide) (fun c_1 => ?_) (fun c_1 => ?_)
  · replace hf := ite_t hf c_1
    refine lv_iconst hx hb dX7_isCompany_14 ic_0 ?_
    cases hf
    exact retK_z E hw nb0 dX7_isCompany_15
  · replace hf := ite_f hf c_1
    refine lv_iload_n hx hb dX7_isCompany_4 rfl (lv_at hl 0 rfl) ?_
    refine lv_bipush hx hb dX7_isCompany_5 bp_8 ?_
    refine lv_icmp_ge (tgt := 14) hx hb dX7_isCompany_7 (by decide) (fun c_2 => ?_) (fun c_2 => ?_)
    · replace hf := ite_t hf c_2
      refine lv_iconst hx hb dX7_isCompany_14 ic_0 ?_
      cases hf
      exact retK_z E hw nb0 dX7_isCompany_15
    · replace hf := ite_f hf c_2
      refine lv_iconst hx hb dX7_isCompany_10 ic_1 ?_
      refine lv_goto (tgt := 15) hx hb dX7_isCompany_11 (by decide) ?_
      cases hf
      exact retK_z E hw nb1 dX7_isCompany_15
theorem qk7_isCompany {p : Program} {l : Launch} {e : Env} {R : Room} {s : State} {m : MethodId} {args : Array Value} {below : List Frame} {meth : Method} {c : Code} {H : Heap} {locs : List Loc} {cells slots : Nat} {Q : State → Prop} {cc : ByteArray} {pc : Nat} {ls : Array Slot} {rest : List Value} {D : va_G} {a : Nat → Nat} {g : Nat → ClassId} {nL : Nat} {own : String} {ret : Option FieldType} {S S1 : SS} {k : Nat} {x0 : Int32} {r : Int32} (E : EK p s m args meth c D a g cc nL own ret) (hw : WK D a g S s H locs) (hM : Met l yX7_isCompany (wsm yX7_isCompany cX7_isCompany 1 (some .boolean)) (RM k) (PK D a g S [.int x0]) (QK D a g (some (.int r)) S1) 0 0 (AK a)) {idx : Nat} (hlk : Cond.methodLink own idx yX7_isCompany ∈ wd) (hdg : decode cc pc = .ok (.invokestatic idx, 3)) (hR : k + 1 ≤ R.frames ∧ 8 + (1 + 11) + 64 * k ≤ R.locals) (hls : ls.size = nL) (hrest : (rest.map fun v => v.category).sum ≤ 8) (hcs : cells ≤ R.cells ∧ slots ≤ R.slots) (kk : ∀ (H1 : Heap) (locs1 : List Loc), WK D a g S1 s H1 locs1 → W p l e R s m args below meth c H1 locs1 cells slots Q (F0 m (pc + 3) ls (.int r :: rest))) : W p l e R s m args below meth c H locs cells slots Q (F0 m pc ls (.int x0 :: rest)) :=
  callK_i hw (va_runS (As := [.int x0]) (rest := rest) ⟨E.hx, E.hb, E.hml, E.hown, E.hts⟩ hM ⟨cb_of 1 E.hts wl316 wl35 hlk (by decide +kernel) hR, E.hts _ wl315⟩ ⟨PK_blind, PK_pre E.hK E.hN hw.1⟩ rfl rfl hls rfl (lv_room hrest) hdg hcs) kk
theorem qnk7_isCompany {p : Program} {l : Launch} {e : Env} {R : Room} {s : State} {m : MethodId} {args : Array Value} {below : List Frame} {meth : Method} {c : Code} {H : Heap} {locs : List Loc} {cells slots : Nat} {Q : State → Prop} {cc : ByteArray} {pc : Nat} {ls : Array Slot} {rest : List Value} {D : va_G} {a : Nat → Nat} {g : Nat → ClassId} {nL : Nat} {own : String} {ret : Option FieldType} {S S1 : SS} {k : Nat} {x0 : Int32} {r : Int32} (E : EK p s m args meth c D a g cc nL own ret) (hw : WK D a g S s H locs) (hM : Met l yX7_isCompany (wsm yX7_isCompany cX7_isCompany 1 (some .boolean)) (RM k) (PK D a g S [.int x0]) (QK D a g (some (.int r)) S1) 0 0 (AK a)) {idx : Nat} {host : String} (hlk : Cond.methodLinkNest own idx yX7_isCompany host ∈ nestW) (hdg : decode cc pc = .ok (.invokestatic idx, 3)) (hR : k + 1 ≤ R.frames ∧ 8 + (1 + 11) + 64 * k ≤ R.locals) (hls : ls.size = nL) (hrest : (rest.map fun v => v.category).sum ≤ 8) (hcs : cells ≤ R.cells ∧ slots ≤ R.slots) (kk : ∀ (H1 : Heap) (locs1 : List Loc), WK D a g S1 s H1 locs1 → W p l e R s m args below meth c H1 locs1 cells slots Q (F0 m (pc + 3) ls (.int r :: rest))) : W p l e R s m args below meth c H locs cells slots Q (F0 m pc ls (.int x0 :: rest)) :=
  callK_i hw (va_runSN (As := [.int x0]) (rest := rest) ⟨E.hx, E.hb, E.hml, E.hown, E.hts⟩ hM ⟨cn_of 1 E.hts wl316 wl35 (E.hN.at hlk) (by decide +kernel) hR, E.hts _ wl315, trivial⟩ ⟨PK_blind, PK_pre E.hK E.hN hw.1⟩ rfl rfl hls rfl (lv_room hrest) hdg hcs) kk
/-! X7_isWithin -/
def k7_isWithin (F : Nat) (S : SS) (x0 : Int32) (x1 : Int32) (x2 : Int32) : Option Int32 :=
  if x0 < x1 then (some ((0 : Int32))) else (if x2 < x0 then (some ((0 : Int32))) else (some ((1 : Int32))))
set_option maxRecDepth 100000 in
set_option maxHeartbeats 4000000 in
theorem mk7_isWithin {l : Launch} {D : va_G} {a : Nat → Nat} {g : Nat → ClassId} (hD : ∀ S, va_D (AK a) (wK a g S)) {F : Nat} {S : SS} {x0 x1 x2 : Int32} {out : Int32} (hf : k7_isWithin F S x0 x1 x2 = some out) : Met l yX7_isWithin (wsm yX7_isWithin cX7_isWithin 3 (some .boolean)) (RM 1) (PK D a g S [.int x0, .int x1, .int x2]) (QK D a g (some (.int out)) S) 0 0 (AK a) := by
  refine Met.ofW (cc := cX7_isWithin) (maxL := 3) (ret := (some .boolean)) (by decide) rfl ?_
  intro p e s m args below meth c s₁ B hml hv
  obtain ⟨rfl, hP, hK, hN⟩ := hv
  have hts := atoms_spec (ws := wsm yX7_isWithin cX7_isWithin 3 (some .boolean)) B.pre
  have E : EK p s m _ meth c D a g cX7_isWithin 3 RX7 (some .boolean) := ⟨B.exec, B.bytes, B.returns, hml, findClass_of_methodNamed B.named, fun w h => hts w (List.mem_cons_of_mem _ h), hK, hN, hD, B.notSynchronized⟩
  have hx := E.hx
  have hb := E.hb
  have hw : WK D a g S s s.heap [] := ⟨hP, va_S.rf⟩
  have hl := lv_entry ([.int x0, .int x1, .int x2]) (n := 3) (Nat.le_of_ble_eq_true rfl)
  rw [lg_entry_eq]
  generalize (lg_sl ([.int x0, .int x1, .int x2]) ++ List.replicate (3 - (lg_sl ([.int x0, .int x1, .int x2])).length) Slot.unset).toArray = ls at hl ⊢
  have hl : lv_has ls 3 [(0, .int (x0)), (1, .int (x1)), (2, .int (x2))] := hl
  show W p l e (RM 1) s m _ below meth c s.heap [] 0 0 (MQ below (QK D a g (some (.int out)) S) _ s 0 0 (AK a)) (F0 m 0 ls [])
  unfold k7_isWithin at hf
  refine lv_iload_n hx hb dX7_isWithin_0 rfl (lv_at hl 0 rfl) ?_
  refine lv_iload_n hx hb dX7_isWithin_1 rfl (lv_at hl 1 rfl) ?_
  refine lv_icmp_lt (tgt := 14) hx hb dX7_isWithin_2 (by decide) (fun c_1 => ?_) (fun c_1 => ?_)
  · replace hf := ite_t hf c_1
    refine lv_iconst hx hb dX7_isWithin_14 ic_0 ?_
    cases hf
    exact retK_z E hw nb0 dX7_isWithin_15
  · replace hf := ite_f hf c_1
    refine lv_iload_n hx hb dX7_isWithin_5 rfl (lv_at hl 0 rfl) ?_
    refine lv_iload_n hx hb dX7_isWithin_6 rfl (lv_at hl 2 rfl) ?_
    refine lv_icmp_gt (tgt := 14) hx hb dX7_isWithin_7 (by decide) (fun c_2 => ?_) (fun c_2 => ?_)
    · replace hf := ite_t hf c_2
      refine lv_iconst hx hb dX7_isWithin_14 ic_0 ?_
      cases hf
      exact retK_z E hw nb0 dX7_isWithin_15
    · replace hf := ite_f hf c_2
      refine lv_iconst hx hb dX7_isWithin_10 ic_1 ?_
      refine lv_goto (tgt := 15) hx hb dX7_isWithin_11 (by decide) ?_
      cases hf
      exact retK_z E hw nb1 dX7_isWithin_15
theorem qk7_isWithin {p : Program} {l : Launch} {e : Env} {R : Room} {s : State} {m : MethodId} {args : Array Value} {below : List Frame} {meth : Method} {c : Code} {H : Heap} {locs : List Loc} {cells slots : Nat} {Q : State → Prop} {cc : ByteArray} {pc : Nat} {ls : Array Slot} {rest : List Value} {D : va_G} {a : Nat → Nat} {g : Nat → ClassId} {nL : Nat} {own : String} {ret : Option FieldType} {S S1 : SS} {k : Nat} {x0 x1 x2 : Int32} {r : Int32} (E : EK p s m args meth c D a g cc nL own ret) (hw : WK D a g S s H locs) (hM : Met l yX7_isWithin (wsm yX7_isWithin cX7_isWithin 3 (some .boolean)) (RM k) (PK D a g S [.int x0, .int x1, .int x2]) (QK D a g (some (.int r)) S1) 0 0 (AK a)) {idx : Nat} (hlk : Cond.methodLink own idx yX7_isWithin ∈ wd) (hdg : decode cc pc = .ok (.invokestatic idx, 3)) (hR : k + 1 ≤ R.frames ∧ 8 + (3 + 11) + 64 * k ≤ R.locals) (hls : ls.size = nL) (hrest : (rest.map fun v => v.category).sum ≤ 8) (hcs : cells ≤ R.cells ∧ slots ≤ R.slots) (kk : ∀ (H1 : Heap) (locs1 : List Loc), WK D a g S1 s H1 locs1 → W p l e R s m args below meth c H1 locs1 cells slots Q (F0 m (pc + 3) ls (.int r :: rest))) : W p l e R s m args below meth c H locs cells slots Q (F0 m pc ls (.int x2 :: .int x1 :: .int x0 :: rest)) :=
  callK_i hw (va_runS (As := [.int x0, .int x1, .int x2]) (rest := rest) ⟨E.hx, E.hb, E.hml, E.hown, E.hts⟩ hM ⟨cb_of 3 E.hts wl319 wl35 hlk (by decide +kernel) hR, E.hts _ wl318⟩ ⟨PK_blind, PK_pre E.hK E.hN hw.1⟩ rfl rfl hls rfl (lv_room hrest) hdg hcs) kk
theorem qnk7_isWithin {p : Program} {l : Launch} {e : Env} {R : Room} {s : State} {m : MethodId} {args : Array Value} {below : List Frame} {meth : Method} {c : Code} {H : Heap} {locs : List Loc} {cells slots : Nat} {Q : State → Prop} {cc : ByteArray} {pc : Nat} {ls : Array Slot} {rest : List Value} {D : va_G} {a : Nat → Nat} {g : Nat → ClassId} {nL : Nat} {own : String} {ret : Option FieldType} {S S1 : SS} {k : Nat} {x0 x1 x2 : Int32} {r : Int32} (E : EK p s m args meth c D a g cc nL own ret) (hw : WK D a g S s H locs) (hM : Met l yX7_isWithin (wsm yX7_isWithin cX7_isWithin 3 (some .boolean)) (RM k) (PK D a g S [.int x0, .int x1, .int x2]) (QK D a g (some (.int r)) S1) 0 0 (AK a)) {idx : Nat} {host : String} (hlk : Cond.methodLinkNest own idx yX7_isWithin host ∈ nestW) (hdg : decode cc pc = .ok (.invokestatic idx, 3)) (hR : k + 1 ≤ R.frames ∧ 8 + (3 + 11) + 64 * k ≤ R.locals) (hls : ls.size = nL) (hrest : (rest.map fun v => v.category).sum ≤ 8) (hcs : cells ≤ R.cells ∧ slots ≤ R.slots) (kk : ∀ (H1 : Heap) (locs1 : List Loc), WK D a g S1 s H1 locs1 → W p l e R s m args below meth c H1 locs1 cells slots Q (F0 m (pc + 3) ls (.int r :: rest))) : W p l e R s m args below meth c H locs cells slots Q (F0 m pc ls (.int x2 :: .int x1 :: .int x0 :: rest)) :=
  callK_i hw (va_runSN (As := [.int x0, .int x1, .int x2]) (rest := rest) ⟨E.hx, E.hb, E.hml, E.hown, E.hts⟩ hM ⟨cn_of 3 E.hts wl319 wl35 (E.hN.at hlk) (by decide +kernel) hR, E.hts _ wl318, trivial⟩ ⟨PK_blind, PK_pre E.hK E.hN hw.1⟩ rfl rfl hls rfl (lv_room hrest) hdg hcs) kk
/-! X4_shorten -/
def k4_shorten_B13 (F : Nat) (x1 : Int32) (x2 : Int32) (x3 : Int32) (x4 : Int32) (rec13 : SS → Int32 → Option SS) (k84 : SS → Option SS) (S : SS) (x5 : Int32) : Option SS :=
  if ((12 : Int32)) ≤ x5 then (k84 S) else ((rdA 144 (S 12) ((x4 * ((12 : Int32))) + x1)).bind fun v_5 => (rdA 144 (S 12) ((x2 * ((12 : Int32))) + x5)).bind fun v_6 => bnd ((v_5 + x3) + v_6) fun x6_7 => bnd ((x4 * ((12 : Int32))) + x5) fun x7_8 => (rdA 144 (S 12) x7_8).bind fun v_9 => (ckA 144 x7_8).bind fun _ => bnd (st S 12 (Int32.toNatClampNeg x7_8) (if x6_7 < v_9 then x6_7 else v_9)) fun S_10 => bnd (x5 + (1)) fun x5_11 => rec13 S_10 (x5_11))
def k4_shorten_B3 (F : Nat) (x1 : Int32) (x2 : Int32) (x3 : Int32) (rec3 : SS → Int32 → Option SS) (S : SS) (x4 : Int32) : Option SS :=
  if ((12 : Int32)) ≤ x4 then (some S) else (bnd ((0 : Int32)) fun x5_3 => lpN (fun _ _ => none) (fun rec13 => k4_shorten_B13 F (x1) (x2) (x3) (x4) rec13 (fun S_12 => bnd (x4 + (1)) fun x4_13 => rec3 S_12 (x4_13))) F S (x5_3))
def k4_shorten (F : Nat) (S : SS) (x1 : Int32) (x2 : Int32) (x3 : Int32) : Option SS :=
  bnd ((0 : Int32)) fun x4_1 => lpN (fun _ _ => none) (fun rec3 => k4_shorten_B3 F (x1) (x2) (x3) rec3 ) F S (x4_1)
set_option maxRecDepth 100000 in
set_option maxHeartbeats 4000000 in
theorem k4_shorten_b13 {p : Program} {l : Launch} {e : Env} {s : State} {m : MethodId} {args : Array Value} {below : List Frame} {meth : Method} {c : Code} {D : va_G} {a : Nat → Nat} {g : Nat → ClassId} (E : EK p s m args meth c D a g cX4_shorten 8 RX4 none) {F : Nat}  (x1 : Int32) (x2 : Int32) (x3 : Int32) (x4 : Int32) {rec13 : SS → Int32 → Option SS} {k84 : SS → Option SS} {out : SS} (hrec13 : ∀ (S : SS) (x5 : Int32) (H : Heap) (locs : List Loc) (ls : Array Slot), rec13 S x5 = some out → WK D a g S s H locs → lv_has ls 8 [(0, .ref (a 1)), (1, .int (x1)), (2, .int (x2)), (3, .int (x3)), (4, .int (x4)), (5, .int (x5))] → W p l e (RM 1) s m args below meth c H locs 0 0 (MQ below (QK D a g none out) args s 0 0 (AK a)) (F0 m 13 ls [])) (hk84 : ∀ (S : SS) (H : Heap) (locs : List Loc) (ls : Array Slot), k84 S = some out → WK D a g S s H locs → lv_has ls 8 [(0, .ref (a 1)), (1, .int (x1)), (2, .int (x2)), (3, .int (x3)), (4, .int (x4))] → W p l e (RM 1) s m args below meth c H locs 0 0 (MQ below (QK D a g none out) args s 0 0 (AK a)) (F0 m 84 ls [])) (S : SS) (x5 : Int32) (H : Heap) (locs : List Loc) (ls : Array Slot) (hf : k4_shorten_B13 F x1 x2 x3 x4 rec13 k84 S x5 = some out) (hw : WK D a g S s H locs) (hl : lv_has ls 8 [(0, .ref (a 1)), (1, .int (x1)), (2, .int (x2)), (3, .int (x3)), (4, .int (x4)), (5, .int (x5))]) : W p l e (RM 1) s m args below meth c H locs 0 0 (MQ below (QK D a g none out) args s 0 0 (AK a)) (F0 m 13 ls []) := by
  have hx := E.hx
  have hb := E.hb
  unfold k4_shorten_B13 at hf
  refine lv_iload hx hb dX4_shorten_13 (lv_at hl 5 rfl) ?_
  refine lv_bipush hx hb dX4_shorten_15 bp_12 ?_
  refine lv_icmp_ge (tgt := 84) hx hb dX4_shorten_17 (by decide) (fun c_4 => ?_) (fun c_4 => ?_)
  · replace hf := ite_t hf c_4
    exact hk84 S _ _ ls hf hw (lv_sub hl [0, 1, 2, 3, 4] rfl)
  · replace hf := ite_f hf c_4
    refine lv_aload_n hx hb dX4_shorten_20 rfl (lv_at hl 0 rfl) ?_
    refine gK_1_4 E hw (E.hts _ wl72) dX4_shorten_21 ?_
    refine lv_iload hx hb dX4_shorten_24 (lv_at hl 4 rfl) ?_
    refine lv_bipush hx hb dX4_shorten_26 bp_12 ?_
    refine lv_imul hx hb dX4_shorten_28 ?_
    refine lv_iload_n hx hb dX4_shorten_29 rfl (lv_at hl 1 rfl) ?_
    refine lv_iadd hx hb dX4_shorten_30 ?_
    obtain ⟨h_v_5, hf⟩ := rdA_at hf
    refine lK_12 E hw h_v_5 dX4_shorten_31 (fun v_5 ev_5 => ?_)
    replace hf := hf v_5 ev_5
    refine lv_iload_n hx hb dX4_shorten_32 rfl (lv_at hl 3 rfl) ?_
    refine lv_iadd hx hb dX4_shorten_33 ?_
    refine lv_aload_n hx hb dX4_shorten_34 rfl (lv_at hl 0 rfl) ?_
    refine gK_1_4 E hw (E.hts _ wl72) dX4_shorten_35 ?_
    refine lv_iload_n hx hb dX4_shorten_38 rfl (lv_at hl 2 rfl) ?_
    refine lv_bipush hx hb dX4_shorten_39 bp_12 ?_
    refine lv_imul hx hb dX4_shorten_41 ?_
    refine lv_iload hx hb dX4_shorten_42 (lv_at hl 5 rfl) ?_
    refine lv_iadd hx hb dX4_shorten_44 ?_
    obtain ⟨h_v_6, hf⟩ := rdA_at hf
    refine lK_12 E hw h_v_6 dX4_shorten_45 (fun v_6 ev_6 => ?_)
    replace hf := hf v_6 ev_6
    refine lv_iadd hx hb dX4_shorten_46 ?_
    refine lv_topi (fun x6_7 ex6_7 => ?_)
    replace hf := bnd_at hf ex6_7
    refine lv_istore (lv' := [(6, .int (x6_7)), (0, .ref (a 1)), (1, .int (x1)), (2, .int (x2)), (3, .int (x3)), (4, .int (x4)), (5, .int (x5))]) hx hb dX4_shorten_47 hl (by decide) rfl (fun ls hl => ?_)
    refine lv_iload hx hb dX4_shorten_49 (lv_at hl 5 rfl) ?_
    refine lv_bipush hx hb dX4_shorten_51 bp_12 ?_
    refine lv_imul hx hb dX4_shorten_53 ?_
    refine lv_iload hx hb dX4_shorten_54 (lv_at hl 6 rfl) ?_
    refine lv_iadd hx hb dX4_shorten_56 ?_
    refine lv_topi (fun x7_8 ex7_8 => ?_)
    replace hf := bnd_at hf ex7_8
    refine lv_istore (lv' := [(7, .int (x7_8)), (6, .int (x6_7)), (0, .ref (a 1)), (1, .int (x1)), (2, .int (x2)), (3, .int (x3)), (4, .int (x4)), (5, .int (x5))]) hx hb dX4_shorten_57 hl (by decide) rfl (fun ls hl => ?_)
    refine lv_aload_n hx hb dX4_shorten_59 rfl (lv_at hl 2 rfl) ?_
    refine gK_1_4 E hw (E.hts _ wl72) dX4_shorten_60 ?_
    refine lv_iload hx hb dX4_shorten_63 (lv_at hl 0 rfl) ?_
    refine lv_aload_n hx hb dX4_shorten_65 rfl (lv_at hl 2 rfl) ?_
    refine gK_1_4 E hw (E.hts _ wl72) dX4_shorten_66 ?_
    refine lv_iload hx hb dX4_shorten_69 (lv_at hl 0 rfl) ?_
    obtain ⟨h_v_9, hf⟩ := rdA_at hf
    refine lK_12 E hw h_v_9 dX4_shorten_71 (fun v_9 ev_9 => ?_)
    replace hf := hf v_9 ev_9
    refine lv_iload hx hb dX4_shorten_72 (lv_at hl 1 rfl) ?_
    refine va_mmin hx hb (by rw [E.hml]; exact hl.1.symm) E.hown (E.hts _ wl324) (E.hts _ wl325) (E.hts _ wl45) (E.hts _ wl326) (Nat.le_of_ble_eq_true rfl) (Nat.le_of_ble_eq_true rfl) (Nat.le_refl 0) (Nat.le_refl 0) dX4_shorten_74 ?_
    obtain ⟨h_S_10, hf⟩ := ckA_at hf
    refine sK_12 E hw h_S_10 dX4_shorten_77 (fun S_10 eS_10 H locs hw => ?_)
    replace hf := bnd_at hf eS_10
    obtain ⟨x5_11, ex5_11⟩ : ∃ y : Int32, y = x5 + (1) := ⟨_, rfl⟩
    replace hf := bnd_at hf ex5_11
    refine lv_iinc (v := x5_11) (lv' := [(5, .int (x5_11)), (7, .int (x7_8)), (6, .int (x6_7)), (0, .ref (a 1)), (1, .int (x1)), (2, .int (x2)), (3, .int (x3)), (4, .int (x4))]) hx hb dX4_shorten_78 hl (k := 7) rfl (by rw [ex5_11]; rfl) (by decide) rfl (fun ls hl => ?_)
    refine lv_goto (tgt := 13) hx hb dX4_shorten_81 (by decide) ?_
    exact hrec13 S_10 (x5_11) _ _ ls hf hw (lv_sub hl [3, 4, 5, 6, 7, 0] rfl)
theorem k4_shorten_l13 {p : Program} {l : Launch} {e : Env} {s : State} {m : MethodId} {args : Array Value} {below : List Frame} {meth : Method} {c : Code} {D : va_G} {a : Nat → Nat} {g : Nat → ClassId} (E : EK p s m args meth c D a g cX4_shorten 8 RX4 none) {F : Nat}  (x1 : Int32) (x2 : Int32) (x3 : Int32) (x4 : Int32) {k84 : SS → Option SS} {out : SS} (hk84 : ∀ (S : SS) (H : Heap) (locs : List Loc) (ls : Array Slot), k84 S = some out → WK D a g S s H locs → lv_has ls 8 [(0, .ref (a 1)), (1, .int (x1)), (2, .int (x2)), (3, .int (x3)), (4, .int (x4))] → W p l e (RM 1) s m args below meth c H locs 0 0 (MQ below (QK D a g none out) args s 0 0 (AK a)) (F0 m 84 ls [])) : ∀ (n : Nat) (S : SS) (x5 : Int32) (H : Heap) (locs : List Loc) (ls : Array Slot), lpN (fun _ _ => none) (fun rec13 => k4_shorten_B13 F x1 x2 x3 x4 rec13 k84) n S x5 = some out → WK D a g S s H locs → lv_has ls 8 [(0, .ref (a 1)), (1, .int (x1)), (2, .int (x2)), (3, .int (x3)), (4, .int (x4)), (5, .int (x5))] → W p l e (RM 1) s m args below meth c H locs 0 0 (MQ below (QK D a g none out) args s 0 0 (AK a)) (F0 m 13 ls []) := by
  intro n
  induction n with
  | zero => intro S x5 H locs ls hf; cases (show (none : Option SS) = some out from hf)
  | succ n ih => intro S x5 H locs ls hf hw hl; exact k4_shorten_b13 E (F := F) x1 x2 x3 x4 ih hk84 S x5 H locs ls hf hw hl
set_option maxRecDepth 100000 in
set_option maxHeartbeats 4000000 in
theorem k4_shorten_b3 {p : Program} {l : Launch} {e : Env} {s : State} {m : MethodId} {args : Array Value} {below : List Frame} {meth : Method} {c : Code} {D : va_G} {a : Nat → Nat} {g : Nat → ClassId} (E : EK p s m args meth c D a g cX4_shorten 8 RX4 none) {F : Nat}  (x1 : Int32) (x2 : Int32) (x3 : Int32) {rec3 : SS → Int32 → Option SS} {out : SS} (hrec3 : ∀ (S : SS) (x4 : Int32) (H : Heap) (locs : List Loc) (ls : Array Slot), rec3 S x4 = some out → WK D a g S s H locs → lv_has ls 8 [(0, .ref (a 1)), (1, .int (x1)), (2, .int (x2)), (3, .int (x3)), (4, .int (x4))] → W p l e (RM 1) s m args below meth c H locs 0 0 (MQ below (QK D a g none out) args s 0 0 (AK a)) (F0 m 3 ls []))  (S : SS) (x4 : Int32) (H : Heap) (locs : List Loc) (ls : Array Slot) (hf : k4_shorten_B3 F x1 x2 x3 rec3 S x4 = some out) (hw : WK D a g S s H locs) (hl : lv_has ls 8 [(0, .ref (a 1)), (1, .int (x1)), (2, .int (x2)), (3, .int (x3)), (4, .int (x4))]) : W p l e (RM 1) s m args below meth c H locs 0 0 (MQ below (QK D a g none out) args s 0 0 (AK a)) (F0 m 3 ls []) := by
  have hx := E.hx
  have hb := E.hb
  unfold k4_shorten_B3 at hf
  refine lv_iload hx hb dX4_shorten_3 (lv_at hl 4 rfl) ?_
  refine lv_bipush hx hb dX4_shorten_5 bp_12 ?_
  refine lv_icmp_ge (tgt := 90) hx hb dX4_shorten_7 (by decide) (fun c_2 => ?_) (fun c_2 => ?_)
  · replace hf := ite_t hf c_2
    cases hf
    exact retK_v E hw dX4_shorten_90
  · replace hf := ite_f hf c_2
    refine lv_iconst hx hb dX4_shorten_10 ic_0 ?_
    refine lv_topi (fun x5_3 ex5_3 => ?_)
    replace hf := bnd_at hf ex5_3
    refine lv_istore (lv' := [(5, .int (x5_3)), (0, .ref (a 1)), (1, .int (x1)), (2, .int (x2)), (3, .int (x3)), (4, .int (x4))]) hx hb dX4_shorten_11 hl (by decide) rfl (fun ls hl => ?_)
    refine k4_shorten_l13 E (x1) (x2) (x3) (x4) ?_ F S (x5_3) _ _ ls hf hw (lv_sub hl [1, 2, 3, 4, 5, 0] rfl)
    · intro S_12 H locs ls hf hw hl
      obtain ⟨x4_13, ex4_13⟩ : ∃ y : Int32, y = x4 + (1) := ⟨_, rfl⟩
      replace hf := bnd_at hf ex4_13
      refine lv_iinc (v := x4_13) (lv' := [(4, .int (x4_13)), (0, .ref (a 1)), (1, .int (x1)), (2, .int (x2)), (3, .int (x3))]) hx hb dX4_shorten_84 hl (k := 4) rfl (by rw [ex4_13]; rfl) (by decide) rfl (fun ls hl => ?_)
      refine lv_goto (tgt := 3) hx hb dX4_shorten_87 (by decide) ?_
      exact hrec3 S_12 (x4_13) _ _ ls hf hw (lv_sub hl [1, 2, 3, 4, 0] rfl)
theorem k4_shorten_l3 {p : Program} {l : Launch} {e : Env} {s : State} {m : MethodId} {args : Array Value} {below : List Frame} {meth : Method} {c : Code} {D : va_G} {a : Nat → Nat} {g : Nat → ClassId} (E : EK p s m args meth c D a g cX4_shorten 8 RX4 none) {F : Nat}  (x1 : Int32) (x2 : Int32) (x3 : Int32) {out : SS}  : ∀ (n : Nat) (S : SS) (x4 : Int32) (H : Heap) (locs : List Loc) (ls : Array Slot), lpN (fun _ _ => none) (fun rec3 => k4_shorten_B3 F x1 x2 x3 rec3) n S x4 = some out → WK D a g S s H locs → lv_has ls 8 [(0, .ref (a 1)), (1, .int (x1)), (2, .int (x2)), (3, .int (x3)), (4, .int (x4))] → W p l e (RM 1) s m args below meth c H locs 0 0 (MQ below (QK D a g none out) args s 0 0 (AK a)) (F0 m 3 ls []) := by
  intro n
  induction n with
  | zero => intro S x4 H locs ls hf; cases (show (none : Option SS) = some out from hf)
  | succ n ih => intro S x4 H locs ls hf hw hl; exact k4_shorten_b3 E (F := F) x1 x2 x3 ih S x4 H locs ls hf hw hl
set_option maxRecDepth 100000 in
set_option maxHeartbeats 4000000 in
theorem mk4_shorten {l : Launch} {D : va_G} {a : Nat → Nat} {g : Nat → ClassId} (hD : ∀ S, va_D (AK a) (wK a g S)) {F : Nat} {S : SS} {x1 x2 x3 : Int32} {out : SS} (hf : k4_shorten F S x1 x2 x3 = some out) : Met l yX4_shorten (wsm yX4_shorten cX4_shorten 8 none) (RM 1) (PK D a g S [.ref (a 1), .int x1, .int x2, .int x3]) (QK D a g none out) 0 0 (AK a) := by
  refine Met.ofW (cc := cX4_shorten) (maxL := 8) (ret := none) (by decide) rfl ?_
  intro p e s m args below meth c s₁ B hml hv
  obtain ⟨rfl, hP, hK, hN⟩ := hv
  have hts := atoms_spec (ws := wsm yX4_shorten cX4_shorten 8 none) B.pre
  have E : EK p s m _ meth c D a g cX4_shorten 8 RX4 none := ⟨B.exec, B.bytes, B.returns, hml, findClass_of_methodNamed B.named, fun w h => hts w (List.mem_cons_of_mem _ h), hK, hN, hD, B.notSynchronized⟩
  have hx := E.hx
  have hb := E.hb
  have hw : WK D a g S s s.heap [] := ⟨hP, va_S.rf⟩
  have hl := lv_entry ([.ref (a 1), .int x1, .int x2, .int x3]) (n := 8) (Nat.le_of_ble_eq_true rfl)
  rw [lg_entry_eq]
  generalize (lg_sl ([.ref (a 1), .int x1, .int x2, .int x3]) ++ List.replicate (8 - (lg_sl ([.ref (a 1), .int x1, .int x2, .int x3])).length) Slot.unset).toArray = ls at hl ⊢
  have hl : lv_has ls 8 [(0, .ref (a 1)), (1, .int (x1)), (2, .int (x2)), (3, .int (x3))] := hl
  show W p l e (RM 1) s m _ below meth c s.heap [] 0 0 (MQ below (QK D a g none out) _ s 0 0 (AK a)) (F0 m 0 ls [])
  unfold k4_shorten at hf
  refine lv_iconst hx hb dX4_shorten_0 ic_0 ?_
  refine lv_topi (fun x4_1 ex4_1 => ?_)
  replace hf := bnd_at hf ex4_1
  refine lv_istore (lv' := [(4, .int (x4_1)), (0, .ref (a 1)), (1, .int (x1)), (2, .int (x2)), (3, .int (x3))]) hx hb dX4_shorten_1 hl (by decide) rfl (fun ls hl => ?_)
  refine k4_shorten_l3 E (x1) (x2) (x3)  F S (x4_1) _ _ ls hf hw (lv_sub hl [1, 2, 3, 4, 0] rfl)
theorem qk4_shorten {p : Program} {l : Launch} {e : Env} {R : Room} {s : State} {m : MethodId} {args : Array Value} {below : List Frame} {meth : Method} {c : Code} {H : Heap} {locs : List Loc} {cells slots : Nat} {Q : State → Prop} {cc : ByteArray} {pc : Nat} {ls : Array Slot} {rest : List Value} {D : va_G} {a : Nat → Nat} {g : Nat → ClassId} {nL : Nat} {own : String} {ret : Option FieldType} {S S1 : SS} {k : Nat} {x1 x2 x3 : Int32} (E : EK p s m args meth c D a g cc nL own ret) (hw : WK D a g S s H locs) (hM : Met l yX4_shorten (wsm yX4_shorten cX4_shorten 8 none) (RM k) (PK D a g S [.ref (a 1), .int x1, .int x2, .int x3]) (QK D a g none S1) 0 0 (AK a)) {idx : Nat} (hlk : Cond.methodLink own idx yX4_shorten ∈ wd) (hdg : decode cc pc = .ok (.invokevirtual idx, 3)) (hR : k + 1 ≤ R.frames ∧ 8 + (8 + 11) + 64 * k ≤ R.locals) (hls : ls.size = nL) (hrest : (rest.map fun v => v.category).sum ≤ 8) (hcs : cells ≤ R.cells ∧ slots ≤ R.slots) (kk : ∀ (H1 : Heap) (locs1 : List Loc), WK D a g S1 s H1 locs1 → W p l e R s m args below meth c H1 locs1 cells slots Q (F0 m (pc + 3) ls (rest))) : W p l e R s m args below meth c H locs cells slots Q (F0 m pc ls (.int x3 :: .int x2 :: .int x1 :: .ref (a 1) :: rest)) :=
  callK_v hw (va_runV (As := [.int x1, .int x2, .int x3]) (rest := rest) ⟨E.hx, E.hb, E.hml, E.hown, E.hts⟩ hM ⟨cb_of 3 E.hts wl323 wl36 hlk (by decide +kernel) hR, E.hts _ wl322, E.hts _ wl0⟩ ⟨PK_blind, va_recv E.hK hw.1 (ci := 4) (q0 := 1) rfl rfl, PK_pre E.hK E.hN hw.1⟩ rfl rfl hls rfl (lv_room hrest) hdg hcs) kk
/-! X4_addLine -/
def k4_addLine (F : Nat) (S : SS) (x1 : Int32) (x2 : Int32) (x3 : Int32) (x4 : Int32) : Option (Int32 × SS) :=
  (k7_isJunction F S (x1)).bind fun r_2 => if r_2 = 0 then (some ((-1 : Int32), S)) else ((k7_isJunction F S (x2)).bind fun r_6 => if r_6 = 0 then (some ((-1 : Int32), S)) else (if x1 = x2 then (some ((-1 : Int32), S)) else ((k7_isCompany F S (x3)).bind fun r_11 => if r_11 = 0 then (some ((-1 : Int32), S)) else ((k7_isWithin F S (x4) ((1 : Int32)) ((200 : Int32))).bind fun r_15 => if r_15 = 0 then (some ((-1 : Int32), S)) else (if (S 1 5) < ((24 : Int32)) then ((ckA 24 (S 1 5)).bind fun _ => bnd (st S 8 (Int32.toNatClampNeg (S 1 5)) x1) fun S_19 => (ckA 24 (S_19 1 5)).bind fun _ => bnd (st S_19 9 (Int32.toNatClampNeg (S_19 1 5)) x2) fun S_20 => (ckA 24 (S_20 1 5)).bind fun _ => bnd (st S_20 10 (Int32.toNatClampNeg (S_20 1 5)) x3) fun S_21 => (ckA 24 (S_21 1 5)).bind fun _ => bnd (st S_21 11 (Int32.toNatClampNeg (S_21 1 5)) x4) fun S_22 => bnd (st S_22 1 5 ((S_22 1 5) + ((1 : Int32)))) fun S_23 => (k4_shorten F S_23 (x1) (x2) (x4)).bind fun S_26 => (k4_shorten F S_26 (x2) (x1) (x4)).bind fun S_29 => some ((S_29 1 5) - ((1 : Int32)), S_29)) else (some ((-1 : Int32), S)))))))
set_option maxRecDepth 100000 in
set_option maxHeartbeats 4000000 in
theorem mk4_addLine {l : Launch} {D : va_G} {a : Nat → Nat} {g : Nat → ClassId} (hD : ∀ S, va_D (AK a) (wK a g S)) {F : Nat} {S : SS} {x1 x2 x3 x4 : Int32} {out : (Int32 × SS)} (hf : k4_addLine F S x1 x2 x3 x4 = some out) : Met l yX4_addLine (wsm yX4_addLine cX4_addLine 5 (some .int)) (RM 2) (PK D a g S [.ref (a 1), .int x1, .int x2, .int x3, .int x4]) (QK D a g (some (.int out.1)) out.2) 0 0 (AK a) := by
  refine Met.ofW (cc := cX4_addLine) (maxL := 5) (ret := (some .int)) (by decide) rfl ?_
  intro p e s m args below meth c s₁ B hml hv
  obtain ⟨rfl, hP, hK, hN⟩ := hv
  have hts := atoms_spec (ws := wsm yX4_addLine cX4_addLine 5 (some .int)) B.pre
  have E : EK p s m _ meth c D a g cX4_addLine 5 RX4 (some .int) := ⟨B.exec, B.bytes, B.returns, hml, findClass_of_methodNamed B.named, fun w h => hts w (List.mem_cons_of_mem _ h), hK, hN, hD, B.notSynchronized⟩
  have hx := E.hx
  have hb := E.hb
  have hw : WK D a g S s s.heap [] := ⟨hP, va_S.rf⟩
  have hl := lv_entry ([.ref (a 1), .int x1, .int x2, .int x3, .int x4]) (n := 5) (Nat.le_of_ble_eq_true rfl)
  rw [lg_entry_eq]
  generalize (lg_sl ([.ref (a 1), .int x1, .int x2, .int x3, .int x4]) ++ List.replicate (5 - (lg_sl ([.ref (a 1), .int x1, .int x2, .int x3, .int x4])).length) Slot.unset).toArray = ls at hl ⊢
  have hl : lv_has ls 5 [(0, .ref (a 1)), (1, .int (x1)), (2, .int (x2)), (3, .int (x3)), (4, .int (x4))] := hl
  show W p l e (RM 2) s m _ below meth c s.heap [] 0 0 (MQ below (QK D a g (some (.int out.1)) out.2) _ s 0 0 (AK a)) (F0 m 0 ls [])
  unfold k4_addLine at hf
  refine lv_iload_n hx hb dX4_addLine_0 rfl (lv_at hl 1 rfl) ?_
  obtain ⟨r_2, h_1, hf⟩ := ob_at hf
  refine qnk7_isJunction E hw (mk7_isJunction E.hD h_1) nw2 dX4_addLine_1 ⟨Nat.le_of_ble_eq_true rfl, Nat.le_of_ble_eq_true rfl⟩ hl.1 (Nat.le_of_ble_eq_true rfl) ⟨Nat.le_refl 0, Nat.le_refl 0⟩ (fun H locs hw => ?_)
  refine lv_if_eq (tgt := 26) hx hb dX4_addLine_4 (by decide) (fun c_4 => ?_) (fun c_4 => ?_)
  · replace hf := ite_t hf c_4
    refine lv_iconst hx hb dX4_addLine_26 ic_m1 ?_
    cases hf
    exact retK_i E hw dX4_addLine_27
  · replace hf := ite_f hf c_4
    refine lv_iload_n hx hb dX4_addLine_7 rfl (lv_at hl 2 rfl) ?_
    obtain ⟨r_6, h_5, hf⟩ := ob_at hf
    refine qnk7_isJunction E hw (mk7_isJunction E.hD h_5) nw2 dX4_addLine_8 ⟨Nat.le_of_ble_eq_true rfl, Nat.le_of_ble_eq_true rfl⟩ hl.1 (Nat.le_of_ble_eq_true rfl) ⟨Nat.le_refl 0, Nat.le_refl 0⟩ (fun H locs hw => ?_)
    refine lv_if_eq (tgt := 26) hx hb dX4_addLine_11 (by decide) (fun c_8 => ?_) (fun c_8 => ?_)
    · replace hf := ite_t hf c_8
      refine lv_iconst hx hb dX4_addLine_26 ic_m1 ?_
      cases hf
      exact retK_i E hw dX4_addLine_27
    · replace hf := ite_f hf c_8
      refine lv_iload_n hx hb dX4_addLine_14 rfl (lv_at hl 1 rfl) ?_
      refine lv_iload_n hx hb dX4_addLine_15 rfl (lv_at hl 2 rfl) ?_
      refine lv_icmp_eq (tgt := 26) hx hb dX4_addLine_16 (by decide) (fun c_9 => ?_) (fun c_9 => ?_)
      · replace hf := ite_t hf c_9
        refine lv_iconst hx hb dX4_addLine_26 ic_m1 ?_
        cases hf
        exact retK_i E hw dX4_addLine_27
      · replace hf := ite_f hf c_9
        refine lv_iload_n hx hb dX4_addLine_19 rfl (lv_at hl 3 rfl) ?_
        obtain ⟨r_11, h_10, hf⟩ := ob_at hf
        refine qnk7_isCompany E hw (mk7_isCompany E.hD h_10) nw3 dX4_addLine_20 ⟨Nat.le_of_ble_eq_true rfl, Nat.le_of_ble_eq_true rfl⟩ hl.1 (Nat.le_of_ble_eq_true rfl) ⟨Nat.le_refl 0, Nat.le_refl 0⟩ (fun H locs hw => ?_)
        refine lv_if_ne (tgt := 28) hx hb dX4_addLine_23 (by decide) (fun c_13 => ?_) (fun c_13 => ?_)
        · replace hf := ite_f hf c_13
          refine lv_iload hx hb dX4_addLine_28 (lv_at hl 4 rfl) ?_
          refine lv_iconst hx hb dX4_addLine_30 ic_1 ?_
          refine lv_sipush hx hb dX4_addLine_31 sp_200 ?_
          obtain ⟨r_15, h_14, hf⟩ := ob_at hf
          refine qnk7_isWithin E hw (mk7_isWithin E.hD h_14) nw4 dX4_addLine_34 ⟨Nat.le_of_ble_eq_true rfl, Nat.le_of_ble_eq_true rfl⟩ hl.1 (Nat.le_of_ble_eq_true rfl) ⟨Nat.le_refl 0, Nat.le_refl 0⟩ (fun H locs hw => ?_)
          refine lv_if_eq (tgt := 49) hx hb dX4_addLine_37 (by decide) (fun c_17 => ?_) (fun c_17 => ?_)
          · replace hf := ite_t hf c_17
            refine lv_iconst hx hb dX4_addLine_49 ic_m1 ?_
            cases hf
            exact retK_i E hw dX4_addLine_50
          · replace hf := ite_f hf c_17
            refine lv_aload_n hx hb dX4_addLine_40 rfl (lv_at hl 0 rfl) ?_
            refine gK_1_5 E hw (E.hts _ wl75) dX4_addLine_41 ?_
            refine lv_bipush hx hb dX4_addLine_44 bp_24 ?_
            refine lv_icmp_lt (tgt := 51) hx hb dX4_addLine_46 (by decide) (fun c_18 => ?_) (fun c_18 => ?_)
            · replace hf := ite_t hf c_18
              refine lv_aload_n hx hb dX4_addLine_51 rfl (lv_at hl 0 rfl) ?_
              refine gK_1_0 E hw (E.hts _ wl66) dX4_addLine_52 ?_
              refine lv_aload_n hx hb dX4_addLine_55 rfl (lv_at hl 0 rfl) ?_
              refine gK_1_5 E hw (E.hts _ wl75) dX4_addLine_56 ?_
              refine lv_iload_n hx hb dX4_addLine_59 rfl (lv_at hl 1 rfl) ?_
              obtain ⟨h_S_19, hf⟩ := ckA_at hf
              refine sK_8 E hw h_S_19 dX4_addLine_60 (fun S_19 eS_19 H locs hw => ?_)
              replace hf := bnd_at hf eS_19
              refine lv_aload_n hx hb dX4_addLine_61 rfl (lv_at hl 0 rfl) ?_
              refine gK_1_1 E hw (E.hts _ wl67) dX4_addLine_62 ?_
              refine lv_aload_n hx hb dX4_addLine_65 rfl (lv_at hl 0 rfl) ?_
              refine gK_1_5 E hw (E.hts _ wl75) dX4_addLine_66 ?_
              refine lv_iload_n hx hb dX4_addLine_69 rfl (lv_at hl 2 rfl) ?_
              obtain ⟨h_S_20, hf⟩ := ckA_at hf
              refine sK_9 E hw h_S_20 dX4_addLine_70 (fun S_20 eS_20 H locs hw => ?_)
              replace hf := bnd_at hf eS_20
              refine lv_aload_n hx hb dX4_addLine_71 rfl (lv_at hl 0 rfl) ?_
              refine gK_1_2 E hw (E.hts _ wl68) dX4_addLine_72 ?_
              refine lv_aload_n hx hb dX4_addLine_75 rfl (lv_at hl 0 rfl) ?_
              refine gK_1_5 E hw (E.hts _ wl75) dX4_addLine_76 ?_
              refine lv_iload_n hx hb dX4_addLine_79 rfl (lv_at hl 3 rfl) ?_
              obtain ⟨h_S_21, hf⟩ := ckA_at hf
              refine sK_10 E hw h_S_21 dX4_addLine_80 (fun S_21 eS_21 H locs hw => ?_)
              replace hf := bnd_at hf eS_21
              refine lv_aload_n hx hb dX4_addLine_81 rfl (lv_at hl 0 rfl) ?_
              refine gK_1_3 E hw (E.hts _ wl70) dX4_addLine_82 ?_
              refine lv_aload_n hx hb dX4_addLine_85 rfl (lv_at hl 0 rfl) ?_
              refine gK_1_5 E hw (E.hts _ wl75) dX4_addLine_86 ?_
              refine lv_iload hx hb dX4_addLine_89 (lv_at hl 4 rfl) ?_
              obtain ⟨h_S_22, hf⟩ := ckA_at hf
              refine sK_11 E hw h_S_22 dX4_addLine_91 (fun S_22 eS_22 H locs hw => ?_)
              replace hf := bnd_at hf eS_22
              refine lv_aload_n hx hb dX4_addLine_92 rfl (lv_at hl 0 rfl) ?_
              refine lv_dup hx hb dX4_addLine_93 rfl ?_
              refine gK_1_5 E hw (E.hts _ wl75) dX4_addLine_94 ?_
              refine lv_iconst hx hb dX4_addLine_97 ic_1 ?_
              refine lv_iadd hx hb dX4_addLine_98 ?_
              refine pK_1_5 E hw (E.hts _ wl75) dX4_addLine_99 (fun S_23 eS_23 H locs hw => ?_)
              replace hf := bnd_at hf eS_23
              refine lv_aload_n hx hb dX4_addLine_102 rfl (lv_at hl 0 rfl) ?_
              refine lv_iload_n hx hb dX4_addLine_103 rfl (lv_at hl 1 rfl) ?_
              refine lv_iload_n hx hb dX4_addLine_104 rfl (lv_at hl 2 rfl) ?_
              refine lv_iload hx hb dX4_addLine_105 (lv_at hl 4 rfl) ?_
              obtain ⟨S_26, h_24, hf⟩ := ob_at hf
              refine qk4_shorten E hw (mk4_shorten E.hD h_24) wl320 dX4_addLine_107 ⟨Nat.le_of_ble_eq_true rfl, Nat.le_of_ble_eq_true rfl⟩ hl.1 (Nat.le_of_ble_eq_true rfl) ⟨Nat.le_refl 0, Nat.le_refl 0⟩ (fun H locs hw => ?_)
              refine lv_aload_n hx hb dX4_addLine_110 rfl (lv_at hl 0 rfl) ?_
              refine lv_iload_n hx hb dX4_addLine_111 rfl (lv_at hl 2 rfl) ?_
              refine lv_iload_n hx hb dX4_addLine_112 rfl (lv_at hl 1 rfl) ?_
              refine lv_iload hx hb dX4_addLine_113 (lv_at hl 4 rfl) ?_
              obtain ⟨S_29, h_27, hf⟩ := ob_at hf
              refine qk4_shorten E hw (mk4_shorten E.hD h_27) wl320 dX4_addLine_115 ⟨Nat.le_of_ble_eq_true rfl, Nat.le_of_ble_eq_true rfl⟩ hl.1 (Nat.le_of_ble_eq_true rfl) ⟨Nat.le_refl 0, Nat.le_refl 0⟩ (fun H locs hw => ?_)
              refine lv_aload_n hx hb dX4_addLine_118 rfl (lv_at hl 0 rfl) ?_
              refine gK_1_5 E hw (E.hts _ wl75) dX4_addLine_119 ?_
              refine lv_iconst hx hb dX4_addLine_122 ic_1 ?_
              refine lv_isub hx hb dX4_addLine_123 ?_
              cases hf
              exact retK_i E hw dX4_addLine_124
            · replace hf := ite_f hf c_18
              refine lv_iconst hx hb dX4_addLine_49 ic_m1 ?_
              cases hf
              exact retK_i E hw dX4_addLine_50
        · replace hf := ite_t hf c_13
          refine lv_iconst hx hb dX4_addLine_26 ic_m1 ?_
          cases hf
          exact retK_i E hw dX4_addLine_27
theorem qk4_addLine {p : Program} {l : Launch} {e : Env} {R : Room} {s : State} {m : MethodId} {args : Array Value} {below : List Frame} {meth : Method} {c : Code} {H : Heap} {locs : List Loc} {cells slots : Nat} {Q : State → Prop} {cc : ByteArray} {pc : Nat} {ls : Array Slot} {rest : List Value} {D : va_G} {a : Nat → Nat} {g : Nat → ClassId} {nL : Nat} {own : String} {ret : Option FieldType} {S S1 : SS} {k : Nat} {x1 x2 x3 x4 : Int32} {r : Int32} (E : EK p s m args meth c D a g cc nL own ret) (hw : WK D a g S s H locs) (hM : Met l yX4_addLine (wsm yX4_addLine cX4_addLine 5 (some .int)) (RM k) (PK D a g S [.ref (a 1), .int x1, .int x2, .int x3, .int x4]) (QK D a g (some (.int r)) S1) 0 0 (AK a)) {idx : Nat} (hlk : Cond.methodLink own idx yX4_addLine ∈ wd) (hdg : decode cc pc = .ok (.invokevirtual idx, 3)) (hR : k + 1 ≤ R.frames ∧ 8 + (5 + 11) + 64 * k ≤ R.locals) (hls : ls.size = nL) (hrest : (rest.map fun v => v.category).sum ≤ 8) (hcs : cells ≤ R.cells ∧ slots ≤ R.slots) (kk : ∀ (H1 : Heap) (locs1 : List Loc), WK D a g S1 s H1 locs1 → W p l e R s m args below meth c H1 locs1 cells slots Q (F0 m (pc + 3) ls (.int r :: rest))) : W p l e R s m args below meth c H locs cells slots Q (F0 m pc ls (.int x4 :: .int x3 :: .int x2 :: .int x1 :: .ref (a 1) :: rest)) :=
  callK_i hw (va_runV (As := [.int x1, .int x2, .int x3, .int x4]) (rest := rest) ⟨E.hx, E.hb, E.hml, E.hown, E.hts⟩ hM ⟨cb_of 4 E.hts wl310 wl36 hlk (by decide +kernel) hR, E.hts _ wl308, E.hts _ wl309⟩ ⟨PK_blind, va_recv E.hK hw.1 (ci := 4) (q0 := 1) rfl rfl, PK_pre E.hK E.hN hw.1⟩ rfl rfl hls rfl (lv_room hrest) hdg hcs) kk
/-! X2_forget -/
def k2_forget (F : Nat) (S : SS) : Option SS :=
  bnd (st S 4 8 ((0 : Int32))) fun S_1 => some S_1
set_option maxRecDepth 100000 in
set_option maxHeartbeats 4000000 in
theorem mk2_forget {l : Launch} {D : va_G} {a : Nat → Nat} {g : Nat → ClassId} (hD : ∀ S, va_D (AK a) (wK a g S)) {F : Nat} {S : SS} {out : SS} (hf : k2_forget F S  = some out) : Met l yX2_forget (wsm yX2_forget cX2_forget 1 none) (RM 1) (PK D a g S [.ref (a 4)]) (QK D a g none out) 0 0 (AK a) := by
  refine Met.ofW (cc := cX2_forget) (maxL := 1) (ret := none) (by decide) rfl ?_
  intro p e s m args below meth c s₁ B hml hv
  obtain ⟨rfl, hP, hK, hN⟩ := hv
  have hts := atoms_spec (ws := wsm yX2_forget cX2_forget 1 none) B.pre
  have E : EK p s m _ meth c D a g cX2_forget 1 RX2 none := ⟨B.exec, B.bytes, B.returns, hml, findClass_of_methodNamed B.named, fun w h => hts w (List.mem_cons_of_mem _ h), hK, hN, hD, B.notSynchronized⟩
  have hx := E.hx
  have hb := E.hb
  have hw : WK D a g S s s.heap [] := ⟨hP, va_S.rf⟩
  have hl := lv_entry ([.ref (a 4)]) (n := 1) (Nat.le_of_ble_eq_true rfl)
  rw [lg_entry_eq]
  generalize (lg_sl ([.ref (a 4)]) ++ List.replicate (1 - (lg_sl ([.ref (a 4)])).length) Slot.unset).toArray = ls at hl ⊢
  have hl : lv_has ls 1 [(0, .ref (a 4))] := hl
  show W p l e (RM 1) s m _ below meth c s.heap [] 0 0 (MQ below (QK D a g none out) _ s 0 0 (AK a)) (F0 m 0 ls [])
  unfold k2_forget at hf
  refine lv_aload_n hx hb dX2_forget_0 rfl (lv_at hl 0 rfl) ?_
  refine lv_iconst hx hb dX2_forget_1 ic_0 ?_
  refine pK_4_8 E hw nb0 fb0 (E.hts _ wl176) dX2_forget_2 (fun S_1 eS_1 H locs hw => ?_)
  replace hf := bnd_at hf eS_1
  cases hf
  exact retK_v E hw dX2_forget_5
theorem qk2_forget {p : Program} {l : Launch} {e : Env} {R : Room} {s : State} {m : MethodId} {args : Array Value} {below : List Frame} {meth : Method} {c : Code} {H : Heap} {locs : List Loc} {cells slots : Nat} {Q : State → Prop} {cc : ByteArray} {pc : Nat} {ls : Array Slot} {rest : List Value} {D : va_G} {a : Nat → Nat} {g : Nat → ClassId} {nL : Nat} {own : String} {ret : Option FieldType} {S S1 : SS} {k : Nat} (E : EK p s m args meth c D a g cc nL own ret) (hw : WK D a g S s H locs) (hM : Met l yX2_forget (wsm yX2_forget cX2_forget 1 none) (RM k) (PK D a g S [.ref (a 4)]) (QK D a g none S1) 0 0 (AK a)) {idx : Nat} (hlk : Cond.methodLink own idx yX2_forget ∈ wd) (hdg : decode cc pc = .ok (.invokevirtual idx, 3)) (hR : k + 1 ≤ R.frames ∧ 8 + (1 + 11) + 64 * k ≤ R.locals) (hls : ls.size = nL) (hrest : (rest.map fun v => v.category).sum ≤ 8) (hcs : cells ≤ R.cells ∧ slots ≤ R.slots) (kk : ∀ (H1 : Heap) (locs1 : List Loc), WK D a g S1 s H1 locs1 → W p l e R s m args below meth c H1 locs1 cells slots Q (F0 m (pc + 3) ls (rest))) : W p l e R s m args below meth c H locs cells slots Q (F0 m pc ls (.ref (a 4) :: rest)) :=
  callK_v hw (va_runV (As := []) (rest := rest) ⟨E.hx, E.hb, E.hml, E.hown, E.hts⟩ hM ⟨cb_of 0 E.hts wl330 wl40 hlk (by decide +kernel) hR, E.hts _ wl328, E.hts _ wl329⟩ ⟨PK_blind, va_recv E.hK hw.1 (ci := 2) (q0 := 4) rfl rfl, PK_pre E.hK E.hN hw.1⟩ rfl rfl hls rfl (lv_room hrest) hdg hcs) kk
/-! X3_forget -/
def k3_forget (F : Nat) (S : SS) : Option SS :=
  bnd (st S 7 9 ((0 : Int32))) fun S_1 => some S_1
set_option maxRecDepth 100000 in
set_option maxHeartbeats 4000000 in
theorem mk3_forget {l : Launch} {D : va_G} {a : Nat → Nat} {g : Nat → ClassId} (hD : ∀ S, va_D (AK a) (wK a g S)) {F : Nat} {S : SS} {out : SS} (hf : k3_forget F S  = some out) : Met l yX3_forget (wsm yX3_forget cX3_forget 1 none) (RM 1) (PK D a g S [.ref (a 7)]) (QK D a g none out) 0 0 (AK a) := by
  refine Met.ofW (cc := cX3_forget) (maxL := 1) (ret := none) (by decide) rfl ?_
  intro p e s m args below meth c s₁ B hml hv
  obtain ⟨rfl, hP, hK, hN⟩ := hv
  have hts := atoms_spec (ws := wsm yX3_forget cX3_forget 1 none) B.pre
  have E : EK p s m _ meth c D a g cX3_forget 1 RX3 none := ⟨B.exec, B.bytes, B.returns, hml, findClass_of_methodNamed B.named, fun w h => hts w (List.mem_cons_of_mem _ h), hK, hN, hD, B.notSynchronized⟩
  have hx := E.hx
  have hb := E.hb
  have hw : WK D a g S s s.heap [] := ⟨hP, va_S.rf⟩
  have hl := lv_entry ([.ref (a 7)]) (n := 1) (Nat.le_of_ble_eq_true rfl)
  rw [lg_entry_eq]
  generalize (lg_sl ([.ref (a 7)]) ++ List.replicate (1 - (lg_sl ([.ref (a 7)])).length) Slot.unset).toArray = ls at hl ⊢
  have hl : lv_has ls 1 [(0, .ref (a 7))] := hl
  show W p l e (RM 1) s m _ below meth c s.heap [] 0 0 (MQ below (QK D a g none out) _ s 0 0 (AK a)) (F0 m 0 ls [])
  unfold k3_forget at hf
  refine lv_aload_n hx hb dX3_forget_0 rfl (lv_at hl 0 rfl) ?_
  refine lv_iconst hx hb dX3_forget_1 ic_0 ?_
  refine pK_7_9 E hw nb0 fb0 (E.hts _ wl250) dX3_forget_2 (fun S_1 eS_1 H locs hw => ?_)
  replace hf := bnd_at hf eS_1
  cases hf
  exact retK_v E hw dX3_forget_5
theorem qk3_forget {p : Program} {l : Launch} {e : Env} {R : Room} {s : State} {m : MethodId} {args : Array Value} {below : List Frame} {meth : Method} {c : Code} {H : Heap} {locs : List Loc} {cells slots : Nat} {Q : State → Prop} {cc : ByteArray} {pc : Nat} {ls : Array Slot} {rest : List Value} {D : va_G} {a : Nat → Nat} {g : Nat → ClassId} {nL : Nat} {own : String} {ret : Option FieldType} {S S1 : SS} {k : Nat} (E : EK p s m args meth c D a g cc nL own ret) (hw : WK D a g S s H locs) (hM : Met l yX3_forget (wsm yX3_forget cX3_forget 1 none) (RM k) (PK D a g S [.ref (a 7)]) (QK D a g none S1) 0 0 (AK a)) {idx : Nat} (hlk : Cond.methodLink own idx yX3_forget ∈ wd) (hdg : decode cc pc = .ok (.invokevirtual idx, 3)) (hR : k + 1 ≤ R.frames ∧ 8 + (1 + 11) + 64 * k ≤ R.locals) (hls : ls.size = nL) (hrest : (rest.map fun v => v.category).sum ≤ 8) (hcs : cells ≤ R.cells ∧ slots ≤ R.slots) (kk : ∀ (H1 : Heap) (locs1 : List Loc), WK D a g S1 s H1 locs1 → W p l e R s m args below meth c H1 locs1 cells slots Q (F0 m (pc + 3) ls (rest))) : W p l e R s m args below meth c H locs cells slots Q (F0 m pc ls (.ref (a 7) :: rest)) :=
  callK_v hw (va_runV (As := []) (rest := rest) ⟨E.hx, E.hb, E.hml, E.hown, E.hts⟩ hM ⟨cb_of 0 E.hts wl334 wl43 hlk (by decide +kernel) hR, E.hts _ wl332, E.hts _ wl333⟩ ⟨PK_blind, va_recv E.hK hw.1 (ci := 3) (q0 := 7) rfl rfl, PK_pre E.hK E.hN hw.1⟩ rfl rfl hls rfl (lv_room hrest) hdg hcs) kk
/-! X7_line -/
def k7_line (F : Nat) (S : SS) (x1 : Int32) (x2 : Int32) (x3 : Int32) (x4 : Int32) : Option (Int32 × SS) :=
  ob2 (k4_addLine F S (x1) (x2) (x3) (x4)) fun r_2 S_3 => bnd (r_2) fun x5_4 => if x5_4 = ((-1 : Int32)) then (some (x5_4, S_3)) else ((k2_forget F S_3 ).bind fun S_8 => (k3_forget F S_8 ).bind fun S_11 => some (x5_4, S_11))
set_option maxRecDepth 100000 in
set_option maxHeartbeats 4000000 in
theorem mk7_line {l : Launch} {D : va_G} {a : Nat → Nat} {g : Nat → ClassId} (hD : ∀ S, va_D (AK a) (wK a g S)) {F : Nat} {S : SS} {x1 x2 x3 x4 : Int32} {out : (Int32 × SS)} (hf : k7_line F S x1 x2 x3 x4 = some out) : Met l yX7_line (wsm yX7_line cX7_line 6 (some .int)) (RM 3) (PK D a g S [.ref (a 0), .int x1, .int x2, .int x3, .int x4]) (QK D a g (some (.int out.1)) out.2) 0 0 (AK a) := by
  refine Met.ofW (cc := cX7_line) (maxL := 6) (ret := (some .int)) (by decide) rfl ?_
  intro p e s m args below meth c s₁ B hml hv
  obtain ⟨rfl, hP, hK, hN⟩ := hv
  have hts := atoms_spec (ws := wsm yX7_line cX7_line 6 (some .int)) B.pre
  have E : EK p s m _ meth c D a g cX7_line 6 RX7 (some .int) := ⟨B.exec, B.bytes, B.returns, hml, findClass_of_methodNamed B.named, fun w h => hts w (List.mem_cons_of_mem _ h), hK, hN, hD, B.notSynchronized⟩
  have hx := E.hx
  have hb := E.hb
  have hw : WK D a g S s s.heap [] := ⟨hP, va_S.rf⟩
  have hl := lv_entry ([.ref (a 0), .int x1, .int x2, .int x3, .int x4]) (n := 6) (Nat.le_of_ble_eq_true rfl)
  rw [lg_entry_eq]
  generalize (lg_sl ([.ref (a 0), .int x1, .int x2, .int x3, .int x4]) ++ List.replicate (6 - (lg_sl ([.ref (a 0), .int x1, .int x2, .int x3, .int x4])).length) Slot.unset).toArray = ls at hl ⊢
  have hl : lv_has ls 6 [(0, .ref (a 0)), (1, .int (x1)), (2, .int (x2)), (3, .int (x3)), (4, .int (x4))] := hl
  show W p l e (RM 3) s m _ below meth c s.heap [] 0 0 (MQ below (QK D a g (some (.int out.1)) out.2) _ s 0 0 (AK a)) (F0 m 0 ls [])
  unfold k7_line at hf
  refine lv_aload_n hx hb dX7_line_0 rfl (lv_at hl 0 rfl) ?_
  refine gK_0_0 E hw (E.hts _ wl272) dX7_line_1 ?_
  refine lv_iload_n hx hb dX7_line_4 rfl (lv_at hl 1 rfl) ?_
  refine lv_iload_n hx hb dX7_line_5 rfl (lv_at hl 2 rfl) ?_
  refine lv_iload_n hx hb dX7_line_6 rfl (lv_at hl 3 rfl) ?_
  refine lv_iload hx hb dX7_line_7 (lv_at hl 4 rfl) ?_
  obtain ⟨r_2, S_3, h_1, hf⟩ := ob2_at hf
  refine qk4_addLine E hw (mk4_addLine E.hD h_1) wl307 dX7_line_9 ⟨Nat.le_of_ble_eq_true rfl, Nat.le_of_ble_eq_true rfl⟩ hl.1 (Nat.le_of_ble_eq_true rfl) ⟨Nat.le_refl 0, Nat.le_refl 0⟩ (fun H locs hw => ?_)
  refine lv_topi (fun x5_4 ex5_4 => ?_)
  replace hf := bnd_at hf ex5_4
  refine lv_istore (lv' := [(5, .int (x5_4)), (0, .ref (a 0)), (1, .int (x1)), (2, .int (x2)), (3, .int (x3)), (4, .int (x4))]) hx hb dX7_line_12 hl (by decide) rfl (fun ls hl => ?_)
  refine lv_iload hx hb dX7_line_14 (lv_at hl 0 rfl) ?_
  refine lv_iconst hx hb dX7_line_16 ic_m1 ?_
  refine lv_icmp_eq (tgt := 34) hx hb dX7_line_17 (by decide) (fun c_5 => ?_) (fun c_5 => ?_)
  · replace hf := ite_t hf c_5
    refine lv_iload hx hb dX7_line_34 (lv_at hl 0 rfl) ?_
    cases hf
    exact retK_i E hw dX7_line_36
  · replace hf := ite_f hf c_5
    refine lv_aload_n hx hb dX7_line_20 rfl (lv_at hl 1 rfl) ?_
    refine gK_0_3 E hw (E.hts _ wl275) dX7_line_21 ?_
    obtain ⟨S_8, h_6, hf⟩ := ob_at hf
    refine qk2_forget E hw (mk2_forget E.hD h_6) wl327 dX7_line_24 ⟨Nat.le_of_ble_eq_true rfl, Nat.le_of_ble_eq_true rfl⟩ hl.1 (Nat.le_of_ble_eq_true rfl) ⟨Nat.le_refl 0, Nat.le_refl 0⟩ (fun H locs hw => ?_)
    refine lv_aload_n hx hb dX7_line_27 rfl (lv_at hl 1 rfl) ?_
    refine gK_0_6 E hw (E.hts _ wl278) dX7_line_28 ?_
    obtain ⟨S_11, h_9, hf⟩ := ob_at hf
    refine qk3_forget E hw (mk3_forget E.hD h_9) wl331 dX7_line_31 ⟨Nat.le_of_ble_eq_true rfl, Nat.le_of_ble_eq_true rfl⟩ hl.1 (Nat.le_of_ble_eq_true rfl) ⟨Nat.le_refl 0, Nat.le_refl 0⟩ (fun H locs hw => ?_)
    refine lv_iload hx hb dX7_line_34 (lv_at hl 0 rfl) ?_
    cases hf
    exact retK_i E hw dX7_line_36
theorem qk7_line {p : Program} {l : Launch} {e : Env} {R : Room} {s : State} {m : MethodId} {args : Array Value} {below : List Frame} {meth : Method} {c : Code} {H : Heap} {locs : List Loc} {cells slots : Nat} {Q : State → Prop} {cc : ByteArray} {pc : Nat} {ls : Array Slot} {rest : List Value} {D : va_G} {a : Nat → Nat} {g : Nat → ClassId} {nL : Nat} {own : String} {ret : Option FieldType} {S S1 : SS} {k : Nat} {x1 x2 x3 x4 : Int32} {r : Int32} (E : EK p s m args meth c D a g cc nL own ret) (hw : WK D a g S s H locs) (hM : Met l yX7_line (wsm yX7_line cX7_line 6 (some .int)) (RM k) (PK D a g S [.ref (a 0), .int x1, .int x2, .int x3, .int x4]) (QK D a g (some (.int r)) S1) 0 0 (AK a)) {idx : Nat} (hlk : Cond.methodLink own idx yX7_line ∈ wd) (hdg : decode cc pc = .ok (.invokevirtual idx, 3)) (hR : k + 1 ≤ R.frames ∧ 8 + (6 + 11) + 64 * k ≤ R.locals) (hls : ls.size = nL) (hrest : (rest.map fun v => v.category).sum ≤ 8) (hcs : cells ≤ R.cells ∧ slots ≤ R.slots) (kk : ∀ (H1 : Heap) (locs1 : List Loc), WK D a g S1 s H1 locs1 → W p l e R s m args below meth c H1 locs1 cells slots Q (F0 m (pc + 3) ls (.int r :: rest))) : W p l e R s m args below meth c H locs cells slots Q (F0 m pc ls (.int x4 :: .int x3 :: .int x2 :: .int x1 :: .ref (a 0) :: rest)) :=
  callK_i hw (va_runV (As := [.int x1, .int x2, .int x3, .int x4]) (rest := rest) ⟨E.hx, E.hb, E.hml, E.hown, E.hts⟩ hM ⟨cb_of 4 E.hts wl306 wl35 hlk (by decide +kernel) hR, E.hts _ wl304, E.hts _ wl305⟩ ⟨PK_blind, va_recv E.hK hw.1 (ci := 7) (q0 := 0) rfl rfl, PK_pre E.hK E.hN hw.1⟩ rfl rfl hls rfl (lv_room hrest) hdg hcs) kk
/-! X4_milesBetween -/
def k4_milesBetween (F : Nat) (S : SS) (x1 : Int32) (x2 : Int32) : Option Int32 :=
  (k7_isJunction F S (x1)).bind fun r_2 => if r_2 = 0 then (some ((-1 : Int32))) else ((k7_isJunction F S (x2)).bind fun r_6 => if r_6 = 0 then (some ((-1 : Int32))) else ((rdA 144 (S 12) ((x1 * ((12 : Int32))) + x2)).bind fun v_9 => bnd (v_9) fun x3_10 => if x3_10 < ((1000000 : Int32)) then (some (x3_10)) else (some ((-1 : Int32)))))
set_option maxRecDepth 100000 in
set_option maxHeartbeats 4000000 in
theorem mk4_milesBetween {l : Launch} {D : va_G} {a : Nat → Nat} {g : Nat → ClassId} (hD : ∀ S, va_D (AK a) (wK a g S)) {F : Nat} {S : SS} {x1 x2 : Int32} {out : Int32} (hf : k4_milesBetween F S x1 x2 = some out) : Met l yX4_milesBetween (wsm yX4_milesBetween cX4_milesBetween 4 (some .int)) (RM 2) (PK D a g S [.ref (a 1), .int x1, .int x2]) (QK D a g (some (.int out)) S) 0 0 (AK a) := by
  refine Met.ofW (cc := cX4_milesBetween) (maxL := 4) (ret := (some .int)) (by decide) rfl ?_
  intro p e s m args below meth c s₁ B hml hv
  obtain ⟨rfl, hP, hK, hN⟩ := hv
  have hts := atoms_spec (ws := wsm yX4_milesBetween cX4_milesBetween 4 (some .int)) B.pre
  have E : EK p s m _ meth c D a g cX4_milesBetween 4 RX4 (some .int) := ⟨B.exec, B.bytes, B.returns, hml, findClass_of_methodNamed B.named, fun w h => hts w (List.mem_cons_of_mem _ h), hK, hN, hD, B.notSynchronized⟩
  have hx := E.hx
  have hb := E.hb
  have hw : WK D a g S s s.heap [] := ⟨hP, va_S.rf⟩
  have hl := lv_entry ([.ref (a 1), .int x1, .int x2]) (n := 4) (Nat.le_of_ble_eq_true rfl)
  rw [lg_entry_eq]
  generalize (lg_sl ([.ref (a 1), .int x1, .int x2]) ++ List.replicate (4 - (lg_sl ([.ref (a 1), .int x1, .int x2])).length) Slot.unset).toArray = ls at hl ⊢
  have hl : lv_has ls 4 [(0, .ref (a 1)), (1, .int (x1)), (2, .int (x2))] := hl
  show W p l e (RM 2) s m _ below meth c s.heap [] 0 0 (MQ below (QK D a g (some (.int out)) S) _ s 0 0 (AK a)) (F0 m 0 ls [])
  unfold k4_milesBetween at hf
  refine lv_iload_n hx hb dX4_milesBetween_0 rfl (lv_at hl 1 rfl) ?_
  obtain ⟨r_2, h_1, hf⟩ := ob_at hf
  refine qnk7_isJunction E hw (mk7_isJunction E.hD h_1) nw2 dX4_milesBetween_1 ⟨Nat.le_of_ble_eq_true rfl, Nat.le_of_ble_eq_true rfl⟩ hl.1 (Nat.le_of_ble_eq_true rfl) ⟨Nat.le_refl 0, Nat.le_refl 0⟩ (fun H locs hw => ?_)
  refine lv_if_eq (tgt := 14) hx hb dX4_milesBetween_4 (by decide) (fun c_4 => ?_) (fun c_4 => ?_)
  · replace hf := ite_t hf c_4
    refine lv_iconst hx hb dX4_milesBetween_14 ic_m1 ?_
    cases hf
    exact retK_i E hw dX4_milesBetween_15
  · replace hf := ite_f hf c_4
    refine lv_iload_n hx hb dX4_milesBetween_7 rfl (lv_at hl 2 rfl) ?_
    obtain ⟨r_6, h_5, hf⟩ := ob_at hf
    refine qnk7_isJunction E hw (mk7_isJunction E.hD h_5) nw2 dX4_milesBetween_8 ⟨Nat.le_of_ble_eq_true rfl, Nat.le_of_ble_eq_true rfl⟩ hl.1 (Nat.le_of_ble_eq_true rfl) ⟨Nat.le_refl 0, Nat.le_refl 0⟩ (fun H locs hw => ?_)
    refine lv_if_ne (tgt := 16) hx hb dX4_milesBetween_11 (by decide) (fun c_8 => ?_) (fun c_8 => ?_)
    · replace hf := ite_f hf c_8
      refine lv_aload_n hx hb dX4_milesBetween_16 rfl (lv_at hl 0 rfl) ?_
      refine gK_1_4 E hw (E.hts _ wl72) dX4_milesBetween_17 ?_
      refine lv_iload_n hx hb dX4_milesBetween_20 rfl (lv_at hl 1 rfl) ?_
      refine lv_bipush hx hb dX4_milesBetween_21 bp_12 ?_
      refine lv_imul hx hb dX4_milesBetween_23 ?_
      refine lv_iload_n hx hb dX4_milesBetween_24 rfl (lv_at hl 2 rfl) ?_
      refine lv_iadd hx hb dX4_milesBetween_25 ?_
      obtain ⟨h_v_9, hf⟩ := rdA_at hf
      refine lK_12 E hw h_v_9 dX4_milesBetween_26 (fun v_9 ev_9 => ?_)
      replace hf := hf v_9 ev_9
      refine lv_topi (fun x3_10 ex3_10 => ?_)
      replace hf := bnd_at hf ex3_10
      refine lv_istore_n (lv' := [(3, .int (x3_10)), (0, .ref (a 1)), (1, .int (x1)), (2, .int (x2))]) hx hb dX4_milesBetween_27 rfl hl (by decide) rfl (fun ls hl => ?_)
      refine lv_iload_n hx hb dX4_milesBetween_28 rfl (lv_at hl 0 rfl) ?_
      refine lv_ldc hx hb E.hown (E.hts _ wl62) dX4_milesBetween_29 ?_
      refine lv_icmp_lt (tgt := 38) hx hb dX4_milesBetween_31 (by decide) (fun c_11 => ?_) (fun c_11 => ?_)
      · replace hf := ite_t hf c_11
        refine lv_iload_n hx hb dX4_milesBetween_38 rfl (lv_at hl 0 rfl) ?_
        cases hf
        exact retK_i E hw dX4_milesBetween_39
      · replace hf := ite_f hf c_11
        refine lv_iconst hx hb dX4_milesBetween_34 ic_m1 ?_
        refine lv_goto (tgt := 39) hx hb dX4_milesBetween_35 (by decide) ?_
        cases hf
        exact retK_i E hw dX4_milesBetween_39
    · replace hf := ite_t hf c_8
      refine lv_iconst hx hb dX4_milesBetween_14 ic_m1 ?_
      cases hf
      exact retK_i E hw dX4_milesBetween_15
theorem qk4_milesBetween {p : Program} {l : Launch} {e : Env} {R : Room} {s : State} {m : MethodId} {args : Array Value} {below : List Frame} {meth : Method} {c : Code} {H : Heap} {locs : List Loc} {cells slots : Nat} {Q : State → Prop} {cc : ByteArray} {pc : Nat} {ls : Array Slot} {rest : List Value} {D : va_G} {a : Nat → Nat} {g : Nat → ClassId} {nL : Nat} {own : String} {ret : Option FieldType} {S S1 : SS} {k : Nat} {x1 x2 : Int32} {r : Int32} (E : EK p s m args meth c D a g cc nL own ret) (hw : WK D a g S s H locs) (hM : Met l yX4_milesBetween (wsm yX4_milesBetween cX4_milesBetween 4 (some .int)) (RM k) (PK D a g S [.ref (a 1), .int x1, .int x2]) (QK D a g (some (.int r)) S1) 0 0 (AK a)) {idx : Nat} (hlk : Cond.methodLink own idx yX4_milesBetween ∈ wd) (hdg : decode cc pc = .ok (.invokevirtual idx, 3)) (hR : k + 1 ≤ R.frames ∧ 8 + (4 + 11) + 64 * k ≤ R.locals) (hls : ls.size = nL) (hrest : (rest.map fun v => v.category).sum ≤ 8) (hcs : cells ≤ R.cells ∧ slots ≤ R.slots) (kk : ∀ (H1 : Heap) (locs1 : List Loc), WK D a g S1 s H1 locs1 → W p l e R s m args below meth c H1 locs1 cells slots Q (F0 m (pc + 3) ls (.int r :: rest))) : W p l e R s m args below meth c H locs cells slots Q (F0 m pc ls (.int x2 :: .int x1 :: .ref (a 1) :: rest)) :=
  callK_i hw (va_runV (As := [.int x1, .int x2]) (rest := rest) ⟨E.hx, E.hb, E.hml, E.hown, E.hts⟩ hM ⟨cb_of 2 E.hts wl342 wl36 hlk (by decide +kernel) hR, E.hts _ wl340, E.hts _ wl341⟩ ⟨PK_blind, va_recv E.hK hw.1 (ci := 4) (q0 := 1) rfl rfl, PK_pre E.hK E.hN hw.1⟩ rfl rfl hls rfl (lv_room hrest) hdg hcs) kk
/-! X7_least -/
def k7_least (F : Nat) (S : SS) (x1 : Int32) (x2 : Int32) : Option Int32 :=
  (k4_milesBetween F S (x1) (x2)).bind fun r_2 => some (r_2)
set_option maxRecDepth 100000 in
set_option maxHeartbeats 4000000 in
theorem mk7_least {l : Launch} {D : va_G} {a : Nat → Nat} {g : Nat → ClassId} (hD : ∀ S, va_D (AK a) (wK a g S)) {F : Nat} {S : SS} {x1 x2 : Int32} {out : Int32} (hf : k7_least F S x1 x2 = some out) : Met l yX7_least (wsm yX7_least cX7_least 3 (some .int)) (RM 3) (PK D a g S [.ref (a 0), .int x1, .int x2]) (QK D a g (some (.int out)) S) 0 0 (AK a) := by
  refine Met.ofW (cc := cX7_least) (maxL := 3) (ret := (some .int)) (by decide) rfl ?_
  intro p e s m args below meth c s₁ B hml hv
  obtain ⟨rfl, hP, hK, hN⟩ := hv
  have hts := atoms_spec (ws := wsm yX7_least cX7_least 3 (some .int)) B.pre
  have E : EK p s m _ meth c D a g cX7_least 3 RX7 (some .int) := ⟨B.exec, B.bytes, B.returns, hml, findClass_of_methodNamed B.named, fun w h => hts w (List.mem_cons_of_mem _ h), hK, hN, hD, B.notSynchronized⟩
  have hx := E.hx
  have hb := E.hb
  have hw : WK D a g S s s.heap [] := ⟨hP, va_S.rf⟩
  have hl := lv_entry ([.ref (a 0), .int x1, .int x2]) (n := 3) (Nat.le_of_ble_eq_true rfl)
  rw [lg_entry_eq]
  generalize (lg_sl ([.ref (a 0), .int x1, .int x2]) ++ List.replicate (3 - (lg_sl ([.ref (a 0), .int x1, .int x2])).length) Slot.unset).toArray = ls at hl ⊢
  have hl : lv_has ls 3 [(0, .ref (a 0)), (1, .int (x1)), (2, .int (x2))] := hl
  show W p l e (RM 3) s m _ below meth c s.heap [] 0 0 (MQ below (QK D a g (some (.int out)) S) _ s 0 0 (AK a)) (F0 m 0 ls [])
  unfold k7_least at hf
  refine lv_aload_n hx hb dX7_least_0 rfl (lv_at hl 0 rfl) ?_
  refine gK_0_0 E hw (E.hts _ wl272) dX7_least_1 ?_
  refine lv_iload_n hx hb dX7_least_4 rfl (lv_at hl 1 rfl) ?_
  refine lv_iload_n hx hb dX7_least_5 rfl (lv_at hl 2 rfl) ?_
  obtain ⟨r_2, h_1, hf⟩ := ob_at hf
  refine qk4_milesBetween E hw (mk4_milesBetween E.hD h_1) wl339 dX7_least_6 ⟨Nat.le_of_ble_eq_true rfl, Nat.le_of_ble_eq_true rfl⟩ hl.1 (Nat.le_of_ble_eq_true rfl) ⟨Nat.le_refl 0, Nat.le_refl 0⟩ (fun H locs hw => ?_)
  cases hf
  exact retK_i E hw dX7_least_9
theorem qk7_least {p : Program} {l : Launch} {e : Env} {R : Room} {s : State} {m : MethodId} {args : Array Value} {below : List Frame} {meth : Method} {c : Code} {H : Heap} {locs : List Loc} {cells slots : Nat} {Q : State → Prop} {cc : ByteArray} {pc : Nat} {ls : Array Slot} {rest : List Value} {D : va_G} {a : Nat → Nat} {g : Nat → ClassId} {nL : Nat} {own : String} {ret : Option FieldType} {S S1 : SS} {k : Nat} {x1 x2 : Int32} {r : Int32} (E : EK p s m args meth c D a g cc nL own ret) (hw : WK D a g S s H locs) (hM : Met l yX7_least (wsm yX7_least cX7_least 3 (some .int)) (RM k) (PK D a g S [.ref (a 0), .int x1, .int x2]) (QK D a g (some (.int r)) S1) 0 0 (AK a)) {idx : Nat} (hlk : Cond.methodLink own idx yX7_least ∈ wd) (hdg : decode cc pc = .ok (.invokevirtual idx, 3)) (hR : k + 1 ≤ R.frames ∧ 8 + (3 + 11) + 64 * k ≤ R.locals) (hls : ls.size = nL) (hrest : (rest.map fun v => v.category).sum ≤ 8) (hcs : cells ≤ R.cells ∧ slots ≤ R.slots) (kk : ∀ (H1 : Heap) (locs1 : List Loc), WK D a g S1 s H1 locs1 → W p l e R s m args below meth c H1 locs1 cells slots Q (F0 m (pc + 3) ls (.int r :: rest))) : W p l e R s m args below meth c H locs cells slots Q (F0 m pc ls (.int x2 :: .int x1 :: .ref (a 0) :: rest)) :=
  callK_i hw (va_runV (As := [.int x1, .int x2]) (rest := rest) ⟨E.hx, E.hb, E.hml, E.hown, E.hts⟩ hM ⟨cb_of 2 E.hts wl338 wl35 hlk (by decide +kernel) hR, E.hts _ wl336, E.hts _ wl337⟩ ⟨PK_blind, va_recv E.hK hw.1 (ci := 7) (q0 := 0) rfl rfl, PK_pre E.hK E.hN hw.1⟩ rfl rfl hls rfl (lv_room hrest) hdg hcs) kk
/-! X4_farEnd -/
def k4_farEnd (F : Nat) (S : SS) (x1 : Int32) (x2 : Int32) : Option Int32 :=
  if x1 < 0 then (some ((-1 : Int32))) else (if x1 < (S 1 5) then ((rdA 24 (S 8) x1).bind fun v_3 => if v_3 = x2 then ((rdA 24 (S 9) x1).bind fun v_8 => some (v_8)) else ((rdA 24 (S 9) x1).bind fun v_5 => if v_5 = x2 then ((rdA 24 (S 8) x1).bind fun v_7 => some (v_7)) else (some ((-1 : Int32))))) else (some ((-1 : Int32))))
set_option maxRecDepth 100000 in
set_option maxHeartbeats 4000000 in
theorem mk4_farEnd {l : Launch} {D : va_G} {a : Nat → Nat} {g : Nat → ClassId} (hD : ∀ S, va_D (AK a) (wK a g S)) {F : Nat} {S : SS} {x1 x2 : Int32} {out : Int32} (hf : k4_farEnd F S x1 x2 = some out) : Met l yX4_farEnd (wsm yX4_farEnd cX4_farEnd 3 (some .int)) (RM 1) (PK D a g S [.ref (a 1), .int x1, .int x2]) (QK D a g (some (.int out)) S) 0 0 (AK a) := by
  refine Met.ofW (cc := cX4_farEnd) (maxL := 3) (ret := (some .int)) (by decide) rfl ?_
  intro p e s m args below meth c s₁ B hml hv
  obtain ⟨rfl, hP, hK, hN⟩ := hv
  have hts := atoms_spec (ws := wsm yX4_farEnd cX4_farEnd 3 (some .int)) B.pre
  have E : EK p s m _ meth c D a g cX4_farEnd 3 RX4 (some .int) := ⟨B.exec, B.bytes, B.returns, hml, findClass_of_methodNamed B.named, fun w h => hts w (List.mem_cons_of_mem _ h), hK, hN, hD, B.notSynchronized⟩
  have hx := E.hx
  have hb := E.hb
  have hw : WK D a g S s s.heap [] := ⟨hP, va_S.rf⟩
  have hl := lv_entry ([.ref (a 1), .int x1, .int x2]) (n := 3) (Nat.le_of_ble_eq_true rfl)
  rw [lg_entry_eq]
  generalize (lg_sl ([.ref (a 1), .int x1, .int x2]) ++ List.replicate (3 - (lg_sl ([.ref (a 1), .int x1, .int x2])).length) Slot.unset).toArray = ls at hl ⊢
  have hl : lv_has ls 3 [(0, .ref (a 1)), (1, .int (x1)), (2, .int (x2))] := hl
  show W p l e (RM 1) s m _ below meth c s.heap [] 0 0 (MQ below (QK D a g (some (.int out)) S) _ s 0 0 (AK a)) (F0 m 0 ls [])
  unfold k4_farEnd at hf
  refine lv_iload_n hx hb dX4_farEnd_0 rfl (lv_at hl 1 rfl) ?_
  refine lv_if_lt (tgt := 12) hx hb dX4_farEnd_1 (by decide) (fun c_1 => ?_) (fun c_1 => ?_)
  · replace hf := ite_t hf c_1
    refine lv_iconst hx hb dX4_farEnd_12 ic_m1 ?_
    cases hf
    exact retK_i E hw dX4_farEnd_13
  · replace hf := ite_f hf c_1
    refine lv_iload_n hx hb dX4_farEnd_4 rfl (lv_at hl 1 rfl) ?_
    refine lv_aload_n hx hb dX4_farEnd_5 rfl (lv_at hl 0 rfl) ?_
    refine gK_1_5 E hw (E.hts _ wl75) dX4_farEnd_6 ?_
    refine lv_icmp_lt (tgt := 14) hx hb dX4_farEnd_9 (by decide) (fun c_2 => ?_) (fun c_2 => ?_)
    · replace hf := ite_t hf c_2
      refine lv_aload_n hx hb dX4_farEnd_14 rfl (lv_at hl 0 rfl) ?_
      refine gK_1_0 E hw (E.hts _ wl66) dX4_farEnd_15 ?_
      refine lv_iload_n hx hb dX4_farEnd_18 rfl (lv_at hl 1 rfl) ?_
      obtain ⟨h_v_3, hf⟩ := rdA_at hf
      refine lK_8 E hw h_v_3 dX4_farEnd_19 (fun v_3 ev_3 => ?_)
      replace hf := hf v_3 ev_3
      refine lv_iload_n hx hb dX4_farEnd_20 rfl (lv_at hl 2 rfl) ?_
      refine lv_icmp_ne (tgt := 31) hx hb dX4_farEnd_21 (by decide) (fun c_4 => ?_) (fun c_4 => ?_)
      · replace hf := ite_f hf c_4
        refine lv_aload_n hx hb dX4_farEnd_31 rfl (lv_at hl 0 rfl) ?_
        refine gK_1_1 E hw (E.hts _ wl67) dX4_farEnd_32 ?_
        refine lv_iload_n hx hb dX4_farEnd_35 rfl (lv_at hl 1 rfl) ?_
        obtain ⟨h_v_5, hf⟩ := rdA_at hf
        refine lK_9 E hw h_v_5 dX4_farEnd_36 (fun v_5 ev_5 => ?_)
        replace hf := hf v_5 ev_5
        refine lv_iload_n hx hb dX4_farEnd_37 rfl (lv_at hl 2 rfl) ?_
        refine lv_icmp_ne (tgt := 50) hx hb dX4_farEnd_38 (by decide) (fun c_6 => ?_) (fun c_6 => ?_)
        · replace hf := ite_f hf c_6
          refine lv_iconst hx hb dX4_farEnd_50 ic_m1 ?_
          cases hf
          exact retK_i E hw dX4_farEnd_51
        · replace hf := ite_t hf c_6
          refine lv_aload_n hx hb dX4_farEnd_41 rfl (lv_at hl 0 rfl) ?_
          refine gK_1_0 E hw (E.hts _ wl66) dX4_farEnd_42 ?_
          refine lv_iload_n hx hb dX4_farEnd_45 rfl (lv_at hl 1 rfl) ?_
          obtain ⟨h_v_7, hf⟩ := rdA_at hf
          refine lK_8 E hw h_v_7 dX4_farEnd_46 (fun v_7 ev_7 => ?_)
          replace hf := hf v_7 ev_7
          refine lv_goto (tgt := 51) hx hb dX4_farEnd_47 (by decide) ?_
          cases hf
          exact retK_i E hw dX4_farEnd_51
      · replace hf := ite_t hf c_4
        refine lv_aload_n hx hb dX4_farEnd_24 rfl (lv_at hl 0 rfl) ?_
        refine gK_1_1 E hw (E.hts _ wl67) dX4_farEnd_25 ?_
        refine lv_iload_n hx hb dX4_farEnd_28 rfl (lv_at hl 1 rfl) ?_
        obtain ⟨h_v_8, hf⟩ := rdA_at hf
        refine lK_9 E hw h_v_8 dX4_farEnd_29 (fun v_8 ev_8 => ?_)
        replace hf := hf v_8 ev_8
        cases hf
        exact retK_i E hw dX4_farEnd_30
    · replace hf := ite_f hf c_2
      refine lv_iconst hx hb dX4_farEnd_12 ic_m1 ?_
      cases hf
      exact retK_i E hw dX4_farEnd_13
theorem qk4_farEnd {p : Program} {l : Launch} {e : Env} {R : Room} {s : State} {m : MethodId} {args : Array Value} {below : List Frame} {meth : Method} {c : Code} {H : Heap} {locs : List Loc} {cells slots : Nat} {Q : State → Prop} {cc : ByteArray} {pc : Nat} {ls : Array Slot} {rest : List Value} {D : va_G} {a : Nat → Nat} {g : Nat → ClassId} {nL : Nat} {own : String} {ret : Option FieldType} {S S1 : SS} {k : Nat} {x1 x2 : Int32} {r : Int32} (E : EK p s m args meth c D a g cc nL own ret) (hw : WK D a g S s H locs) (hM : Met l yX4_farEnd (wsm yX4_farEnd cX4_farEnd 3 (some .int)) (RM k) (PK D a g S [.ref (a 1), .int x1, .int x2]) (QK D a g (some (.int r)) S1) 0 0 (AK a)) {idx : Nat} (hlk : Cond.methodLink own idx yX4_farEnd ∈ wd) (hdg : decode cc pc = .ok (.invokevirtual idx, 3)) (hR : k + 1 ≤ R.frames ∧ 8 + (3 + 11) + 64 * k ≤ R.locals) (hls : ls.size = nL) (hrest : (rest.map fun v => v.category).sum ≤ 8) (hcs : cells ≤ R.cells ∧ slots ≤ R.slots) (kk : ∀ (H1 : Heap) (locs1 : List Loc), WK D a g S1 s H1 locs1 → W p l e R s m args below meth c H1 locs1 cells slots Q (F0 m (pc + 3) ls (.int r :: rest))) : W p l e R s m args below meth c H locs cells slots Q (F0 m pc ls (.int x2 :: .int x1 :: .ref (a 1) :: rest)) :=
  callK_i hw (va_runV (As := [.int x1, .int x2]) (rest := rest) ⟨E.hx, E.hb, E.hml, E.hown, E.hts⟩ hM ⟨cb_of 2 E.hts wl355 wl36 hlk (by decide +kernel) hR, E.hts _ wl353, E.hts _ wl354⟩ ⟨PK_blind, va_recv E.hK hw.1 (ci := 4) (q0 := 1) rfl rfl, PK_pre E.hK E.hN hw.1⟩ rfl rfl hls rfl (lv_room hrest) hdg hcs) kk
/-! X4_lineTowards -/
def k4_lineTowards_B29 (F : Nat) (S : SS) (x1 : Int32) (x2 : Int32) (x3 : Int32) (rec29 : Int32 → Int32 → Int32 → Option Int32) (x4 : Int32) (x5 : Int32) (x6 : Int32) : Option Int32 :=
  if (S 1 5) ≤ x6 then (some (x4)) else ((k4_farEnd F S (x6) (x1)).bind fun r_12 => bnd (r_12) fun x7_14 => if x7_14 = ((-1 : Int32)) then (bnd (x6 + (1)) fun x6_16 => rec29 (x4) (x5) (x6_16)) else (if x5 ≤ x7_14 then (bnd (x6 + (1)) fun x6_18 => rec29 (x4) (x5) (x6_18)) else ((rdA 24 (S 11) x6).bind fun v_19 => (rdA 144 (S 12) ((x7_14 * ((12 : Int32))) + x2)).bind fun v_20 => if (v_19 + v_20) = x3 then (bnd (x6) fun x4_23 => bnd (x7_14) fun x5_24 => bnd (x6 + (1)) fun x6_25 => rec29 (x4_23) (x5_24) (x6_25)) else (bnd (x6 + (1)) fun x6_22 => rec29 (x4) (x5) (x6_22)))))
def k4_lineTowards (F : Nat) (S : SS) (x1 : Int32) (x2 : Int32) : Option Int32 :=
  (k4_milesBetween F S (x1) (x2)).bind fun r_2 => bnd (r_2) fun x3_4 => if x3_4 = ((-1 : Int32)) then (some ((-1 : Int32))) else (if x1 = x2 then (some ((-1 : Int32))) else (bnd ((-1 : Int32)) fun x4_7 => bnd ((12 : Int32)) fun x5_8 => bnd ((0 : Int32)) fun x6_9 => lpN (fun _ _ _ => none) (fun rec29 => k4_lineTowards_B29 F S (x1) (x2) (x3_4) rec29 ) F (x4_7) (x5_8) (x6_9)))
set_option maxRecDepth 100000 in
set_option maxHeartbeats 4000000 in
theorem k4_lineTowards_b29 {p : Program} {l : Launch} {e : Env} {s : State} {m : MethodId} {args : Array Value} {below : List Frame} {meth : Method} {c : Code} {D : va_G} {a : Nat → Nat} {g : Nat → ClassId} (E : EK p s m args meth c D a g cX4_lineTowards 8 RX4 (some .int)) {F : Nat}  (S : SS) (x1 : Int32) (x2 : Int32) (x3 : Int32) {rec29 : Int32 → Int32 → Int32 → Option Int32} {out : Int32} (hrec29 : ∀ (x4 : Int32) (x5 : Int32) (x6 : Int32) (H : Heap) (locs : List Loc) (ls : Array Slot), rec29 x4 x5 x6 = some out → WK D a g S s H locs → lv_has ls 8 [(0, .ref (a 1)), (1, .int (x1)), (2, .int (x2)), (3, .int (x3)), (4, .int (x4)), (5, .int (x5)), (6, .int (x6))] → W p l e (RM 3) s m args below meth c H locs 0 0 (MQ below (QK D a g (some (.int out)) S) args s 0 0 (AK a)) (F0 m 29 ls []))  (x4 : Int32) (x5 : Int32) (x6 : Int32) (H : Heap) (locs : List Loc) (ls : Array Slot) (hf : k4_lineTowards_B29 F S x1 x2 x3 rec29 x4 x5 x6 = some out) (hw : WK D a g S s H locs) (hl : lv_has ls 8 [(0, .ref (a 1)), (1, .int (x1)), (2, .int (x2)), (3, .int (x3)), (4, .int (x4)), (5, .int (x5)), (6, .int (x6))]) : W p l e (RM 3) s m args below meth c H locs 0 0 (MQ below (QK D a g (some (.int out)) S) args s 0 0 (AK a)) (F0 m 29 ls []) := by
  have hx := E.hx
  have hb := E.hb
  unfold k4_lineTowards_B29 at hf
  refine lv_iload hx hb dX4_lineTowards_29 (lv_at hl 6 rfl) ?_
  refine lv_aload_n hx hb dX4_lineTowards_31 rfl (lv_at hl 0 rfl) ?_
  refine gK_1_5 E hw (E.hts _ wl75) dX4_lineTowards_32 ?_
  refine lv_icmp_ge (tgt := 98) hx hb dX4_lineTowards_35 (by decide) (fun c_10 => ?_) (fun c_10 => ?_)
  · replace hf := ite_t hf c_10
    refine lv_iload hx hb dX4_lineTowards_98 (lv_at hl 4 rfl) ?_
    cases hf
    exact retK_i E hw dX4_lineTowards_100
  · replace hf := ite_f hf c_10
    refine lv_aload_n hx hb dX4_lineTowards_38 rfl (lv_at hl 0 rfl) ?_
    refine lv_iload hx hb dX4_lineTowards_39 (lv_at hl 6 rfl) ?_
    refine lv_iload_n hx hb dX4_lineTowards_41 rfl (lv_at hl 1 rfl) ?_
    obtain ⟨r_12, h_11, hf⟩ := ob_at hf
    refine qk4_farEnd E hw (mk4_farEnd E.hD h_11) wl352 dX4_lineTowards_42 ⟨Nat.le_of_ble_eq_true rfl, Nat.le_of_ble_eq_true rfl⟩ hl.1 (Nat.le_of_ble_eq_true rfl) ⟨Nat.le_refl 0, Nat.le_refl 0⟩ (fun H locs hw => ?_)
    refine lv_topi (fun x7_14 ex7_14 => ?_)
    replace hf := bnd_at hf ex7_14
    refine lv_istore (lv' := [(7, .int (x7_14)), (0, .ref (a 1)), (1, .int (x1)), (2, .int (x2)), (3, .int (x3)), (4, .int (x4)), (5, .int (x5)), (6, .int (x6))]) hx hb dX4_lineTowards_45 hl (by decide) rfl (fun ls hl => ?_)
    refine lv_iload hx hb dX4_lineTowards_47 (lv_at hl 0 rfl) ?_
    refine lv_iconst hx hb dX4_lineTowards_49 ic_m1 ?_
    refine lv_icmp_eq (tgt := 92) hx hb dX4_lineTowards_50 (by decide) (fun c_15 => ?_) (fun c_15 => ?_)
    · replace hf := ite_t hf c_15
      obtain ⟨x6_16, ex6_16⟩ : ∃ y : Int32, y = x6 + (1) := ⟨_, rfl⟩
      replace hf := bnd_at hf ex6_16
      refine lv_iinc (v := x6_16) (lv' := [(6, .int (x6_16)), (7, .int (x7_14)), (0, .ref (a 1)), (1, .int (x1)), (2, .int (x2)), (3, .int (x3)), (4, .int (x4)), (5, .int (x5))]) hx hb dX4_lineTowards_92 hl (k := 7) rfl (by rw [ex6_16]; rfl) (by decide) rfl (fun ls hl => ?_)
      refine lv_goto (tgt := 29) hx hb dX4_lineTowards_95 (by decide) ?_
      exact hrec29 (x4) (x5) (x6_16) _ _ ls hf hw (lv_sub hl [2, 3, 4, 5, 6, 7, 0] rfl)
    · replace hf := ite_f hf c_15
      refine lv_iload hx hb dX4_lineTowards_53 (lv_at hl 0 rfl) ?_
      refine lv_iload hx hb dX4_lineTowards_55 (lv_at hl 6 rfl) ?_
      refine lv_icmp_ge (tgt := 92) hx hb dX4_lineTowards_57 (by decide) (fun c_17 => ?_) (fun c_17 => ?_)
      · replace hf := ite_t hf c_17
        obtain ⟨x6_18, ex6_18⟩ : ∃ y : Int32, y = x6 + (1) := ⟨_, rfl⟩
        replace hf := bnd_at hf ex6_18
        refine lv_iinc (v := x6_18) (lv' := [(6, .int (x6_18)), (7, .int (x7_14)), (0, .ref (a 1)), (1, .int (x1)), (2, .int (x2)), (3, .int (x3)), (4, .int (x4)), (5, .int (x5))]) hx hb dX4_lineTowards_92 hl (k := 7) rfl (by rw [ex6_18]; rfl) (by decide) rfl (fun ls hl => ?_)
        refine lv_goto (tgt := 29) hx hb dX4_lineTowards_95 (by decide) ?_
        exact hrec29 (x4) (x5) (x6_18) _ _ ls hf hw (lv_sub hl [2, 3, 4, 5, 6, 7, 0] rfl)
      · replace hf := ite_f hf c_17
        refine lv_aload_n hx hb dX4_lineTowards_60 rfl (lv_at hl 1 rfl) ?_
        refine gK_1_3 E hw (E.hts _ wl70) dX4_lineTowards_61 ?_
        refine lv_iload hx hb dX4_lineTowards_64 (lv_at hl 7 rfl) ?_
        obtain ⟨h_v_19, hf⟩ := rdA_at hf
        refine lK_11 E hw h_v_19 dX4_lineTowards_66 (fun v_19 ev_19 => ?_)
        replace hf := hf v_19 ev_19
        refine lv_aload_n hx hb dX4_lineTowards_67 rfl (lv_at hl 1 rfl) ?_
        refine gK_1_4 E hw (E.hts _ wl72) dX4_lineTowards_68 ?_
        refine lv_iload hx hb dX4_lineTowards_71 (lv_at hl 0 rfl) ?_
        refine lv_bipush hx hb dX4_lineTowards_73 bp_12 ?_
        refine lv_imul hx hb dX4_lineTowards_75 ?_
        refine lv_iload_n hx hb dX4_lineTowards_76 rfl (lv_at hl 3 rfl) ?_
        refine lv_iadd hx hb dX4_lineTowards_77 ?_
        obtain ⟨h_v_20, hf⟩ := rdA_at hf
        refine lK_12 E hw h_v_20 dX4_lineTowards_78 (fun v_20 ev_20 => ?_)
        replace hf := hf v_20 ev_20
        refine lv_iadd hx hb dX4_lineTowards_79 ?_
        refine lv_iload_n hx hb dX4_lineTowards_80 rfl (lv_at hl 4 rfl) ?_
        refine lv_icmp_ne (tgt := 92) hx hb dX4_lineTowards_81 (by decide) (fun c_21 => ?_) (fun c_21 => ?_)
        · replace hf := ite_f hf c_21
          obtain ⟨x6_22, ex6_22⟩ : ∃ y : Int32, y = x6 + (1) := ⟨_, rfl⟩
          replace hf := bnd_at hf ex6_22
          refine lv_iinc (v := x6_22) (lv' := [(6, .int (x6_22)), (7, .int (x7_14)), (0, .ref (a 1)), (1, .int (x1)), (2, .int (x2)), (3, .int (x3)), (4, .int (x4)), (5, .int (x5))]) hx hb dX4_lineTowards_92 hl (k := 7) rfl (by rw [ex6_22]; rfl) (by decide) rfl (fun ls hl => ?_)
          refine lv_goto (tgt := 29) hx hb dX4_lineTowards_95 (by decide) ?_
          exact hrec29 (x4) (x5) (x6_22) _ _ ls hf hw (lv_sub hl [2, 3, 4, 5, 6, 7, 0] rfl)
        · replace hf := ite_t hf c_21
          refine lv_iload hx hb dX4_lineTowards_84 (lv_at hl 7 rfl) ?_
          refine lv_topi (fun x4_23 ex4_23 => ?_)
          replace hf := bnd_at hf ex4_23
          refine lv_istore (lv' := [(4, .int (x4_23)), (7, .int (x7_14)), (0, .ref (a 1)), (1, .int (x1)), (2, .int (x2)), (3, .int (x3)), (5, .int (x5)), (6, .int (x6))]) hx hb dX4_lineTowards_86 hl (by decide) rfl (fun ls hl => ?_)
          refine lv_iload hx hb dX4_lineTowards_88 (lv_at hl 1 rfl) ?_
          refine lv_topi (fun x5_24 ex5_24 => ?_)
          replace hf := bnd_at hf ex5_24
          refine lv_istore (lv' := [(5, .int (x5_24)), (4, .int (x4_23)), (7, .int (x7_14)), (0, .ref (a 1)), (1, .int (x1)), (2, .int (x2)), (3, .int (x3)), (6, .int (x6))]) hx hb dX4_lineTowards_90 hl (by decide) rfl (fun ls hl => ?_)
          obtain ⟨x6_25, ex6_25⟩ : ∃ y : Int32, y = x6 + (1) := ⟨_, rfl⟩
          replace hf := bnd_at hf ex6_25
          refine lv_iinc (v := x6_25) (lv' := [(6, .int (x6_25)), (5, .int (x5_24)), (4, .int (x4_23)), (7, .int (x7_14)), (0, .ref (a 1)), (1, .int (x1)), (2, .int (x2)), (3, .int (x3))]) hx hb dX4_lineTowards_92 hl (k := 7) rfl (by rw [ex6_25]; rfl) (by decide) rfl (fun ls hl => ?_)
          refine lv_goto (tgt := 29) hx hb dX4_lineTowards_95 (by decide) ?_
          exact hrec29 (x4_23) (x5_24) (x6_25) _ _ ls hf hw (lv_sub hl [4, 5, 6, 7, 2, 1, 0] rfl)
theorem k4_lineTowards_l29 {p : Program} {l : Launch} {e : Env} {s : State} {m : MethodId} {args : Array Value} {below : List Frame} {meth : Method} {c : Code} {D : va_G} {a : Nat → Nat} {g : Nat → ClassId} (E : EK p s m args meth c D a g cX4_lineTowards 8 RX4 (some .int)) {F : Nat}  (S : SS) (x1 : Int32) (x2 : Int32) (x3 : Int32) {out : Int32}  : ∀ (n : Nat) (x4 : Int32) (x5 : Int32) (x6 : Int32) (H : Heap) (locs : List Loc) (ls : Array Slot), lpN (fun _ _ _ => none) (fun rec29 => k4_lineTowards_B29 F S x1 x2 x3 rec29) n x4 x5 x6 = some out → WK D a g S s H locs → lv_has ls 8 [(0, .ref (a 1)), (1, .int (x1)), (2, .int (x2)), (3, .int (x3)), (4, .int (x4)), (5, .int (x5)), (6, .int (x6))] → W p l e (RM 3) s m args below meth c H locs 0 0 (MQ below (QK D a g (some (.int out)) S) args s 0 0 (AK a)) (F0 m 29 ls []) := by
  intro n
  induction n with
  | zero => intro x4 x5 x6 H locs ls hf; cases (show (none : Option Int32) = some out from hf)
  | succ n ih => intro x4 x5 x6 H locs ls hf hw hl; exact k4_lineTowards_b29 E (F := F) S x1 x2 x3 ih x4 x5 x6 H locs ls hf hw hl
set_option maxRecDepth 100000 in
set_option maxHeartbeats 4000000 in
theorem mk4_lineTowards {l : Launch} {D : va_G} {a : Nat → Nat} {g : Nat → ClassId} (hD : ∀ S, va_D (AK a) (wK a g S)) {F : Nat} {S : SS} {x1 x2 : Int32} {out : Int32} (hf : k4_lineTowards F S x1 x2 = some out) : Met l yX4_lineTowards (wsm yX4_lineTowards cX4_lineTowards 8 (some .int)) (RM 3) (PK D a g S [.ref (a 1), .int x1, .int x2]) (QK D a g (some (.int out)) S) 0 0 (AK a) := by
  refine Met.ofW (cc := cX4_lineTowards) (maxL := 8) (ret := (some .int)) (by decide) rfl ?_
  intro p e s m args below meth c s₁ B hml hv
  obtain ⟨rfl, hP, hK, hN⟩ := hv
  have hts := atoms_spec (ws := wsm yX4_lineTowards cX4_lineTowards 8 (some .int)) B.pre
  have E : EK p s m _ meth c D a g cX4_lineTowards 8 RX4 (some .int) := ⟨B.exec, B.bytes, B.returns, hml, findClass_of_methodNamed B.named, fun w h => hts w (List.mem_cons_of_mem _ h), hK, hN, hD, B.notSynchronized⟩
  have hx := E.hx
  have hb := E.hb
  have hw : WK D a g S s s.heap [] := ⟨hP, va_S.rf⟩
  have hl := lv_entry ([.ref (a 1), .int x1, .int x2]) (n := 8) (Nat.le_of_ble_eq_true rfl)
  rw [lg_entry_eq]
  generalize (lg_sl ([.ref (a 1), .int x1, .int x2]) ++ List.replicate (8 - (lg_sl ([.ref (a 1), .int x1, .int x2])).length) Slot.unset).toArray = ls at hl ⊢
  have hl : lv_has ls 8 [(0, .ref (a 1)), (1, .int (x1)), (2, .int (x2))] := hl
  show W p l e (RM 3) s m _ below meth c s.heap [] 0 0 (MQ below (QK D a g (some (.int out)) S) _ s 0 0 (AK a)) (F0 m 0 ls [])
  unfold k4_lineTowards at hf
  refine lv_aload_n hx hb dX4_lineTowards_0 rfl (lv_at hl 0 rfl) ?_
  refine lv_iload_n hx hb dX4_lineTowards_1 rfl (lv_at hl 1 rfl) ?_
  refine lv_iload_n hx hb dX4_lineTowards_2 rfl (lv_at hl 2 rfl) ?_
  obtain ⟨r_2, h_1, hf⟩ := ob_at hf
  refine qk4_milesBetween E hw (mk4_milesBetween E.hD h_1) wl351 dX4_lineTowards_3 ⟨Nat.le_of_ble_eq_true rfl, Nat.le_of_ble_eq_true rfl⟩ hl.1 (Nat.le_of_ble_eq_true rfl) ⟨Nat.le_refl 0, Nat.le_refl 0⟩ (fun H locs hw => ?_)
  refine lv_topi (fun x3_4 ex3_4 => ?_)
  replace hf := bnd_at hf ex3_4
  refine lv_istore_n (lv' := [(3, .int (x3_4)), (0, .ref (a 1)), (1, .int (x1)), (2, .int (x2))]) hx hb dX4_lineTowards_6 rfl hl (by decide) rfl (fun ls hl => ?_)
  refine lv_iload_n hx hb dX4_lineTowards_7 rfl (lv_at hl 0 rfl) ?_
  refine lv_iconst hx hb dX4_lineTowards_8 ic_m1 ?_
  refine lv_icmp_eq (tgt := 17) hx hb dX4_lineTowards_9 (by decide) (fun c_5 => ?_) (fun c_5 => ?_)
  · replace hf := ite_t hf c_5
    refine lv_iconst hx hb dX4_lineTowards_17 ic_m1 ?_
    cases hf
    exact retK_i E hw dX4_lineTowards_18
  · replace hf := ite_f hf c_5
    refine lv_iload_n hx hb dX4_lineTowards_12 rfl (lv_at hl 2 rfl) ?_
    refine lv_iload_n hx hb dX4_lineTowards_13 rfl (lv_at hl 3 rfl) ?_
    refine lv_icmp_ne (tgt := 19) hx hb dX4_lineTowards_14 (by decide) (fun c_6 => ?_) (fun c_6 => ?_)
    · replace hf := ite_f hf c_6
      refine lv_iconst hx hb dX4_lineTowards_19 ic_m1 ?_
      refine lv_topi (fun x4_7 ex4_7 => ?_)
      replace hf := bnd_at hf ex4_7
      refine lv_istore (lv' := [(4, .int (x4_7)), (3, .int (x3_4)), (0, .ref (a 1)), (1, .int (x1)), (2, .int (x2))]) hx hb dX4_lineTowards_20 hl (by decide) rfl (fun ls hl => ?_)
      refine lv_bipush hx hb dX4_lineTowards_22 bp_12 ?_
      refine lv_topi (fun x5_8 ex5_8 => ?_)
      replace hf := bnd_at hf ex5_8
      refine lv_istore (lv' := [(5, .int (x5_8)), (4, .int (x4_7)), (3, .int (x3_4)), (0, .ref (a 1)), (1, .int (x1)), (2, .int (x2))]) hx hb dX4_lineTowards_24 hl (by decide) rfl (fun ls hl => ?_)
      refine lv_iconst hx hb dX4_lineTowards_26 ic_0 ?_
      refine lv_topi (fun x6_9 ex6_9 => ?_)
      replace hf := bnd_at hf ex6_9
      refine lv_istore (lv' := [(6, .int (x6_9)), (5, .int (x5_8)), (4, .int (x4_7)), (3, .int (x3_4)), (0, .ref (a 1)), (1, .int (x1)), (2, .int (x2))]) hx hb dX4_lineTowards_27 hl (by decide) rfl (fun ls hl => ?_)
      refine k4_lineTowards_l29 E S (x1) (x2) (x3_4)  F (x4_7) (x5_8) (x6_9) _ _ ls hf hw (lv_sub hl [4, 5, 6, 3, 2, 1, 0] rfl)
    · replace hf := ite_t hf c_6
      refine lv_iconst hx hb dX4_lineTowards_17 ic_m1 ?_
      cases hf
      exact retK_i E hw dX4_lineTowards_18
theorem qk4_lineTowards {p : Program} {l : Launch} {e : Env} {R : Room} {s : State} {m : MethodId} {args : Array Value} {below : List Frame} {meth : Method} {c : Code} {H : Heap} {locs : List Loc} {cells slots : Nat} {Q : State → Prop} {cc : ByteArray} {pc : Nat} {ls : Array Slot} {rest : List Value} {D : va_G} {a : Nat → Nat} {g : Nat → ClassId} {nL : Nat} {own : String} {ret : Option FieldType} {S S1 : SS} {k : Nat} {x1 x2 : Int32} {r : Int32} (E : EK p s m args meth c D a g cc nL own ret) (hw : WK D a g S s H locs) (hM : Met l yX4_lineTowards (wsm yX4_lineTowards cX4_lineTowards 8 (some .int)) (RM k) (PK D a g S [.ref (a 1), .int x1, .int x2]) (QK D a g (some (.int r)) S1) 0 0 (AK a)) {idx : Nat} (hlk : Cond.methodLink own idx yX4_lineTowards ∈ wd) (hdg : decode cc pc = .ok (.invokevirtual idx, 3)) (hR : k + 1 ≤ R.frames ∧ 8 + (8 + 11) + 64 * k ≤ R.locals) (hls : ls.size = nL) (hrest : (rest.map fun v => v.category).sum ≤ 8) (hcs : cells ≤ R.cells ∧ slots ≤ R.slots) (kk : ∀ (H1 : Heap) (locs1 : List Loc), WK D a g S1 s H1 locs1 → W p l e R s m args below meth c H1 locs1 cells slots Q (F0 m (pc + 3) ls (.int r :: rest))) : W p l e R s m args below meth c H locs cells slots Q (F0 m pc ls (.int x2 :: .int x1 :: .ref (a 1) :: rest)) :=
  callK_i hw (va_runV (As := [.int x1, .int x2]) (rest := rest) ⟨E.hx, E.hb, E.hml, E.hown, E.hts⟩ hM ⟨cb_of 2 E.hts wl350 wl36 hlk (by decide +kernel) hR, E.hts _ wl348, E.hts _ wl349⟩ ⟨PK_blind, va_recv E.hK hw.1 (ci := 4) (q0 := 1) rfl rfl, PK_pre E.hK E.hN hw.1⟩ rfl rfl hls rfl (lv_room hrest) hdg hcs) kk
/-! X7_route -/
def k7_route (F : Nat) (S : SS) (x1 : Int32) (x2 : Int32) : Option Int32 :=
  (k4_lineTowards F S (x1) (x2)).bind fun r_2 => some (r_2)
set_option maxRecDepth 100000 in
set_option maxHeartbeats 4000000 in
theorem mk7_route {l : Launch} {D : va_G} {a : Nat → Nat} {g : Nat → ClassId} (hD : ∀ S, va_D (AK a) (wK a g S)) {F : Nat} {S : SS} {x1 x2 : Int32} {out : Int32} (hf : k7_route F S x1 x2 = some out) : Met l yX7_route (wsm yX7_route cX7_route 3 (some .int)) (RM 4) (PK D a g S [.ref (a 0), .int x1, .int x2]) (QK D a g (some (.int out)) S) 0 0 (AK a) := by
  refine Met.ofW (cc := cX7_route) (maxL := 3) (ret := (some .int)) (by decide) rfl ?_
  intro p e s m args below meth c s₁ B hml hv
  obtain ⟨rfl, hP, hK, hN⟩ := hv
  have hts := atoms_spec (ws := wsm yX7_route cX7_route 3 (some .int)) B.pre
  have E : EK p s m _ meth c D a g cX7_route 3 RX7 (some .int) := ⟨B.exec, B.bytes, B.returns, hml, findClass_of_methodNamed B.named, fun w h => hts w (List.mem_cons_of_mem _ h), hK, hN, hD, B.notSynchronized⟩
  have hx := E.hx
  have hb := E.hb
  have hw : WK D a g S s s.heap [] := ⟨hP, va_S.rf⟩
  have hl := lv_entry ([.ref (a 0), .int x1, .int x2]) (n := 3) (Nat.le_of_ble_eq_true rfl)
  rw [lg_entry_eq]
  generalize (lg_sl ([.ref (a 0), .int x1, .int x2]) ++ List.replicate (3 - (lg_sl ([.ref (a 0), .int x1, .int x2])).length) Slot.unset).toArray = ls at hl ⊢
  have hl : lv_has ls 3 [(0, .ref (a 0)), (1, .int (x1)), (2, .int (x2))] := hl
  show W p l e (RM 4) s m _ below meth c s.heap [] 0 0 (MQ below (QK D a g (some (.int out)) S) _ s 0 0 (AK a)) (F0 m 0 ls [])
  unfold k7_route at hf
  refine lv_aload_n hx hb dX7_route_0 rfl (lv_at hl 0 rfl) ?_
  refine gK_0_0 E hw (E.hts _ wl272) dX7_route_1 ?_
  refine lv_iload_n hx hb dX7_route_4 rfl (lv_at hl 1 rfl) ?_
  refine lv_iload_n hx hb dX7_route_5 rfl (lv_at hl 2 rfl) ?_
  obtain ⟨r_2, h_1, hf⟩ := ob_at hf
  refine qk4_lineTowards E hw (mk4_lineTowards E.hD h_1) wl347 dX7_route_6 ⟨Nat.le_of_ble_eq_true rfl, Nat.le_of_ble_eq_true rfl⟩ hl.1 (Nat.le_of_ble_eq_true rfl) ⟨Nat.le_refl 0, Nat.le_refl 0⟩ (fun H locs hw => ?_)
  cases hf
  exact retK_i E hw dX7_route_9
theorem qk7_route {p : Program} {l : Launch} {e : Env} {R : Room} {s : State} {m : MethodId} {args : Array Value} {below : List Frame} {meth : Method} {c : Code} {H : Heap} {locs : List Loc} {cells slots : Nat} {Q : State → Prop} {cc : ByteArray} {pc : Nat} {ls : Array Slot} {rest : List Value} {D : va_G} {a : Nat → Nat} {g : Nat → ClassId} {nL : Nat} {own : String} {ret : Option FieldType} {S S1 : SS} {k : Nat} {x1 x2 : Int32} {r : Int32} (E : EK p s m args meth c D a g cc nL own ret) (hw : WK D a g S s H locs) (hM : Met l yX7_route (wsm yX7_route cX7_route 3 (some .int)) (RM k) (PK D a g S [.ref (a 0), .int x1, .int x2]) (QK D a g (some (.int r)) S1) 0 0 (AK a)) {idx : Nat} (hlk : Cond.methodLink own idx yX7_route ∈ wd) (hdg : decode cc pc = .ok (.invokevirtual idx, 3)) (hR : k + 1 ≤ R.frames ∧ 8 + (3 + 11) + 64 * k ≤ R.locals) (hls : ls.size = nL) (hrest : (rest.map fun v => v.category).sum ≤ 8) (hcs : cells ≤ R.cells ∧ slots ≤ R.slots) (kk : ∀ (H1 : Heap) (locs1 : List Loc), WK D a g S1 s H1 locs1 → W p l e R s m args below meth c H1 locs1 cells slots Q (F0 m (pc + 3) ls (.int r :: rest))) : W p l e R s m args below meth c H locs cells slots Q (F0 m pc ls (.int x2 :: .int x1 :: .ref (a 0) :: rest)) :=
  callK_i hw (va_runV (As := [.int x1, .int x2]) (rest := rest) ⟨E.hx, E.hb, E.hml, E.hown, E.hts⟩ hM ⟨cb_of 2 E.hts wl346 wl35 hlk (by decide +kernel) hR, E.hts _ wl344, E.hts _ wl345⟩ ⟨PK_blind, va_recv E.hK hw.1 (ci := 7) (q0 := 0) rfl rfl, PK_pre E.hK E.hN hw.1⟩ rfl rfl hls rfl (lv_room hrest) hdg hcs) kk
/-! J7_fill_53178[14] -/
def k7_fill_14_B5 (F : Nat) (x1 : Int32) (x3 : Int32) (rec5 : SS → Int32 → Option SS) (S : SS) (x2 : Int32) : Option SS :=
  if x3 ≤ x2 then (some S) else ((ckA 8 x2).bind fun _ => bnd (st S 14 (Int32.toNatClampNeg x2) x1) fun S_4 => bnd (x2 + (1)) fun x2_5 => rec5 S_4 (x2_5))
def k7_fill_14 (F : Nat) (S : SS) (x1 : Int32) : Option SS :=
  bnd ((0 : Int32)) fun x2_1 => bnd ((8 : Int32)) fun x3_2 => lpN (fun _ _ => none) (fun rec5 => k7_fill_14_B5 F (x1) (x3_2) rec5 ) F S (x2_1)
set_option maxRecDepth 100000 in
set_option maxHeartbeats 4000000 in
theorem k7_fill_14_b5 {p : Program} {l : Launch} {e : Env} {s : State} {m : MethodId} {args : Array Value} {below : List Frame} {meth : Method} {c : Code} {D : va_G} {a : Nat → Nat} {g : Nat → ClassId} (E : EK p s m args meth c D a g cJ7_fill_53178 4 RJ7 none) {F : Nat}  (x1 : Int32) (x3 : Int32) {rec5 : SS → Int32 → Option SS} {out : SS} (hrec5 : ∀ (S : SS) (x2 : Int32) (H : Heap) (locs : List Loc) (ls : Array Slot), rec5 S x2 = some out → WK D a g S s H locs → lv_has ls 4 [(0, .ref (a 14)), (1, .int (x1)), (2, .int (x2)), (3, .int (x3))] → W p l e (RM 1) s m args below meth c H locs 0 0 (MQ below (QK D a g none out) args s 0 0 (AK a)) (F0 m 5 ls []))  (S : SS) (x2 : Int32) (H : Heap) (locs : List Loc) (ls : Array Slot) (hf : k7_fill_14_B5 F x1 x3 rec5 S x2 = some out) (hw : WK D a g S s H locs) (hl : lv_has ls 4 [(0, .ref (a 14)), (1, .int (x1)), (2, .int (x2)), (3, .int (x3))]) : W p l e (RM 1) s m args below meth c H locs 0 0 (MQ below (QK D a g none out) args s 0 0 (AK a)) (F0 m 5 ls []) := by
  have hx := E.hx
  have hb := E.hb
  unfold k7_fill_14_B5 at hf
  refine lv_iload_n hx hb dJ7_fill_53178_5 rfl (lv_at hl 2 rfl) ?_
  refine lv_iload_n hx hb dJ7_fill_53178_6 rfl (lv_at hl 3 rfl) ?_
  refine lv_icmp_ge (tgt := 20) hx hb dJ7_fill_53178_7 (by decide) (fun c_3 => ?_) (fun c_3 => ?_)
  · replace hf := ite_t hf c_3
    cases hf
    exact retK_v E hw dJ7_fill_53178_20
  · replace hf := ite_f hf c_3
    refine lv_aload_n hx hb dJ7_fill_53178_10 rfl (lv_at hl 0 rfl) ?_
    refine lv_iload_n hx hb dJ7_fill_53178_11 rfl (lv_at hl 2 rfl) ?_
    refine lv_iload_n hx hb dJ7_fill_53178_12 rfl (lv_at hl 1 rfl) ?_
    obtain ⟨h_S_4, hf⟩ := ckA_at hf
    refine sK_14 E hw h_S_4 dJ7_fill_53178_13 (fun S_4 eS_4 H locs hw => ?_)
    replace hf := bnd_at hf eS_4
    obtain ⟨x2_5, ex2_5⟩ : ∃ y : Int32, y = x2 + (1) := ⟨_, rfl⟩
    replace hf := bnd_at hf ex2_5
    refine lv_iinc (v := x2_5) (lv' := [(2, .int (x2_5)), (0, .ref (a 14)), (1, .int (x1)), (3, .int (x3))]) hx hb dJ7_fill_53178_14 hl (k := 2) rfl (by rw [ex2_5]; rfl) (by decide) rfl (fun ls hl => ?_)
    refine lv_goto (tgt := 5) hx hb dJ7_fill_53178_17 (by decide) ?_
    exact hrec5 S_4 (x2_5) _ _ ls hf hw (lv_sub hl [1, 2, 0, 3] rfl)
theorem k7_fill_14_l5 {p : Program} {l : Launch} {e : Env} {s : State} {m : MethodId} {args : Array Value} {below : List Frame} {meth : Method} {c : Code} {D : va_G} {a : Nat → Nat} {g : Nat → ClassId} (E : EK p s m args meth c D a g cJ7_fill_53178 4 RJ7 none) {F : Nat}  (x1 : Int32) (x3 : Int32) {out : SS}  : ∀ (n : Nat) (S : SS) (x2 : Int32) (H : Heap) (locs : List Loc) (ls : Array Slot), lpN (fun _ _ => none) (fun rec5 => k7_fill_14_B5 F x1 x3 rec5) n S x2 = some out → WK D a g S s H locs → lv_has ls 4 [(0, .ref (a 14)), (1, .int (x1)), (2, .int (x2)), (3, .int (x3))] → W p l e (RM 1) s m args below meth c H locs 0 0 (MQ below (QK D a g none out) args s 0 0 (AK a)) (F0 m 5 ls []) := by
  intro n
  induction n with
  | zero => intro S x2 H locs ls hf; cases (show (none : Option SS) = some out from hf)
  | succ n ih => intro S x2 H locs ls hf hw hl; exact k7_fill_14_b5 E (F := F) x1 x3 ih S x2 H locs ls hf hw hl
set_option maxRecDepth 100000 in
set_option maxHeartbeats 4000000 in
theorem mk7_fill_14 {l : Launch} {D : va_G} {a : Nat → Nat} {g : Nat → ClassId} (hD : ∀ S, va_D (AK a) (wK a g S)) {F : Nat} {S : SS} {x1 : Int32} {out : SS} (hf : k7_fill_14 F S x1 = some out) : Met l yJ7_fill_53178 (wsm yJ7_fill_53178 cJ7_fill_53178 4 none) (RM 1) (PK D a g S [.ref (a 14), .int x1]) (QK D a g none out) 0 0 (AK a) := by
  refine Met.ofW (cc := cJ7_fill_53178) (maxL := 4) (ret := none) (by decide) rfl ?_
  intro p e s m args below meth c s₁ B hml hv
  obtain ⟨rfl, hP, hK, hN⟩ := hv
  have hts := atoms_spec (ws := wsm yJ7_fill_53178 cJ7_fill_53178 4 none) B.pre
  have E : EK p s m _ meth c D a g cJ7_fill_53178 4 RJ7 none := ⟨B.exec, B.bytes, B.returns, hml, findClass_of_methodNamed B.named, fun w h => hts w (List.mem_cons_of_mem _ h), hK, hN, hD, B.notSynchronized⟩
  have hx := E.hx
  have hb := E.hb
  have hw : WK D a g S s s.heap [] := ⟨hP, va_S.rf⟩
  have hl := lv_entry ([.ref (a 14), .int x1]) (n := 4) (Nat.le_of_ble_eq_true rfl)
  rw [lg_entry_eq]
  generalize (lg_sl ([.ref (a 14), .int x1]) ++ List.replicate (4 - (lg_sl ([.ref (a 14), .int x1])).length) Slot.unset).toArray = ls at hl ⊢
  have hl : lv_has ls 4 [(0, .ref (a 14)), (1, .int (x1))] := hl
  show W p l e (RM 1) s m _ below meth c s.heap [] 0 0 (MQ below (QK D a g none out) _ s 0 0 (AK a)) (F0 m 0 ls [])
  unfold k7_fill_14 at hf
  refine lv_iconst hx hb dJ7_fill_53178_0 ic_0 ?_
  refine lv_topi (fun x2_1 ex2_1 => ?_)
  replace hf := bnd_at hf ex2_1
  refine lv_istore_n (lv' := [(2, .int (x2_1)), (0, .ref (a 14)), (1, .int (x1))]) hx hb dJ7_fill_53178_1 rfl hl (by decide) rfl (fun ls hl => ?_)
  refine lv_aload_n hx hb dJ7_fill_53178_2 rfl (lv_at hl 1 rfl) ?_
  refine va_alen hx hb E.hK hw.1 14 6 rfl rfl (v := 8) rfl dJ7_fill_53178_3 ?_
  refine lv_topi (fun x3_2 ex3_2 => ?_)
  replace hf := bnd_at hf ex3_2
  refine lv_istore_n (lv' := [(3, .int (x3_2)), (2, .int (x2_1)), (0, .ref (a 14)), (1, .int (x1))]) hx hb dJ7_fill_53178_4 rfl hl (by decide) rfl (fun ls hl => ?_)
  refine k7_fill_14_l5 E (x1) (x3_2)  F S (x2_1) _ _ ls hf hw (lv_sub hl [2, 3, 1, 0] rfl)
theorem qk7_fill_14 {p : Program} {l : Launch} {e : Env} {R : Room} {s : State} {m : MethodId} {args : Array Value} {below : List Frame} {meth : Method} {c : Code} {H : Heap} {locs : List Loc} {cells slots : Nat} {Q : State → Prop} {cc : ByteArray} {pc : Nat} {ls : Array Slot} {rest : List Value} {D : va_G} {a : Nat → Nat} {g : Nat → ClassId} {nL : Nat} {own : String} {ret : Option FieldType} {S S1 : SS} {k : Nat} {x1 : Int32} (E : EK p s m args meth c D a g cc nL own ret) (hw : WK D a g S s H locs) (hM : Met l yJ7_fill_53178 (wsm yJ7_fill_53178 cJ7_fill_53178 4 none) (RM k) (PK D a g S [.ref (a 14), .int x1]) (QK D a g none S1) 0 0 (AK a)) {idx : Nat} (hlk : Cond.methodLink own idx yJ7_fill_53178 ∈ wd) (hdg : decode cc pc = .ok (.invokestatic idx, 3)) (hR : k + 1 ≤ R.frames ∧ 8 + (4 + 11) + 64 * k ≤ R.locals) (hls : ls.size = nL) (hrest : (rest.map fun v => v.category).sum ≤ 8) (hcs : cells ≤ R.cells ∧ slots ≤ R.slots) (kk : ∀ (H1 : Heap) (locs1 : List Loc), WK D a g S1 s H1 locs1 → W p l e R s m args below meth c H1 locs1 cells slots Q (F0 m (pc + 3) ls (rest))) : W p l e R s m args below meth c H locs cells slots Q (F0 m pc ls (.int x1 :: .ref (a 14) :: rest)) :=
  callK_v hw (va_runS (As := [.ref (a 14), .int x1]) (rest := rest) ⟨E.hx, E.hb, E.hml, E.hown, E.hts⟩ hM ⟨cb_of 2 E.hts wl65 wl37 hlk (by decide +kernel) hR, E.hts _ wl64⟩ ⟨PK_blind, PK_pre E.hK E.hN hw.1⟩ rfl rfl hls rfl (lv_room hrest) hdg hcs) kk
/-! X5_travel -/
def k5_travel_B23_J81 (F : Nat) (x2 : Int32) (rec23 : SS → Int32 → Int32 → Option (Int32 × SS)) (k120 : SS → Int32 → Option (Int32 × SS)) (S : SS) (x3 : Int32) (x4 : Int32) (x5 : Int32) : Option (Int32 × SS) :=
  (rdA 8 (S 14) (S 2 5)).bind fun v_18 => (rdA 24 (S 11) x5).bind fun v_19 => (ckA 8 (S 2 5)).bind fun _ => bnd (st S 14 (Int32.toNatClampNeg (S 2 5)) (v_18 + v_19)) fun S_20 => (k4_farEnd F S_20 (x5) (x3)).bind fun r_22 => bnd (r_22) fun x3_24 => bnd (x4 + (1)) fun x4_25 => rec23 S_20 (x3_24) (x4_25)
def k5_travel_B23 (F : Nat) (x2 : Int32) (rec23 : SS → Int32 → Int32 → Option (Int32 × SS)) (k120 : SS → Int32 → Option (Int32 × SS)) (S : SS) (x3 : Int32) (x4 : Int32) : Option (Int32 × SS) :=
  if ((12 : Int32)) ≤ x4 then (k120 S (x3)) else (if x3 = x2 then (k120 S (x3)) else ((k4_lineTowards F S (x3) (x2)).bind fun r_11 => bnd (r_11) fun x5_13 => if x5_13 = ((-1 : Int32)) then (some ((0 : Int32), S)) else ((rdA 24 (S 10) x5_13).bind fun v_15 => bnd (st S 2 5 v_15) fun S_16 => if x4 = 0 then (bnd (st S_16 2 4 (S_16 2 5)) fun S_26 => k5_travel_B23_J81 F x2 rec23 k120 S_26 (x3) (x4) (x5_13)) else (k5_travel_B23_J81 F x2 rec23 k120 S_16 (x3) (x4) (x5_13)))))
def k5_travel_J120 (F : Nat) (S : SS) (x2 : Int32) (x3 : Int32) : Option (Int32 × SS) :=
  (k7_isCompany F S (S 2 4)).bind fun r_29 => if r_29 = 0 then (some ((0 : Int32), S)) else ((k7_isCompany F S (S 2 5)).bind fun r_33 => if r_33 = 0 then (some ((0 : Int32), S)) else (if x3 = x2 then (some ((1 : Int32), S)) else (some ((0 : Int32), S))))
def k5_travel (F : Nat) (S : SS) (x1 : Int32) (x2 : Int32) : Option (Int32 × SS) :=
  (k7_fill_14 F S ((0 : Int32))).bind fun S_3 => bnd (st S_3 2 4 ((-1 : Int32))) fun S_4 => bnd (st S_4 2 5 ((-1 : Int32))) fun S_5 => bnd (x1) fun x3_6 => bnd ((0 : Int32)) fun x4_7 => lpN (fun _ _ _ => none) (fun rec23 => k5_travel_B23 F (x2) rec23 (fun S_27 x3_27 => k5_travel_J120 F S_27 (x2) (x3_27))) F S_5 (x3_6) (x4_7)
set_option maxRecDepth 100000 in
set_option maxHeartbeats 4000000 in
theorem k5_travel_B23_J81_j {p : Program} {l : Launch} {e : Env} {s : State} {m : MethodId} {args : Array Value} {below : List Frame} {meth : Method} {c : Code} {D : va_G} {a : Nat → Nat} {g : Nat → ClassId} (E : EK p s m args meth c D a g cX5_travel 6 RX5 (some .boolean)) {F : Nat}  (x2 : Int32) {rec23 : SS → Int32 → Int32 → Option (Int32 × SS)} {k120 : SS → Int32 → Option (Int32 × SS)} {out : (Int32 × SS)} (hrec23 : ∀ (S : SS) (x3 : Int32) (x4 : Int32) (H : Heap) (locs : List Loc) (ls : Array Slot), rec23 S x3 x4 = some out → WK D a g S s H locs → lv_has ls 6 [(0, .ref (a 2)), (2, .int (x2)), (3, .int (x3)), (4, .int (x4))] → W p l e (RM 4) s m args below meth c H locs 0 0 (MQ below (QK D a g (some (.int out.1)) out.2) args s 0 0 (AK a)) (F0 m 23 ls [])) (hk120 : ∀ (S : SS) (x3 : Int32) (H : Heap) (locs : List Loc) (ls : Array Slot), k120 S x3 = some out → WK D a g S s H locs → lv_has ls 6 [(0, .ref (a 2)), (2, .int (x2)), (3, .int (x3))] → W p l e (RM 4) s m args below meth c H locs 0 0 (MQ below (QK D a g (some (.int out.1)) out.2) args s 0 0 (AK a)) (F0 m 120 ls [])) (S : SS) (x3 : Int32) (x4 : Int32) (x5 : Int32) (H : Heap) (locs : List Loc) (ls : Array Slot) (hf : k5_travel_B23_J81 F x2 rec23 k120 S x3 x4 x5 = some out) (hw : WK D a g S s H locs) (hl : lv_has ls 6 [(0, .ref (a 2)), (2, .int (x2)), (3, .int (x3)), (4, .int (x4)), (5, .int (x5))]) : W p l e (RM 4) s m args below meth c H locs 0 0 (MQ below (QK D a g (some (.int out.1)) out.2) args s 0 0 (AK a)) (F0 m 81 ls []) := by
  have hx := E.hx
  have hb := E.hb
  unfold k5_travel_B23_J81 at hf
  refine lv_aload_n hx hb dX5_travel_81 rfl (lv_at hl 0 rfl) ?_
  refine gK_2_1 E hw (E.hts _ wl99) dX5_travel_82 ?_
  refine lv_aload_n hx hb dX5_travel_85 rfl (lv_at hl 0 rfl) ?_
  refine gK_2_5 E hw (E.hts _ wl103) dX5_travel_86 ?_
  refine lv_dup2_11 hx hb dX5_travel_89 rfl rfl ?_
  obtain ⟨h_v_18, hf⟩ := rdA_at hf
  refine lK_14 E hw h_v_18 dX5_travel_90 (fun v_18 ev_18 => ?_)
  replace hf := hf v_18 ev_18
  refine lv_aload_n hx hb dX5_travel_91 rfl (lv_at hl 0 rfl) ?_
  refine gK_2_3 E hw (E.hts _ wl101) dX5_travel_92 ?_
  refine gK_1_3 E hw (E.hts _ wl71) dX5_travel_95 ?_
  refine lv_iload hx hb dX5_travel_98 (lv_at hl 4 rfl) ?_
  obtain ⟨h_v_19, hf⟩ := rdA_at hf
  refine lK_11 E hw h_v_19 dX5_travel_100 (fun v_19 ev_19 => ?_)
  replace hf := hf v_19 ev_19
  refine lv_iadd hx hb dX5_travel_101 ?_
  obtain ⟨h_S_20, hf⟩ := ckA_at hf
  refine sK_14 E hw h_S_20 dX5_travel_102 (fun S_20 eS_20 H locs hw => ?_)
  replace hf := bnd_at hf eS_20
  refine lv_aload_n hx hb dX5_travel_103 rfl (lv_at hl 0 rfl) ?_
  refine gK_2_3 E hw (E.hts _ wl101) dX5_travel_104 ?_
  refine lv_iload hx hb dX5_travel_107 (lv_at hl 4 rfl) ?_
  refine lv_iload_n hx hb dX5_travel_109 rfl (lv_at hl 2 rfl) ?_
  obtain ⟨r_22, h_21, hf⟩ := ob_at hf
  refine qk4_farEnd E hw (mk4_farEnd E.hD h_21) wl373 dX5_travel_110 ⟨Nat.le_of_ble_eq_true rfl, Nat.le_of_ble_eq_true rfl⟩ hl.1 (Nat.le_of_ble_eq_true rfl) ⟨Nat.le_refl 0, Nat.le_refl 0⟩ (fun H locs hw => ?_)
  refine lv_topi (fun x3_24 ex3_24 => ?_)
  replace hf := bnd_at hf ex3_24
  refine lv_istore_n (lv' := [(3, .int (x3_24)), (0, .ref (a 2)), (2, .int (x2)), (4, .int (x4)), (5, .int (x5))]) hx hb dX5_travel_113 rfl hl (by decide) rfl (fun ls hl => ?_)
  obtain ⟨x4_25, ex4_25⟩ : ∃ y : Int32, y = x4 + (1) := ⟨_, rfl⟩
  replace hf := bnd_at hf ex4_25
  refine lv_iinc (v := x4_25) (lv' := [(4, .int (x4_25)), (3, .int (x3_24)), (0, .ref (a 2)), (2, .int (x2)), (5, .int (x5))]) hx hb dX5_travel_114 hl (k := 3) rfl (by rw [ex4_25]; rfl) (by decide) rfl (fun ls hl => ?_)
  refine lv_goto (tgt := 23) hx hb dX5_travel_117 (by decide) ?_
  exact hrec23 S_20 (x3_24) (x4_25) _ _ ls hf hw (lv_sub hl [2, 3, 1, 0] rfl)
set_option maxRecDepth 100000 in
set_option maxHeartbeats 4000000 in
theorem k5_travel_b23 {p : Program} {l : Launch} {e : Env} {s : State} {m : MethodId} {args : Array Value} {below : List Frame} {meth : Method} {c : Code} {D : va_G} {a : Nat → Nat} {g : Nat → ClassId} (E : EK p s m args meth c D a g cX5_travel 6 RX5 (some .boolean)) {F : Nat}  (x2 : Int32) {rec23 : SS → Int32 → Int32 → Option (Int32 × SS)} {k120 : SS → Int32 → Option (Int32 × SS)} {out : (Int32 × SS)} (hrec23 : ∀ (S : SS) (x3 : Int32) (x4 : Int32) (H : Heap) (locs : List Loc) (ls : Array Slot), rec23 S x3 x4 = some out → WK D a g S s H locs → lv_has ls 6 [(0, .ref (a 2)), (2, .int (x2)), (3, .int (x3)), (4, .int (x4))] → W p l e (RM 4) s m args below meth c H locs 0 0 (MQ below (QK D a g (some (.int out.1)) out.2) args s 0 0 (AK a)) (F0 m 23 ls [])) (hk120 : ∀ (S : SS) (x3 : Int32) (H : Heap) (locs : List Loc) (ls : Array Slot), k120 S x3 = some out → WK D a g S s H locs → lv_has ls 6 [(0, .ref (a 2)), (2, .int (x2)), (3, .int (x3))] → W p l e (RM 4) s m args below meth c H locs 0 0 (MQ below (QK D a g (some (.int out.1)) out.2) args s 0 0 (AK a)) (F0 m 120 ls [])) (S : SS) (x3 : Int32) (x4 : Int32) (H : Heap) (locs : List Loc) (ls : Array Slot) (hf : k5_travel_B23 F x2 rec23 k120 S x3 x4 = some out) (hw : WK D a g S s H locs) (hl : lv_has ls 6 [(0, .ref (a 2)), (2, .int (x2)), (3, .int (x3)), (4, .int (x4))]) : W p l e (RM 4) s m args below meth c H locs 0 0 (MQ below (QK D a g (some (.int out.1)) out.2) args s 0 0 (AK a)) (F0 m 23 ls []) := by
  have hx := E.hx
  have hb := E.hb
  unfold k5_travel_B23 at hf
  refine lv_iload hx hb dX5_travel_23 (lv_at hl 3 rfl) ?_
  refine lv_bipush hx hb dX5_travel_25 bp_12 ?_
  refine lv_icmp_ge (tgt := 120) hx hb dX5_travel_27 (by decide) (fun c_8 => ?_) (fun c_8 => ?_)
  · replace hf := ite_t hf c_8
    exact hk120 S (x3) _ _ ls hf hw (lv_sub hl [0, 1, 2] rfl)
  · replace hf := ite_f hf c_8
    refine lv_iload_n hx hb dX5_travel_30 rfl (lv_at hl 2 rfl) ?_
    refine lv_iload_n hx hb dX5_travel_31 rfl (lv_at hl 1 rfl) ?_
    refine lv_icmp_eq (tgt := 120) hx hb dX5_travel_32 (by decide) (fun c_9 => ?_) (fun c_9 => ?_)
    · replace hf := ite_t hf c_9
      exact hk120 S (x3) _ _ ls hf hw (lv_sub hl [0, 1, 2] rfl)
    · replace hf := ite_f hf c_9
      refine lv_aload_n hx hb dX5_travel_35 rfl (lv_at hl 0 rfl) ?_
      refine gK_2_3 E hw (E.hts _ wl101) dX5_travel_36 ?_
      refine lv_iload_n hx hb dX5_travel_39 rfl (lv_at hl 2 rfl) ?_
      refine lv_iload_n hx hb dX5_travel_40 rfl (lv_at hl 1 rfl) ?_
      obtain ⟨r_11, h_10, hf⟩ := ob_at hf
      refine qk4_lineTowards E hw (mk4_lineTowards E.hD h_10) wl372 dX5_travel_41 ⟨Nat.le_of_ble_eq_true rfl, Nat.le_of_ble_eq_true rfl⟩ hl.1 (Nat.le_of_ble_eq_true rfl) ⟨Nat.le_refl 0, Nat.le_refl 0⟩ (fun H locs hw => ?_)
      refine lv_topi (fun x5_13 ex5_13 => ?_)
      replace hf := bnd_at hf ex5_13
      refine lv_istore (lv' := [(5, .int (x5_13)), (0, .ref (a 2)), (2, .int (x2)), (3, .int (x3)), (4, .int (x4))]) hx hb dX5_travel_44 hl (by decide) rfl (fun ls hl => ?_)
      refine lv_iload hx hb dX5_travel_46 (lv_at hl 0 rfl) ?_
      refine lv_iconst hx hb dX5_travel_48 ic_m1 ?_
      refine lv_icmp_ne (tgt := 54) hx hb dX5_travel_49 (by decide) (fun c_14 => ?_) (fun c_14 => ?_)
      · replace hf := ite_f hf c_14
        refine lv_aload_n hx hb dX5_travel_54 rfl (lv_at hl 1 rfl) ?_
        refine lv_aload_n hx hb dX5_travel_55 rfl (lv_at hl 1 rfl) ?_
        refine gK_2_3 E hw (E.hts _ wl101) dX5_travel_56 ?_
        refine gK_1_2 E hw (E.hts _ wl69) dX5_travel_59 ?_
        refine lv_iload hx hb dX5_travel_62 (lv_at hl 0 rfl) ?_
        obtain ⟨h_v_15, hf⟩ := rdA_at hf
        refine lK_10 E hw h_v_15 dX5_travel_64 (fun v_15 ev_15 => ?_)
        replace hf := hf v_15 ev_15
        refine pK_2_5 E hw (E.hts _ wl103) dX5_travel_65 (fun S_16 eS_16 H locs hw => ?_)
        replace hf := bnd_at hf eS_16
        refine lv_iload hx hb dX5_travel_68 (lv_at hl 4 rfl) ?_
        refine lv_if_ne (tgt := 81) hx hb dX5_travel_70 (by decide) (fun c_17 => ?_) (fun c_17 => ?_)
        · replace hf := ite_f hf c_17
          exact k5_travel_B23_J81_j E x2 hrec23 hk120 S_16 (x3) (x4) (x5_13) _ _ ls hf hw (lv_sub hl [1, 2, 3, 4, 0] rfl)
        · replace hf := ite_t hf c_17
          refine lv_aload_n hx hb dX5_travel_73 rfl (lv_at hl 1 rfl) ?_
          refine lv_aload_n hx hb dX5_travel_74 rfl (lv_at hl 1 rfl) ?_
          refine gK_2_5 E hw (E.hts _ wl103) dX5_travel_75 ?_
          refine pK_2_4 E hw (E.hts _ wl102) dX5_travel_78 (fun S_26 eS_26 H locs hw => ?_)
          replace hf := bnd_at hf eS_26
          exact k5_travel_B23_J81_j E x2 hrec23 hk120 S_26 (x3) (x4) (x5_13) _ _ ls hf hw (lv_sub hl [1, 2, 3, 4, 0] rfl)
      · replace hf := ite_t hf c_14
        refine lv_iconst hx hb dX5_travel_52 ic_0 ?_
        cases hf
        exact retK_z E hw nb0 dX5_travel_53
theorem k5_travel_l23 {p : Program} {l : Launch} {e : Env} {s : State} {m : MethodId} {args : Array Value} {below : List Frame} {meth : Method} {c : Code} {D : va_G} {a : Nat → Nat} {g : Nat → ClassId} (E : EK p s m args meth c D a g cX5_travel 6 RX5 (some .boolean)) {F : Nat}  (x2 : Int32) {k120 : SS → Int32 → Option (Int32 × SS)} {out : (Int32 × SS)} (hk120 : ∀ (S : SS) (x3 : Int32) (H : Heap) (locs : List Loc) (ls : Array Slot), k120 S x3 = some out → WK D a g S s H locs → lv_has ls 6 [(0, .ref (a 2)), (2, .int (x2)), (3, .int (x3))] → W p l e (RM 4) s m args below meth c H locs 0 0 (MQ below (QK D a g (some (.int out.1)) out.2) args s 0 0 (AK a)) (F0 m 120 ls [])) : ∀ (n : Nat) (S : SS) (x3 : Int32) (x4 : Int32) (H : Heap) (locs : List Loc) (ls : Array Slot), lpN (fun _ _ _ => none) (fun rec23 => k5_travel_B23 F x2 rec23 k120) n S x3 x4 = some out → WK D a g S s H locs → lv_has ls 6 [(0, .ref (a 2)), (2, .int (x2)), (3, .int (x3)), (4, .int (x4))] → W p l e (RM 4) s m args below meth c H locs 0 0 (MQ below (QK D a g (some (.int out.1)) out.2) args s 0 0 (AK a)) (F0 m 23 ls []) := by
  intro n
  induction n with
  | zero => intro S x3 x4 H locs ls hf; cases (show (none : Option (Int32 × SS)) = some out from hf)
  | succ n ih => intro S x3 x4 H locs ls hf hw hl; exact k5_travel_b23 E (F := F) x2 ih hk120 S x3 x4 H locs ls hf hw hl
set_option maxRecDepth 100000 in
set_option maxHeartbeats 4000000 in
theorem k5_travel_J120_j {p : Program} {l : Launch} {e : Env} {s : State} {m : MethodId} {args : Array Value} {below : List Frame} {meth : Method} {c : Code} {D : va_G} {a : Nat → Nat} {g : Nat → ClassId} (E : EK p s m args meth c D a g cX5_travel 6 RX5 (some .boolean)) {F : Nat}  {out : (Int32 × SS)} (S : SS) (x2 : Int32) (x3 : Int32) (H : Heap) (locs : List Loc) (ls : Array Slot) (hf : k5_travel_J120 F S x2 x3 = some out) (hw : WK D a g S s H locs) (hl : lv_has ls 6 [(0, .ref (a 2)), (2, .int (x2)), (3, .int (x3))]) : W p l e (RM 4) s m args below meth c H locs 0 0 (MQ below (QK D a g (some (.int out.1)) out.2) args s 0 0 (AK a)) (F0 m 120 ls []) := by
  have hx := E.hx
  have hb := E.hb
  unfold k5_travel_J120 at hf
  refine lv_aload_n hx hb dX5_travel_120 rfl (lv_at hl 0 rfl) ?_
  refine gK_2_4 E hw (E.hts _ wl102) dX5_travel_121 ?_
  obtain ⟨r_29, h_28, hf⟩ := ob_at hf
  refine qnk7_isCompany E hw (mk7_isCompany E.hD h_28) nw6 dX5_travel_124 ⟨Nat.le_of_ble_eq_true rfl, Nat.le_of_ble_eq_true rfl⟩ hl.1 (Nat.le_of_ble_eq_true rfl) ⟨Nat.le_refl 0, Nat.le_refl 0⟩ (fun H locs hw => ?_)
  refine lv_if_eq (tgt := 149) hx hb dX5_travel_127 (by decide) (fun c_31 => ?_) (fun c_31 => ?_)
  · replace hf := ite_t hf c_31
    refine lv_iconst hx hb dX5_travel_149 ic_0 ?_
    cases hf
    exact retK_z E hw nb0 dX5_travel_150
  · replace hf := ite_f hf c_31
    refine lv_aload_n hx hb dX5_travel_130 rfl (lv_at hl 0 rfl) ?_
    refine gK_2_5 E hw (E.hts _ wl103) dX5_travel_131 ?_
    obtain ⟨r_33, h_32, hf⟩ := ob_at hf
    refine qnk7_isCompany E hw (mk7_isCompany E.hD h_32) nw6 dX5_travel_134 ⟨Nat.le_of_ble_eq_true rfl, Nat.le_of_ble_eq_true rfl⟩ hl.1 (Nat.le_of_ble_eq_true rfl) ⟨Nat.le_refl 0, Nat.le_refl 0⟩ (fun H locs hw => ?_)
    refine lv_if_eq (tgt := 149) hx hb dX5_travel_137 (by decide) (fun c_35 => ?_) (fun c_35 => ?_)
    · replace hf := ite_t hf c_35
      refine lv_iconst hx hb dX5_travel_149 ic_0 ?_
      cases hf
      exact retK_z E hw nb0 dX5_travel_150
    · replace hf := ite_f hf c_35
      refine lv_iload_n hx hb dX5_travel_140 rfl (lv_at hl 2 rfl) ?_
      refine lv_iload_n hx hb dX5_travel_141 rfl (lv_at hl 1 rfl) ?_
      refine lv_icmp_ne (tgt := 149) hx hb dX5_travel_142 (by decide) (fun c_36 => ?_) (fun c_36 => ?_)
      · replace hf := ite_f hf c_36
        refine lv_iconst hx hb dX5_travel_149 ic_0 ?_
        cases hf
        exact retK_z E hw nb0 dX5_travel_150
      · replace hf := ite_t hf c_36
        refine lv_iconst hx hb dX5_travel_145 ic_1 ?_
        refine lv_goto (tgt := 150) hx hb dX5_travel_146 (by decide) ?_
        cases hf
        exact retK_z E hw nb1 dX5_travel_150
set_option maxRecDepth 100000 in
set_option maxHeartbeats 4000000 in
theorem mk5_travel {l : Launch} {D : va_G} {a : Nat → Nat} {g : Nat → ClassId} (hD : ∀ S, va_D (AK a) (wK a g S)) {F : Nat} {S : SS} {x1 x2 : Int32} {out : (Int32 × SS)} (hf : k5_travel F S x1 x2 = some out) : Met l yX5_travel (wsm yX5_travel cX5_travel 6 (some .boolean)) (RM 4) (PK D a g S [.ref (a 2), .int x1, .int x2]) (QK D a g (some (.int out.1)) out.2) 0 0 (AK a) := by
  refine Met.ofW (cc := cX5_travel) (maxL := 6) (ret := (some .boolean)) (by decide) rfl ?_
  intro p e s m args below meth c s₁ B hml hv
  obtain ⟨rfl, hP, hK, hN⟩ := hv
  have hts := atoms_spec (ws := wsm yX5_travel cX5_travel 6 (some .boolean)) B.pre
  have E : EK p s m _ meth c D a g cX5_travel 6 RX5 (some .boolean) := ⟨B.exec, B.bytes, B.returns, hml, findClass_of_methodNamed B.named, fun w h => hts w (List.mem_cons_of_mem _ h), hK, hN, hD, B.notSynchronized⟩
  have hx := E.hx
  have hb := E.hb
  have hw : WK D a g S s s.heap [] := ⟨hP, va_S.rf⟩
  have hl := lv_entry ([.ref (a 2), .int x1, .int x2]) (n := 6) (Nat.le_of_ble_eq_true rfl)
  rw [lg_entry_eq]
  generalize (lg_sl ([.ref (a 2), .int x1, .int x2]) ++ List.replicate (6 - (lg_sl ([.ref (a 2), .int x1, .int x2])).length) Slot.unset).toArray = ls at hl ⊢
  have hl : lv_has ls 6 [(0, .ref (a 2)), (1, .int (x1)), (2, .int (x2))] := hl
  show W p l e (RM 4) s m _ below meth c s.heap [] 0 0 (MQ below (QK D a g (some (.int out.1)) out.2) _ s 0 0 (AK a)) (F0 m 0 ls [])
  unfold k5_travel at hf
  refine lv_aload_n hx hb dX5_travel_0 rfl (lv_at hl 0 rfl) ?_
  refine gK_2_1 E hw (E.hts _ wl99) dX5_travel_1 ?_
  refine lv_iconst hx hb dX5_travel_4 ic_0 ?_
  obtain ⟨S_3, h_1, hf⟩ := ob_at hf
  refine qk7_fill_14 E hw (mk7_fill_14 E.hD h_1) wl371 dX5_travel_5 ⟨Nat.le_of_ble_eq_true rfl, Nat.le_of_ble_eq_true rfl⟩ hl.1 (Nat.le_of_ble_eq_true rfl) ⟨Nat.le_refl 0, Nat.le_refl 0⟩ (fun H locs hw => ?_)
  refine lv_aload_n hx hb dX5_travel_8 rfl (lv_at hl 0 rfl) ?_
  refine lv_iconst hx hb dX5_travel_9 ic_m1 ?_
  refine pK_2_4 E hw (E.hts _ wl102) dX5_travel_10 (fun S_4 eS_4 H locs hw => ?_)
  replace hf := bnd_at hf eS_4
  refine lv_aload_n hx hb dX5_travel_13 rfl (lv_at hl 0 rfl) ?_
  refine lv_iconst hx hb dX5_travel_14 ic_m1 ?_
  refine pK_2_5 E hw (E.hts _ wl103) dX5_travel_15 (fun S_5 eS_5 H locs hw => ?_)
  replace hf := bnd_at hf eS_5
  refine lv_iload_n hx hb dX5_travel_18 rfl (lv_at hl 1 rfl) ?_
  refine lv_topi (fun x3_6 ex3_6 => ?_)
  replace hf := bnd_at hf ex3_6
  refine lv_istore_n (lv' := [(3, .int (x3_6)), (0, .ref (a 2)), (1, .int (x1)), (2, .int (x2))]) hx hb dX5_travel_19 rfl hl (by decide) rfl (fun ls hl => ?_)
  refine lv_iconst hx hb dX5_travel_20 ic_0 ?_
  refine lv_topi (fun x4_7 ex4_7 => ?_)
  replace hf := bnd_at hf ex4_7
  refine lv_istore (lv' := [(4, .int (x4_7)), (3, .int (x3_6)), (0, .ref (a 2)), (1, .int (x1)), (2, .int (x2))]) hx hb dX5_travel_21 hl (by decide) rfl (fun ls hl => ?_)
  refine k5_travel_l23 E (x2) ?_ F S_5 (x3_6) (x4_7) _ _ ls hf hw (lv_sub hl [2, 4, 1, 0] rfl)
  · intro S_27 x3_27 H locs ls hf hw hl
    exact k5_travel_J120_j E S_27 (x2) (x3_27) _ _ ls hf hw (lv_sub hl [0, 1, 2] rfl)
theorem qk5_travel {p : Program} {l : Launch} {e : Env} {R : Room} {s : State} {m : MethodId} {args : Array Value} {below : List Frame} {meth : Method} {c : Code} {H : Heap} {locs : List Loc} {cells slots : Nat} {Q : State → Prop} {cc : ByteArray} {pc : Nat} {ls : Array Slot} {rest : List Value} {D : va_G} {a : Nat → Nat} {g : Nat → ClassId} {nL : Nat} {own : String} {ret : Option FieldType} {S S1 : SS} {k : Nat} {x1 x2 : Int32} {r : Int32} (E : EK p s m args meth c D a g cc nL own ret) (hw : WK D a g S s H locs) (hM : Met l yX5_travel (wsm yX5_travel cX5_travel 6 (some .boolean)) (RM k) (PK D a g S [.ref (a 2), .int x1, .int x2]) (QK D a g (some (.int r)) S1) 0 0 (AK a)) {idx : Nat} (hlk : Cond.methodLink own idx yX5_travel ∈ wd) (hdg : decode cc pc = .ok (.invokevirtual idx, 3)) (hR : k + 1 ≤ R.frames ∧ 8 + (6 + 11) + 64 * k ≤ R.locals) (hls : ls.size = nL) (hrest : (rest.map fun v => v.category).sum ≤ 8) (hcs : cells ≤ R.cells ∧ slots ≤ R.slots) (kk : ∀ (H1 : Heap) (locs1 : List Loc), WK D a g S1 s H1 locs1 → W p l e R s m args below meth c H1 locs1 cells slots Q (F0 m (pc + 3) ls (.int r :: rest))) : W p l e R s m args below meth c H locs cells slots Q (F0 m pc ls (.int x2 :: .int x1 :: .ref (a 2) :: rest)) :=
  callK_i hw (va_runV (As := [.int x1, .int x2]) (rest := rest) ⟨E.hx, E.hb, E.hml, E.hown, E.hts⟩ hM ⟨cb_of 2 E.hts wl370 wl38 hlk (by decide +kernel) hR, E.hts _ wl369, E.hts _ wl1⟩ ⟨PK_blind, va_recv E.hK hw.1 (ci := 5) (q0 := 2) rfl rfl, PK_pre E.hK E.hN hw.1⟩ rfl rfl hls rfl (lv_room hrest) hdg hcs) kk
/-! X7_sumOf[14] -/
def k7_sumOf_14_B4 (F : Nat) (S : SS) (rec4 : Int32 → Int32 → Option Int32) (x1 : Int32) (x2 : Int32) : Option Int32 :=
  if ((8 : Int32)) ≤ x2 then (some (x1)) else ((rdA 8 (S 14) x2).bind fun v_4 => bnd (x1 + v_4) fun x1_5 => bnd (x2 + (1)) fun x2_6 => rec4 (x1_5) (x2_6))
def k7_sumOf_14 (F : Nat) (S : SS) : Option Int32 :=
  bnd ((0 : Int32)) fun x1_1 => bnd ((0 : Int32)) fun x2_2 => lpN (fun _ _ => none) (fun rec4 => k7_sumOf_14_B4 F S rec4 ) F (x1_1) (x2_2)
set_option maxRecDepth 100000 in
set_option maxHeartbeats 4000000 in
theorem k7_sumOf_14_b4 {p : Program} {l : Launch} {e : Env} {s : State} {m : MethodId} {args : Array Value} {below : List Frame} {meth : Method} {c : Code} {D : va_G} {a : Nat → Nat} {g : Nat → ClassId} (E : EK p s m args meth c D a g cX7_sumOf 3 RX7 (some .int)) {F : Nat}  (S : SS) {rec4 : Int32 → Int32 → Option Int32} {out : Int32} (hrec4 : ∀ (x1 : Int32) (x2 : Int32) (H : Heap) (locs : List Loc) (ls : Array Slot), rec4 x1 x2 = some out → WK D a g S s H locs → lv_has ls 3 [(0, .ref (a 14)), (1, .int (x1)), (2, .int (x2))] → W p l e (RM 1) s m args below meth c H locs 0 0 (MQ below (QK D a g (some (.int out)) S) args s 0 0 (AK a)) (F0 m 4 ls []))  (x1 : Int32) (x2 : Int32) (H : Heap) (locs : List Loc) (ls : Array Slot) (hf : k7_sumOf_14_B4 F S rec4 x1 x2 = some out) (hw : WK D a g S s H locs) (hl : lv_has ls 3 [(0, .ref (a 14)), (1, .int (x1)), (2, .int (x2))]) : W p l e (RM 1) s m args below meth c H locs 0 0 (MQ below (QK D a g (some (.int out)) S) args s 0 0 (AK a)) (F0 m 4 ls []) := by
  have hx := E.hx
  have hb := E.hb
  unfold k7_sumOf_14_B4 at hf
  refine lv_iload_n hx hb dX7_sumOf_4 rfl (lv_at hl 2 rfl) ?_
  refine lv_aload_n hx hb dX7_sumOf_5 rfl (lv_at hl 0 rfl) ?_
  refine va_alen hx hb E.hK hw.1 14 6 rfl rfl (v := 8) rfl dX7_sumOf_6 ?_
  refine lv_icmp_ge (tgt := 22) hx hb dX7_sumOf_7 (by decide) (fun c_3 => ?_) (fun c_3 => ?_)
  · replace hf := ite_t hf c_3
    refine lv_iload_n hx hb dX7_sumOf_22 rfl (lv_at hl 1 rfl) ?_
    cases hf
    exact retK_i E hw dX7_sumOf_23
  · replace hf := ite_f hf c_3
    refine lv_iload_n hx hb dX7_sumOf_10 rfl (lv_at hl 1 rfl) ?_
    refine lv_aload_n hx hb dX7_sumOf_11 rfl (lv_at hl 0 rfl) ?_
    refine lv_iload_n hx hb dX7_sumOf_12 rfl (lv_at hl 2 rfl) ?_
    obtain ⟨h_v_4, hf⟩ := rdA_at hf
    refine lK_14 E hw h_v_4 dX7_sumOf_13 (fun v_4 ev_4 => ?_)
    replace hf := hf v_4 ev_4
    refine lv_iadd hx hb dX7_sumOf_14 ?_
    refine lv_topi (fun x1_5 ex1_5 => ?_)
    replace hf := bnd_at hf ex1_5
    refine lv_istore_n (lv' := [(1, .int (x1_5)), (0, .ref (a 14)), (2, .int (x2))]) hx hb dX7_sumOf_15 rfl hl (by decide) rfl (fun ls hl => ?_)
    obtain ⟨x2_6, ex2_6⟩ : ∃ y : Int32, y = x2 + (1) := ⟨_, rfl⟩
    replace hf := bnd_at hf ex2_6
    refine lv_iinc (v := x2_6) (lv' := [(2, .int (x2_6)), (1, .int (x1_5)), (0, .ref (a 14))]) hx hb dX7_sumOf_16 hl (k := 2) rfl (by rw [ex2_6]; rfl) (by decide) rfl (fun ls hl => ?_)
    refine lv_goto (tgt := 4) hx hb dX7_sumOf_19 (by decide) ?_
    exact hrec4 (x1_5) (x2_6) _ _ ls hf hw (lv_sub hl [2, 1, 0] rfl)
theorem k7_sumOf_14_l4 {p : Program} {l : Launch} {e : Env} {s : State} {m : MethodId} {args : Array Value} {below : List Frame} {meth : Method} {c : Code} {D : va_G} {a : Nat → Nat} {g : Nat → ClassId} (E : EK p s m args meth c D a g cX7_sumOf 3 RX7 (some .int)) {F : Nat}  (S : SS) {out : Int32}  : ∀ (n : Nat) (x1 : Int32) (x2 : Int32) (H : Heap) (locs : List Loc) (ls : Array Slot), lpN (fun _ _ => none) (fun rec4 => k7_sumOf_14_B4 F S rec4) n x1 x2 = some out → WK D a g S s H locs → lv_has ls 3 [(0, .ref (a 14)), (1, .int (x1)), (2, .int (x2))] → W p l e (RM 1) s m args below meth c H locs 0 0 (MQ below (QK D a g (some (.int out)) S) args s 0 0 (AK a)) (F0 m 4 ls []) := by
  intro n
  induction n with
  | zero => intro x1 x2 H locs ls hf; cases (show (none : Option Int32) = some out from hf)
  | succ n ih => intro x1 x2 H locs ls hf hw hl; exact k7_sumOf_14_b4 E (F := F) S ih x1 x2 H locs ls hf hw hl
set_option maxRecDepth 100000 in
set_option maxHeartbeats 4000000 in
theorem mk7_sumOf_14 {l : Launch} {D : va_G} {a : Nat → Nat} {g : Nat → ClassId} (hD : ∀ S, va_D (AK a) (wK a g S)) {F : Nat} {S : SS} {out : Int32} (hf : k7_sumOf_14 F S  = some out) : Met l yX7_sumOf (wsm yX7_sumOf cX7_sumOf 3 (some .int)) (RM 1) (PK D a g S [.ref (a 14)]) (QK D a g (some (.int out)) S) 0 0 (AK a) := by
  refine Met.ofW (cc := cX7_sumOf) (maxL := 3) (ret := (some .int)) (by decide) rfl ?_
  intro p e s m args below meth c s₁ B hml hv
  obtain ⟨rfl, hP, hK, hN⟩ := hv
  have hts := atoms_spec (ws := wsm yX7_sumOf cX7_sumOf 3 (some .int)) B.pre
  have E : EK p s m _ meth c D a g cX7_sumOf 3 RX7 (some .int) := ⟨B.exec, B.bytes, B.returns, hml, findClass_of_methodNamed B.named, fun w h => hts w (List.mem_cons_of_mem _ h), hK, hN, hD, B.notSynchronized⟩
  have hx := E.hx
  have hb := E.hb
  have hw : WK D a g S s s.heap [] := ⟨hP, va_S.rf⟩
  have hl := lv_entry ([.ref (a 14)]) (n := 3) (Nat.le_of_ble_eq_true rfl)
  rw [lg_entry_eq]
  generalize (lg_sl ([.ref (a 14)]) ++ List.replicate (3 - (lg_sl ([.ref (a 14)])).length) Slot.unset).toArray = ls at hl ⊢
  have hl : lv_has ls 3 [(0, .ref (a 14))] := hl
  show W p l e (RM 1) s m _ below meth c s.heap [] 0 0 (MQ below (QK D a g (some (.int out)) S) _ s 0 0 (AK a)) (F0 m 0 ls [])
  unfold k7_sumOf_14 at hf
  refine lv_iconst hx hb dX7_sumOf_0 ic_0 ?_
  refine lv_topi (fun x1_1 ex1_1 => ?_)
  replace hf := bnd_at hf ex1_1
  refine lv_istore_n (lv' := [(1, .int (x1_1)), (0, .ref (a 14))]) hx hb dX7_sumOf_1 rfl hl (by decide) rfl (fun ls hl => ?_)
  refine lv_iconst hx hb dX7_sumOf_2 ic_0 ?_
  refine lv_topi (fun x2_2 ex2_2 => ?_)
  replace hf := bnd_at hf ex2_2
  refine lv_istore_n (lv' := [(2, .int (x2_2)), (1, .int (x1_1)), (0, .ref (a 14))]) hx hb dX7_sumOf_3 rfl hl (by decide) rfl (fun ls hl => ?_)
  refine k7_sumOf_14_l4 E S  F (x1_1) (x2_2) _ _ ls hf hw (lv_sub hl [2, 1, 0] rfl)
theorem qnk7_sumOf_14 {p : Program} {l : Launch} {e : Env} {R : Room} {s : State} {m : MethodId} {args : Array Value} {below : List Frame} {meth : Method} {c : Code} {H : Heap} {locs : List Loc} {cells slots : Nat} {Q : State → Prop} {cc : ByteArray} {pc : Nat} {ls : Array Slot} {rest : List Value} {D : va_G} {a : Nat → Nat} {g : Nat → ClassId} {nL : Nat} {own : String} {ret : Option FieldType} {S S1 : SS} {k : Nat} {r : Int32} (E : EK p s m args meth c D a g cc nL own ret) (hw : WK D a g S s H locs) (hM : Met l yX7_sumOf (wsm yX7_sumOf cX7_sumOf 3 (some .int)) (RM k) (PK D a g S [.ref (a 14)]) (QK D a g (some (.int r)) S1) 0 0 (AK a)) {idx : Nat} {host : String} (hlk : Cond.methodLinkNest own idx yX7_sumOf host ∈ nestW) (hdg : decode cc pc = .ok (.invokestatic idx, 3)) (hR : k + 1 ≤ R.frames ∧ 8 + (3 + 11) + 64 * k ≤ R.locals) (hls : ls.size = nL) (hrest : (rest.map fun v => v.category).sum ≤ 8) (hcs : cells ≤ R.cells ∧ slots ≤ R.slots) (kk : ∀ (H1 : Heap) (locs1 : List Loc), WK D a g S1 s H1 locs1 → W p l e R s m args below meth c H1 locs1 cells slots Q (F0 m (pc + 3) ls (.int r :: rest))) : W p l e R s m args below meth c H locs cells slots Q (F0 m pc ls (.ref (a 14) :: rest)) :=
  callK_i hw (va_runSN (As := [.ref (a 14)]) (rest := rest) ⟨E.hx, E.hb, E.hml, E.hown, E.hts⟩ hM ⟨cn_of 1 E.hts wl381 wl35 (E.hN.at hlk) (by decide +kernel) hR, E.hts _ wl380, trivial⟩ ⟨PK_blind, PK_pre E.hK E.hN hw.1⟩ rfl rfl hls rfl (lv_room hrest) hdg hcs) kk
/-! X5_giveOneMore -/
def k5_giveOneMore_B4 (F : Nat) (S : SS) (rec4 : Int32 → Int32 → Option SS) (k33 : Int32 → Option SS) (x1 : Int32) (x2 : Int32) : Option SS :=
  if ((8 : Int32)) ≤ x2 then (k33 (x1)) else ((rdA 8 (S 15) x2).bind fun v_4 => (rdA 8 (S 15) x1).bind fun v_5 => if v_4 ≤ v_5 then (bnd (x2 + (1)) fun x2_7 => rec4 (x1) (x2_7)) else (bnd (x2) fun x1_8 => bnd (x2 + (1)) fun x2_9 => rec4 (x1_8) (x2_9)))
def k5_giveOneMore (F : Nat) (S : SS) : Option SS :=
  bnd ((0 : Int32)) fun x1_1 => bnd ((1 : Int32)) fun x2_2 => lpN (fun _ _ => none) (fun rec4 => k5_giveOneMore_B4 F S rec4 (fun x1_10 => (rdA 8 (S 13) x1_10).bind fun v_11 => (ckA 8 x1_10).bind fun _ => bnd (st S 13 (Int32.toNatClampNeg x1_10) (v_11 + ((1 : Int32)))) fun S_12 => (ckA 8 x1_10).bind fun _ => bnd (st S_12 15 (Int32.toNatClampNeg x1_10) ((-1 : Int32))) fun S_13 => some S_13)) F (x1_1) (x2_2)
set_option maxRecDepth 100000 in
set_option maxHeartbeats 4000000 in
theorem k5_giveOneMore_b4 {p : Program} {l : Launch} {e : Env} {s : State} {m : MethodId} {args : Array Value} {below : List Frame} {meth : Method} {c : Code} {D : va_G} {a : Nat → Nat} {g : Nat → ClassId} (E : EK p s m args meth c D a g cX5_giveOneMore 3 RX5 none) {F : Nat}  (S : SS) {rec4 : Int32 → Int32 → Option SS} {k33 : Int32 → Option SS} {out : SS} (hrec4 : ∀ (x1 : Int32) (x2 : Int32) (H : Heap) (locs : List Loc) (ls : Array Slot), rec4 x1 x2 = some out → WK D a g S s H locs → lv_has ls 3 [(0, .ref (a 2)), (1, .int (x1)), (2, .int (x2))] → W p l e (RM 1) s m args below meth c H locs 0 0 (MQ below (QK D a g none out) args s 0 0 (AK a)) (F0 m 4 ls [])) (hk33 : ∀ (x1 : Int32) (H : Heap) (locs : List Loc) (ls : Array Slot), k33 x1 = some out → WK D a g S s H locs → lv_has ls 3 [(0, .ref (a 2)), (1, .int (x1))] → W p l e (RM 1) s m args below meth c H locs 0 0 (MQ below (QK D a g none out) args s 0 0 (AK a)) (F0 m 33 ls [])) (x1 : Int32) (x2 : Int32) (H : Heap) (locs : List Loc) (ls : Array Slot) (hf : k5_giveOneMore_B4 F S rec4 k33 x1 x2 = some out) (hw : WK D a g S s H locs) (hl : lv_has ls 3 [(0, .ref (a 2)), (1, .int (x1)), (2, .int (x2))]) : W p l e (RM 1) s m args below meth c H locs 0 0 (MQ below (QK D a g none out) args s 0 0 (AK a)) (F0 m 4 ls []) := by
  have hx := E.hx
  have hb := E.hb
  unfold k5_giveOneMore_B4 at hf
  refine lv_iload_n hx hb dX5_giveOneMore_4 rfl (lv_at hl 2 rfl) ?_
  refine lv_bipush hx hb dX5_giveOneMore_5 bp_8 ?_
  refine lv_icmp_ge (tgt := 33) hx hb dX5_giveOneMore_7 (by decide) (fun c_3 => ?_) (fun c_3 => ?_)
  · replace hf := ite_t hf c_3
    exact hk33 (x1) _ _ ls hf hw (lv_sub hl [0, 1] rfl)
  · replace hf := ite_f hf c_3
    refine lv_aload_n hx hb dX5_giveOneMore_10 rfl (lv_at hl 0 rfl) ?_
    refine gK_2_2 E hw (E.hts _ wl100) dX5_giveOneMore_11 ?_
    refine lv_iload_n hx hb dX5_giveOneMore_14 rfl (lv_at hl 2 rfl) ?_
    obtain ⟨h_v_4, hf⟩ := rdA_at hf
    refine lK_15 E hw h_v_4 dX5_giveOneMore_15 (fun v_4 ev_4 => ?_)
    replace hf := hf v_4 ev_4
    refine lv_aload_n hx hb dX5_giveOneMore_16 rfl (lv_at hl 0 rfl) ?_
    refine gK_2_2 E hw (E.hts _ wl100) dX5_giveOneMore_17 ?_
    refine lv_iload_n hx hb dX5_giveOneMore_20 rfl (lv_at hl 1 rfl) ?_
    obtain ⟨h_v_5, hf⟩ := rdA_at hf
    refine lK_15 E hw h_v_5 dX5_giveOneMore_21 (fun v_5 ev_5 => ?_)
    replace hf := hf v_5 ev_5
    refine lv_icmp_le (tgt := 27) hx hb dX5_giveOneMore_22 (by decide) (fun c_6 => ?_) (fun c_6 => ?_)
    · replace hf := ite_t hf c_6
      obtain ⟨x2_7, ex2_7⟩ : ∃ y : Int32, y = x2 + (1) := ⟨_, rfl⟩
      replace hf := bnd_at hf ex2_7
      refine lv_iinc (v := x2_7) (lv' := [(2, .int (x2_7)), (0, .ref (a 2)), (1, .int (x1))]) hx hb dX5_giveOneMore_27 hl (k := 2) rfl (by rw [ex2_7]; rfl) (by decide) rfl (fun ls hl => ?_)
      refine lv_goto (tgt := 4) hx hb dX5_giveOneMore_30 (by decide) ?_
      exact hrec4 (x1) (x2_7) _ _ ls hf hw (lv_sub hl [1, 2, 0] rfl)
    · replace hf := ite_f hf c_6
      refine lv_iload_n hx hb dX5_giveOneMore_25 rfl (lv_at hl 2 rfl) ?_
      refine lv_topi (fun x1_8 ex1_8 => ?_)
      replace hf := bnd_at hf ex1_8
      refine lv_istore_n (lv' := [(1, .int (x1_8)), (0, .ref (a 2)), (2, .int (x2))]) hx hb dX5_giveOneMore_26 rfl hl (by decide) rfl (fun ls hl => ?_)
      obtain ⟨x2_9, ex2_9⟩ : ∃ y : Int32, y = x2 + (1) := ⟨_, rfl⟩
      replace hf := bnd_at hf ex2_9
      refine lv_iinc (v := x2_9) (lv' := [(2, .int (x2_9)), (1, .int (x1_8)), (0, .ref (a 2))]) hx hb dX5_giveOneMore_27 hl (k := 2) rfl (by rw [ex2_9]; rfl) (by decide) rfl (fun ls hl => ?_)
      refine lv_goto (tgt := 4) hx hb dX5_giveOneMore_30 (by decide) ?_
      exact hrec4 (x1_8) (x2_9) _ _ ls hf hw (lv_sub hl [2, 1, 0] rfl)
theorem k5_giveOneMore_l4 {p : Program} {l : Launch} {e : Env} {s : State} {m : MethodId} {args : Array Value} {below : List Frame} {meth : Method} {c : Code} {D : va_G} {a : Nat → Nat} {g : Nat → ClassId} (E : EK p s m args meth c D a g cX5_giveOneMore 3 RX5 none) {F : Nat}  (S : SS) {k33 : Int32 → Option SS} {out : SS} (hk33 : ∀ (x1 : Int32) (H : Heap) (locs : List Loc) (ls : Array Slot), k33 x1 = some out → WK D a g S s H locs → lv_has ls 3 [(0, .ref (a 2)), (1, .int (x1))] → W p l e (RM 1) s m args below meth c H locs 0 0 (MQ below (QK D a g none out) args s 0 0 (AK a)) (F0 m 33 ls [])) : ∀ (n : Nat) (x1 : Int32) (x2 : Int32) (H : Heap) (locs : List Loc) (ls : Array Slot), lpN (fun _ _ => none) (fun rec4 => k5_giveOneMore_B4 F S rec4 k33) n x1 x2 = some out → WK D a g S s H locs → lv_has ls 3 [(0, .ref (a 2)), (1, .int (x1)), (2, .int (x2))] → W p l e (RM 1) s m args below meth c H locs 0 0 (MQ below (QK D a g none out) args s 0 0 (AK a)) (F0 m 4 ls []) := by
  intro n
  induction n with
  | zero => intro x1 x2 H locs ls hf; cases (show (none : Option SS) = some out from hf)
  | succ n ih => intro x1 x2 H locs ls hf hw hl; exact k5_giveOneMore_b4 E (F := F) S ih hk33 x1 x2 H locs ls hf hw hl
set_option maxRecDepth 100000 in
set_option maxHeartbeats 4000000 in
theorem mk5_giveOneMore {l : Launch} {D : va_G} {a : Nat → Nat} {g : Nat → ClassId} (hD : ∀ S, va_D (AK a) (wK a g S)) {F : Nat} {S : SS} {out : SS} (hf : k5_giveOneMore F S  = some out) : Met l yX5_giveOneMore (wsm yX5_giveOneMore cX5_giveOneMore 3 none) (RM 1) (PK D a g S [.ref (a 2)]) (QK D a g none out) 0 0 (AK a) := by
  refine Met.ofW (cc := cX5_giveOneMore) (maxL := 3) (ret := none) (by decide) rfl ?_
  intro p e s m args below meth c s₁ B hml hv
  obtain ⟨rfl, hP, hK, hN⟩ := hv
  have hts := atoms_spec (ws := wsm yX5_giveOneMore cX5_giveOneMore 3 none) B.pre
  have E : EK p s m _ meth c D a g cX5_giveOneMore 3 RX5 none := ⟨B.exec, B.bytes, B.returns, hml, findClass_of_methodNamed B.named, fun w h => hts w (List.mem_cons_of_mem _ h), hK, hN, hD, B.notSynchronized⟩
  have hx := E.hx
  have hb := E.hb
  have hw : WK D a g S s s.heap [] := ⟨hP, va_S.rf⟩
  have hl := lv_entry ([.ref (a 2)]) (n := 3) (Nat.le_of_ble_eq_true rfl)
  rw [lg_entry_eq]
  generalize (lg_sl ([.ref (a 2)]) ++ List.replicate (3 - (lg_sl ([.ref (a 2)])).length) Slot.unset).toArray = ls at hl ⊢
  have hl : lv_has ls 3 [(0, .ref (a 2))] := hl
  show W p l e (RM 1) s m _ below meth c s.heap [] 0 0 (MQ below (QK D a g none out) _ s 0 0 (AK a)) (F0 m 0 ls [])
  unfold k5_giveOneMore at hf
  refine lv_iconst hx hb dX5_giveOneMore_0 ic_0 ?_
  refine lv_topi (fun x1_1 ex1_1 => ?_)
  replace hf := bnd_at hf ex1_1
  refine lv_istore_n (lv' := [(1, .int (x1_1)), (0, .ref (a 2))]) hx hb dX5_giveOneMore_1 rfl hl (by decide) rfl (fun ls hl => ?_)
  refine lv_iconst hx hb dX5_giveOneMore_2 ic_1 ?_
  refine lv_topi (fun x2_2 ex2_2 => ?_)
  replace hf := bnd_at hf ex2_2
  refine lv_istore_n (lv' := [(2, .int (x2_2)), (1, .int (x1_1)), (0, .ref (a 2))]) hx hb dX5_giveOneMore_3 rfl hl (by decide) rfl (fun ls hl => ?_)
  refine k5_giveOneMore_l4 E S ?_ F (x1_1) (x2_2) _ _ ls hf hw (lv_sub hl [2, 1, 0] rfl)
  · intro x1_10 H locs ls hf hw hl
    refine lv_aload_n hx hb dX5_giveOneMore_33 rfl (lv_at hl 0 rfl) ?_
    refine gK_2_0 E hw (E.hts _ wl97) dX5_giveOneMore_34 ?_
    refine lv_iload_n hx hb dX5_giveOneMore_37 rfl (lv_at hl 1 rfl) ?_
    refine lv_dup2_11 hx hb dX5_giveOneMore_38 rfl rfl ?_
    obtain ⟨h_v_11, hf⟩ := rdA_at hf
    refine lK_13 E hw h_v_11 dX5_giveOneMore_39 (fun v_11 ev_11 => ?_)
    replace hf := hf v_11 ev_11
    refine lv_iconst hx hb dX5_giveOneMore_40 ic_1 ?_
    refine lv_iadd hx hb dX5_giveOneMore_41 ?_
    obtain ⟨h_S_12, hf⟩ := ckA_at hf
    refine sK_13 E hw h_S_12 dX5_giveOneMore_42 (fun S_12 eS_12 H locs hw => ?_)
    replace hf := bnd_at hf eS_12
    refine lv_aload_n hx hb dX5_giveOneMore_43 rfl (lv_at hl 0 rfl) ?_
    refine gK_2_2 E hw (E.hts _ wl100) dX5_giveOneMore_44 ?_
    refine lv_iload_n hx hb dX5_giveOneMore_47 rfl (lv_at hl 1 rfl) ?_
    refine lv_iconst hx hb dX5_giveOneMore_48 ic_m1 ?_
    obtain ⟨h_S_13, hf⟩ := ckA_at hf
    refine sK_15 E hw h_S_13 dX5_giveOneMore_49 (fun S_13 eS_13 H locs hw => ?_)
    replace hf := bnd_at hf eS_13
    cases hf
    exact retK_v E hw dX5_giveOneMore_50
theorem qk5_giveOneMore {p : Program} {l : Launch} {e : Env} {R : Room} {s : State} {m : MethodId} {args : Array Value} {below : List Frame} {meth : Method} {c : Code} {H : Heap} {locs : List Loc} {cells slots : Nat} {Q : State → Prop} {cc : ByteArray} {pc : Nat} {ls : Array Slot} {rest : List Value} {D : va_G} {a : Nat → Nat} {g : Nat → ClassId} {nL : Nat} {own : String} {ret : Option FieldType} {S S1 : SS} {k : Nat} (E : EK p s m args meth c D a g cc nL own ret) (hw : WK D a g S s H locs) (hM : Met l yX5_giveOneMore (wsm yX5_giveOneMore cX5_giveOneMore 3 none) (RM k) (PK D a g S [.ref (a 2)]) (QK D a g none S1) 0 0 (AK a)) {idx : Nat} (hlk : Cond.methodLink own idx yX5_giveOneMore ∈ wd) (hdg : decode cc pc = .ok (.invokevirtual idx, 3)) (hR : k + 1 ≤ R.frames ∧ 8 + (3 + 11) + 64 * k ≤ R.locals) (hls : ls.size = nL) (hrest : (rest.map fun v => v.category).sum ≤ 8) (hcs : cells ≤ R.cells ∧ slots ≤ R.slots) (kk : ∀ (H1 : Heap) (locs1 : List Loc), WK D a g S1 s H1 locs1 → W p l e R s m args below meth c H1 locs1 cells slots Q (F0 m (pc + 3) ls (rest))) : W p l e R s m args below meth c H locs cells slots Q (F0 m pc ls (.ref (a 2) :: rest)) :=
  callK_v hw (va_runV (As := []) (rest := rest) ⟨E.hx, E.hb, E.hml, E.hown, E.hts⟩ hM ⟨cb_of 0 E.hts wl385 wl38 hlk (by decide +kernel) hR, E.hts _ wl384, E.hts _ wl3⟩ ⟨PK_blind, va_recv E.hK hw.1 (ci := 5) (q0 := 2) rfl rfl, PK_pre E.hK E.hN hw.1⟩ rfl rfl hls rfl (lv_room hrest) hdg hcs) kk
/-! X5_divideByMiles -/
def k5_divideByMiles_B19 (F : Nat) (x1 : Int32) (x2 : Int32) (rec19 : SS → Int32 → Int32 → Option (Int32 × SS)) (k81 : SS → Int32 → Option (Int32 × SS)) (S : SS) (x3 : Int32) (x4 : Int32) : Option (Int32 × SS) :=
  if ((8 : Int32)) ≤ x4 then (k81 S (x3)) else ((rdA 8 (S 14) x4).bind fun v_9 => bnd ((Int32.toInt64 x1) * (Int32.toInt64 v_9)) fun x5_10 => (ckL (Int32.toInt64 x2)).bind fun _ => (ckA 8 x4).bind fun _ => bnd (st S 13 (Int32.toNatClampNeg x4) (Int64.toInt32 (x5_10 / (Int32.toInt64 x2)))) fun S_11 => (ckL (Int32.toInt64 x2)).bind fun _ => (ckA 8 x4).bind fun _ => bnd (st S_11 15 (Int32.toNatClampNeg x4) (Int64.toInt32 (x5_10 - x5_10 / (Int32.toInt64 x2) * (Int32.toInt64 x2)))) fun S_12 => (rdA 8 (S_12 13) x4).bind fun v_13 => bnd (x3 - v_13) fun x3_14 => bnd (x4 + (1)) fun x4_15 => rec19 S_12 (x3_14) (x4_15))
def k5_divideByMiles_B84 (F : Nat) (x3 : Int32) (rec84 : SS → Int32 → Option (Int32 × SS)) (S : SS) (x4 : Int32) : Option (Int32 × SS) :=
  if ((8 : Int32)) ≤ x4 then (some ((1 : Int32), S)) else (if x3 ≤ x4 then (some ((1 : Int32), S)) else ((k5_giveOneMore F S ).bind fun S_24 => bnd (x4 + (1)) fun x4_25 => rec84 S_24 (x4_25)))
def k5_divideByMiles (F : Nat) (S : SS) (x1 : Int32) : Option (Int32 × SS) :=
  (k7_sumOf_14 F S ).bind fun r_2 => bnd (r_2) fun x2_4 => if (0 : Int32) < x2_4 then (bnd (x1) fun x3_6 => bnd ((0 : Int32)) fun x4_7 => lpN (fun _ _ _ => none) (fun rec19 => k5_divideByMiles_B19 F (x1) (x2_4) rec19 (fun S_18 x3_18 => bnd ((0 : Int32)) fun x4_19 => lpN (fun _ _ => none) (fun rec84 => k5_divideByMiles_B84 F (x3_18) rec84 ) F S_18 (x4_19))) F S (x3_6) (x4_7)) else (some ((0 : Int32), S))
set_option maxRecDepth 100000 in
set_option maxHeartbeats 4000000 in
theorem k5_divideByMiles_b19 {p : Program} {l : Launch} {e : Env} {s : State} {m : MethodId} {args : Array Value} {below : List Frame} {meth : Method} {c : Code} {D : va_G} {a : Nat → Nat} {g : Nat → ClassId} (E : EK p s m args meth c D a g cX5_divideByMiles 7 RX5 (some .boolean)) {F : Nat}  (x1 : Int32) (x2 : Int32) {rec19 : SS → Int32 → Int32 → Option (Int32 × SS)} {k81 : SS → Int32 → Option (Int32 × SS)} {out : (Int32 × SS)} (hrec19 : ∀ (S : SS) (x3 : Int32) (x4 : Int32) (H : Heap) (locs : List Loc) (ls : Array Slot), rec19 S x3 x4 = some out → WK D a g S s H locs → lv_has ls 7 [(0, .ref (a 2)), (1, .int (x1)), (2, .int (x2)), (3, .int (x3)), (4, .int (x4))] → W p l e (RM 2) s m args below meth c H locs 0 0 (MQ below (QK D a g (some (.int out.1)) out.2) args s 0 0 (AK a)) (F0 m 19 ls [])) (hk81 : ∀ (S : SS) (x3 : Int32) (H : Heap) (locs : List Loc) (ls : Array Slot), k81 S x3 = some out → WK D a g S s H locs → lv_has ls 7 [(0, .ref (a 2)), (3, .int (x3))] → W p l e (RM 2) s m args below meth c H locs 0 0 (MQ below (QK D a g (some (.int out.1)) out.2) args s 0 0 (AK a)) (F0 m 81 ls [])) (S : SS) (x3 : Int32) (x4 : Int32) (H : Heap) (locs : List Loc) (ls : Array Slot) (hf : k5_divideByMiles_B19 F x1 x2 rec19 k81 S x3 x4 = some out) (hw : WK D a g S s H locs) (hl : lv_has ls 7 [(0, .ref (a 2)), (1, .int (x1)), (2, .int (x2)), (3, .int (x3)), (4, .int (x4))]) : W p l e (RM 2) s m args below meth c H locs 0 0 (MQ below (QK D a g (some (.int out.1)) out.2) args s 0 0 (AK a)) (F0 m 19 ls []) := by
  have hx := E.hx
  have hb := E.hb
  unfold k5_divideByMiles_B19 at hf
  refine lv_iload hx hb dX5_divideByMiles_19 (lv_at hl 4 rfl) ?_
  refine lv_bipush hx hb dX5_divideByMiles_21 bp_8 ?_
  refine lv_icmp_ge (tgt := 81) hx hb dX5_divideByMiles_23 (by decide) (fun c_8 => ?_) (fun c_8 => ?_)
  · replace hf := ite_t hf c_8
    exact hk81 S (x3) _ _ ls hf hw (lv_sub hl [0, 3] rfl)
  · replace hf := ite_f hf c_8
    refine lv_iload_n hx hb dX5_divideByMiles_26 rfl (lv_at hl 1 rfl) ?_
    refine lv_i2l (v := Int32.toInt64 x1) hx hb dX5_divideByMiles_27 rfl ?_
    refine lv_aload_n hx hb dX5_divideByMiles_28 rfl (lv_at hl 0 rfl) ?_
    refine gK_2_1 E hw (E.hts _ wl99) dX5_divideByMiles_29 ?_
    refine lv_iload hx hb dX5_divideByMiles_32 (lv_at hl 4 rfl) ?_
    obtain ⟨h_v_9, hf⟩ := rdA_at hf
    refine lK_14 E hw h_v_9 dX5_divideByMiles_34 (fun v_9 ev_9 => ?_)
    replace hf := hf v_9 ev_9
    refine lv_i2l (v := Int32.toInt64 v_9) hx hb dX5_divideByMiles_35 rfl ?_
    refine lv_lmul hx hb dX5_divideByMiles_36 ?_
    refine lv_topl (fun x5_10 ex5_10 => ?_)
    replace hf := bnd_at hf ex5_10
    refine lv_lstore (lv' := [(5, .long (x5_10)), (0, .ref (a 2)), (1, .int (x1)), (2, .int (x2)), (3, .int (x3)), (4, .int (x4))]) hx hb dX5_divideByMiles_37 hl (by decide) rfl (fun ls hl => ?_)
    refine lv_aload_n hx hb dX5_divideByMiles_39 rfl (lv_at hl 1 rfl) ?_
    refine gK_2_0 E hw (E.hts _ wl97) dX5_divideByMiles_40 ?_
    refine lv_iload hx hb dX5_divideByMiles_43 (lv_at hl 5 rfl) ?_
    refine lv_lload hx hb dX5_divideByMiles_45 (lv_at hl 0 rfl) ?_
    refine lv_iload_n hx hb dX5_divideByMiles_47 rfl (lv_at hl 3 rfl) ?_
    refine lv_i2l (v := Int32.toInt64 x2) hx hb dX5_divideByMiles_48 rfl ?_
    obtain ⟨h_17, hf⟩ := ckL_at hf
    refine lv_ldiv hx hb dX5_divideByMiles_49 h_17 ?_
    refine lv_l2i (v := Int64.toInt32 (x5_10 / (Int32.toInt64 x2))) hx hb dX5_divideByMiles_50 rfl ?_
    obtain ⟨h_S_11, hf⟩ := ckA_at hf
    refine sK_13 E hw h_S_11 dX5_divideByMiles_51 (fun S_11 eS_11 H locs hw => ?_)
    replace hf := bnd_at hf eS_11
    refine lv_aload_n hx hb dX5_divideByMiles_52 rfl (lv_at hl 1 rfl) ?_
    refine gK_2_2 E hw (E.hts _ wl100) dX5_divideByMiles_53 ?_
    refine lv_iload hx hb dX5_divideByMiles_56 (lv_at hl 5 rfl) ?_
    refine lv_lload hx hb dX5_divideByMiles_58 (lv_at hl 0 rfl) ?_
    refine lv_iload_n hx hb dX5_divideByMiles_60 rfl (lv_at hl 3 rfl) ?_
    refine lv_i2l (v := Int32.toInt64 x2) hx hb dX5_divideByMiles_61 rfl ?_
    obtain ⟨h_16, hf⟩ := ckL_at hf
    refine lv_lrem hx hb dX5_divideByMiles_62 h_16 ?_
    refine lv_l2i (v := Int64.toInt32 (x5_10 - x5_10 / (Int32.toInt64 x2) * (Int32.toInt64 x2))) hx hb dX5_divideByMiles_63 rfl ?_
    obtain ⟨h_S_12, hf⟩ := ckA_at hf
    refine sK_15 E hw h_S_12 dX5_divideByMiles_64 (fun S_12 eS_12 H locs hw => ?_)
    replace hf := bnd_at hf eS_12
    refine lv_iload_n hx hb dX5_divideByMiles_65 rfl (lv_at hl 4 rfl) ?_
    refine lv_aload_n hx hb dX5_divideByMiles_66 rfl (lv_at hl 1 rfl) ?_
    refine gK_2_0 E hw (E.hts _ wl97) dX5_divideByMiles_67 ?_
    refine lv_iload hx hb dX5_divideByMiles_70 (lv_at hl 5 rfl) ?_
    obtain ⟨h_v_13, hf⟩ := rdA_at hf
    refine lK_13 E hw h_v_13 dX5_divideByMiles_72 (fun v_13 ev_13 => ?_)
    replace hf := hf v_13 ev_13
    refine lv_isub hx hb dX5_divideByMiles_73 ?_
    refine lv_topi (fun x3_14 ex3_14 => ?_)
    replace hf := bnd_at hf ex3_14
    refine lv_istore_n (lv' := [(3, .int (x3_14)), (5, .long (x5_10)), (0, .ref (a 2)), (1, .int (x1)), (2, .int (x2)), (4, .int (x4))]) hx hb dX5_divideByMiles_74 rfl hl (by decide) rfl (fun ls hl => ?_)
    obtain ⟨x4_15, ex4_15⟩ : ∃ y : Int32, y = x4 + (1) := ⟨_, rfl⟩
    replace hf := bnd_at hf ex4_15
    refine lv_iinc (v := x4_15) (lv' := [(4, .int (x4_15)), (3, .int (x3_14)), (5, .long (x5_10)), (0, .ref (a 2)), (1, .int (x1)), (2, .int (x2))]) hx hb dX5_divideByMiles_75 hl (k := 5) rfl (by rw [ex4_15]; rfl) (by decide) rfl (fun ls hl => ?_)
    refine lv_goto (tgt := 19) hx hb dX5_divideByMiles_78 (by decide) ?_
    exact hrec19 S_12 (x3_14) (x4_15) _ _ ls hf hw (lv_sub hl [3, 4, 5, 1, 0] rfl)
theorem k5_divideByMiles_l19 {p : Program} {l : Launch} {e : Env} {s : State} {m : MethodId} {args : Array Value} {below : List Frame} {meth : Method} {c : Code} {D : va_G} {a : Nat → Nat} {g : Nat → ClassId} (E : EK p s m args meth c D a g cX5_divideByMiles 7 RX5 (some .boolean)) {F : Nat}  (x1 : Int32) (x2 : Int32) {k81 : SS → Int32 → Option (Int32 × SS)} {out : (Int32 × SS)} (hk81 : ∀ (S : SS) (x3 : Int32) (H : Heap) (locs : List Loc) (ls : Array Slot), k81 S x3 = some out → WK D a g S s H locs → lv_has ls 7 [(0, .ref (a 2)), (3, .int (x3))] → W p l e (RM 2) s m args below meth c H locs 0 0 (MQ below (QK D a g (some (.int out.1)) out.2) args s 0 0 (AK a)) (F0 m 81 ls [])) : ∀ (n : Nat) (S : SS) (x3 : Int32) (x4 : Int32) (H : Heap) (locs : List Loc) (ls : Array Slot), lpN (fun _ _ _ => none) (fun rec19 => k5_divideByMiles_B19 F x1 x2 rec19 k81) n S x3 x4 = some out → WK D a g S s H locs → lv_has ls 7 [(0, .ref (a 2)), (1, .int (x1)), (2, .int (x2)), (3, .int (x3)), (4, .int (x4))] → W p l e (RM 2) s m args below meth c H locs 0 0 (MQ below (QK D a g (some (.int out.1)) out.2) args s 0 0 (AK a)) (F0 m 19 ls []) := by
  intro n
  induction n with
  | zero => intro S x3 x4 H locs ls hf; cases (show (none : Option (Int32 × SS)) = some out from hf)
  | succ n ih => intro S x3 x4 H locs ls hf hw hl; exact k5_divideByMiles_b19 E (F := F) x1 x2 ih hk81 S x3 x4 H locs ls hf hw hl
set_option maxRecDepth 100000 in
set_option maxHeartbeats 4000000 in
theorem k5_divideByMiles_b84 {p : Program} {l : Launch} {e : Env} {s : State} {m : MethodId} {args : Array Value} {below : List Frame} {meth : Method} {c : Code} {D : va_G} {a : Nat → Nat} {g : Nat → ClassId} (E : EK p s m args meth c D a g cX5_divideByMiles 7 RX5 (some .boolean)) {F : Nat}  (x3 : Int32) {rec84 : SS → Int32 → Option (Int32 × SS)} {out : (Int32 × SS)} (hrec84 : ∀ (S : SS) (x4 : Int32) (H : Heap) (locs : List Loc) (ls : Array Slot), rec84 S x4 = some out → WK D a g S s H locs → lv_has ls 7 [(0, .ref (a 2)), (3, .int (x3)), (4, .int (x4))] → W p l e (RM 2) s m args below meth c H locs 0 0 (MQ below (QK D a g (some (.int out.1)) out.2) args s 0 0 (AK a)) (F0 m 84 ls []))  (S : SS) (x4 : Int32) (H : Heap) (locs : List Loc) (ls : Array Slot) (hf : k5_divideByMiles_B84 F x3 rec84 S x4 = some out) (hw : WK D a g S s H locs) (hl : lv_has ls 7 [(0, .ref (a 2)), (3, .int (x3)), (4, .int (x4))]) : W p l e (RM 2) s m args below meth c H locs 0 0 (MQ below (QK D a g (some (.int out.1)) out.2) args s 0 0 (AK a)) (F0 m 84 ls []) := by
  have hx := E.hx
  have hb := E.hb
  unfold k5_divideByMiles_B84 at hf
  refine lv_iload hx hb dX5_divideByMiles_84 (lv_at hl 2 rfl) ?_
  refine lv_bipush hx hb dX5_divideByMiles_86 bp_8 ?_
  refine lv_icmp_ge (tgt := 107) hx hb dX5_divideByMiles_88 (by decide) (fun c_20 => ?_) (fun c_20 => ?_)
  · replace hf := ite_t hf c_20
    refine lv_iconst hx hb dX5_divideByMiles_107 ic_1 ?_
    cases hf
    exact retK_z E hw nb1 dX5_divideByMiles_108
  · replace hf := ite_f hf c_20
    refine lv_iload hx hb dX5_divideByMiles_91 (lv_at hl 2 rfl) ?_
    refine lv_iload_n hx hb dX5_divideByMiles_93 rfl (lv_at hl 1 rfl) ?_
    refine lv_icmp_ge (tgt := 107) hx hb dX5_divideByMiles_94 (by decide) (fun c_21 => ?_) (fun c_21 => ?_)
    · replace hf := ite_t hf c_21
      refine lv_iconst hx hb dX5_divideByMiles_107 ic_1 ?_
      cases hf
      exact retK_z E hw nb1 dX5_divideByMiles_108
    · replace hf := ite_f hf c_21
      refine lv_aload_n hx hb dX5_divideByMiles_97 rfl (lv_at hl 0 rfl) ?_
      obtain ⟨S_24, h_22, hf⟩ := ob_at hf
      refine qk5_giveOneMore E hw (mk5_giveOneMore E.hD h_22) wl382 dX5_divideByMiles_98 ⟨Nat.le_of_ble_eq_true rfl, Nat.le_of_ble_eq_true rfl⟩ hl.1 (Nat.le_of_ble_eq_true rfl) ⟨Nat.le_refl 0, Nat.le_refl 0⟩ (fun H locs hw => ?_)
      obtain ⟨x4_25, ex4_25⟩ : ∃ y : Int32, y = x4 + (1) := ⟨_, rfl⟩
      replace hf := bnd_at hf ex4_25
      refine lv_iinc (v := x4_25) (lv' := [(4, .int (x4_25)), (0, .ref (a 2)), (3, .int (x3))]) hx hb dX5_divideByMiles_101 hl (k := 2) rfl (by rw [ex4_25]; rfl) (by decide) rfl (fun ls hl => ?_)
      refine lv_goto (tgt := 84) hx hb dX5_divideByMiles_104 (by decide) ?_
      exact hrec84 S_24 (x4_25) _ _ ls hf hw (lv_sub hl [1, 2, 0] rfl)
theorem k5_divideByMiles_l84 {p : Program} {l : Launch} {e : Env} {s : State} {m : MethodId} {args : Array Value} {below : List Frame} {meth : Method} {c : Code} {D : va_G} {a : Nat → Nat} {g : Nat → ClassId} (E : EK p s m args meth c D a g cX5_divideByMiles 7 RX5 (some .boolean)) {F : Nat}  (x3 : Int32) {out : (Int32 × SS)}  : ∀ (n : Nat) (S : SS) (x4 : Int32) (H : Heap) (locs : List Loc) (ls : Array Slot), lpN (fun _ _ => none) (fun rec84 => k5_divideByMiles_B84 F x3 rec84) n S x4 = some out → WK D a g S s H locs → lv_has ls 7 [(0, .ref (a 2)), (3, .int (x3)), (4, .int (x4))] → W p l e (RM 2) s m args below meth c H locs 0 0 (MQ below (QK D a g (some (.int out.1)) out.2) args s 0 0 (AK a)) (F0 m 84 ls []) := by
  intro n
  induction n with
  | zero => intro S x4 H locs ls hf; cases (show (none : Option (Int32 × SS)) = some out from hf)
  | succ n ih => intro S x4 H locs ls hf hw hl; exact k5_divideByMiles_b84 E (F := F) x3 ih S x4 H locs ls hf hw hl
set_option maxRecDepth 100000 in
set_option maxHeartbeats 4000000 in
theorem mk5_divideByMiles {l : Launch} {D : va_G} {a : Nat → Nat} {g : Nat → ClassId} (hD : ∀ S, va_D (AK a) (wK a g S)) {F : Nat} {S : SS} {x1 : Int32} {out : (Int32 × SS)} (hf : k5_divideByMiles F S x1 = some out) : Met l yX5_divideByMiles (wsm yX5_divideByMiles cX5_divideByMiles 7 (some .boolean)) (RM 2) (PK D a g S [.ref (a 2), .int x1]) (QK D a g (some (.int out.1)) out.2) 0 0 (AK a) := by
  refine Met.ofW (cc := cX5_divideByMiles) (maxL := 7) (ret := (some .boolean)) (by decide) rfl ?_
  intro p e s m args below meth c s₁ B hml hv
  obtain ⟨rfl, hP, hK, hN⟩ := hv
  have hts := atoms_spec (ws := wsm yX5_divideByMiles cX5_divideByMiles 7 (some .boolean)) B.pre
  have E : EK p s m _ meth c D a g cX5_divideByMiles 7 RX5 (some .boolean) := ⟨B.exec, B.bytes, B.returns, hml, findClass_of_methodNamed B.named, fun w h => hts w (List.mem_cons_of_mem _ h), hK, hN, hD, B.notSynchronized⟩
  have hx := E.hx
  have hb := E.hb
  have hw : WK D a g S s s.heap [] := ⟨hP, va_S.rf⟩
  have hl := lv_entry ([.ref (a 2), .int x1]) (n := 7) (Nat.le_of_ble_eq_true rfl)
  rw [lg_entry_eq]
  generalize (lg_sl ([.ref (a 2), .int x1]) ++ List.replicate (7 - (lg_sl ([.ref (a 2), .int x1])).length) Slot.unset).toArray = ls at hl ⊢
  have hl : lv_has ls 7 [(0, .ref (a 2)), (1, .int (x1))] := hl
  show W p l e (RM 2) s m _ below meth c s.heap [] 0 0 (MQ below (QK D a g (some (.int out.1)) out.2) _ s 0 0 (AK a)) (F0 m 0 ls [])
  unfold k5_divideByMiles at hf
  refine lv_aload_n hx hb dX5_divideByMiles_0 rfl (lv_at hl 0 rfl) ?_
  refine gK_2_1 E hw (E.hts _ wl99) dX5_divideByMiles_1 ?_
  obtain ⟨r_2, h_1, hf⟩ := ob_at hf
  refine qnk7_sumOf_14 E hw (mk7_sumOf_14 E.hD h_1) nw7 dX5_divideByMiles_4 ⟨Nat.le_of_ble_eq_true rfl, Nat.le_of_ble_eq_true rfl⟩ hl.1 (Nat.le_of_ble_eq_true rfl) ⟨Nat.le_refl 0, Nat.le_refl 0⟩ (fun H locs hw => ?_)
  refine lv_topi (fun x2_4 ex2_4 => ?_)
  replace hf := bnd_at hf ex2_4
  refine lv_istore_n (lv' := [(2, .int (x2_4)), (0, .ref (a 2)), (1, .int (x1))]) hx hb dX5_divideByMiles_7 rfl hl (by decide) rfl (fun ls hl => ?_)
  refine lv_iload_n hx hb dX5_divideByMiles_8 rfl (lv_at hl 0 rfl) ?_
  refine lv_if_gt (tgt := 14) hx hb dX5_divideByMiles_9 (by decide) (fun c_5 => ?_) (fun c_5 => ?_)
  · replace hf := ite_t hf c_5
    refine lv_iload_n hx hb dX5_divideByMiles_14 rfl (lv_at hl 2 rfl) ?_
    refine lv_topi (fun x3_6 ex3_6 => ?_)
    replace hf := bnd_at hf ex3_6
    refine lv_istore_n (lv' := [(3, .int (x3_6)), (2, .int (x2_4)), (0, .ref (a 2)), (1, .int (x1))]) hx hb dX5_divideByMiles_15 rfl hl (by decide) rfl (fun ls hl => ?_)
    refine lv_iconst hx hb dX5_divideByMiles_16 ic_0 ?_
    refine lv_topi (fun x4_7 ex4_7 => ?_)
    replace hf := bnd_at hf ex4_7
    refine lv_istore (lv' := [(4, .int (x4_7)), (3, .int (x3_6)), (2, .int (x2_4)), (0, .ref (a 2)), (1, .int (x1))]) hx hb dX5_divideByMiles_17 hl (by decide) rfl (fun ls hl => ?_)
    refine k5_divideByMiles_l19 E (x1) (x2_4) ?_ F S (x3_6) (x4_7) _ _ ls hf hw (lv_sub hl [3, 4, 2, 1, 0] rfl)
    · intro S_18 x3_18 H locs ls hf hw hl
      refine lv_iconst hx hb dX5_divideByMiles_81 ic_0 ?_
      refine lv_topi (fun x4_19 ex4_19 => ?_)
      replace hf := bnd_at hf ex4_19
      refine lv_istore (lv' := [(4, .int (x4_19)), (0, .ref (a 2)), (3, .int (x3_18))]) hx hb dX5_divideByMiles_82 hl (by decide) rfl (fun ls hl => ?_)
      refine k5_divideByMiles_l84 E (x3_18)  F S_18 (x4_19) _ _ ls hf hw (lv_sub hl [1, 2, 0] rfl)
  · replace hf := ite_f hf c_5
    refine lv_iconst hx hb dX5_divideByMiles_12 ic_0 ?_
    cases hf
    exact retK_z E hw nb0 dX5_divideByMiles_13
theorem qk5_divideByMiles {p : Program} {l : Launch} {e : Env} {R : Room} {s : State} {m : MethodId} {args : Array Value} {below : List Frame} {meth : Method} {c : Code} {H : Heap} {locs : List Loc} {cells slots : Nat} {Q : State → Prop} {cc : ByteArray} {pc : Nat} {ls : Array Slot} {rest : List Value} {D : va_G} {a : Nat → Nat} {g : Nat → ClassId} {nL : Nat} {own : String} {ret : Option FieldType} {S S1 : SS} {k : Nat} {x1 : Int32} {r : Int32} (E : EK p s m args meth c D a g cc nL own ret) (hw : WK D a g S s H locs) (hM : Met l yX5_divideByMiles (wsm yX5_divideByMiles cX5_divideByMiles 7 (some .boolean)) (RM k) (PK D a g S [.ref (a 2), .int x1]) (QK D a g (some (.int r)) S1) 0 0 (AK a)) {idx : Nat} (hlk : Cond.methodLink own idx yX5_divideByMiles ∈ wd) (hdg : decode cc pc = .ok (.invokevirtual idx, 3)) (hR : k + 1 ≤ R.frames ∧ 8 + (7 + 11) + 64 * k ≤ R.locals) (hls : ls.size = nL) (hrest : (rest.map fun v => v.category).sum ≤ 8) (hcs : cells ≤ R.cells ∧ slots ≤ R.slots) (kk : ∀ (H1 : Heap) (locs1 : List Loc), WK D a g S1 s H1 locs1 → W p l e R s m args below meth c H1 locs1 cells slots Q (F0 m (pc + 3) ls (.int r :: rest))) : W p l e R s m args below meth c H locs cells slots Q (F0 m pc ls (.int x1 :: .ref (a 2) :: rest)) :=
  callK_i hw (va_runV (As := [.int x1]) (rest := rest) ⟨E.hx, E.hb, E.hml, E.hown, E.hts⟩ hM ⟨cb_of 1 E.hts wl378 wl38 hlk (by decide +kernel) hR, E.hts _ wl377, E.hts _ wl2⟩ ⟨PK_blind, va_recv E.hK hw.1 (ci := 5) (q0 := 2) rfl rfl, PK_pre E.hK E.hN hw.1⟩ rfl rfl hls rfl (lv_room hrest) hdg hcs) kk
end
