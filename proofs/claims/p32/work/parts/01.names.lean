-- ===== PART A: goes FIRST, ahead of the names: the tables' words, and 'selects' of the private methods out of them =====
/-- a private method of a class that the tables say can be made, by its rows of tables_1 -/
def lw_okq (q : MethodName × Nat) : Prop := (q.1.cls ≠ "java/lang/invoke/MethodHandle" ∧ q.1.cls ≠ "java/lang/invoke/VarHandle") ∧ Cond.instantiable q.1.cls q.2 ∈ tables_1 ∧ Cond.privateMethod q.1 ∈ tables_1 ∧ Cond.instanceMethod q.1 ∈ tables_1
theorem lw_p0 : lw_okq (⟨"ArrowOrders", "beforeChange", "()V"⟩, 15) := ⟨⟨by decide +kernel, by decide +kernel⟩, List.mem_of_getElem? (i := 20) (by decide +kernel), List.mem_of_getElem? (i := 482) (by decide +kernel), List.mem_of_getElem? (i := 483) (by decide +kernel)⟩
theorem lw_p1 : lw_okq (⟨"ArrowOrders", "study", "()V"⟩, 15) := ⟨⟨by decide +kernel, by decide +kernel⟩, List.mem_of_getElem? (i := 20) (by decide +kernel), List.mem_of_getElem? (i := 578) (by decide +kernel), List.mem_of_getElem? (i := 579) (by decide +kernel)⟩
theorem lw_p2 : lw_okq (⟨"ArrowOrders", "isCrossed", "()Z"⟩, 15) := ⟨⟨by decide +kernel, by decide +kernel⟩, List.mem_of_getElem? (i := 20) (by decide +kernel), List.mem_of_getElem? (i := 712) (by decide +kernel), List.mem_of_getElem? (i := 713) (by decide +kernel)⟩
theorem lw_p3 : lw_okq (⟨"ArrowOrders", "heldIn", "(I)LArrowOrders$Net;"⟩, 15) := ⟨⟨by decide +kernel, by decide +kernel⟩, List.mem_of_getElem? (i := 20) (by decide +kernel), List.mem_of_getElem? (i := 807) (by decide +kernel), List.mem_of_getElem? (i := 808) (by decide +kernel)⟩
theorem lw_p4 : lw_okq (⟨"ArrowOrders", "crossedPlace", "(IZ)I"⟩, 15) := ⟨⟨by decide +kernel, by decide +kernel⟩, List.mem_of_getElem? (i := 20) (by decide +kernel), List.mem_of_getElem? (i := 957) (by decide +kernel), List.mem_of_getElem? (i := 958) (by decide +kernel)⟩
def lw_privs_1 : List (MethodName × Nat) := [(⟨"ArrowOrders", "beforeChange", "()V"⟩, 15), (⟨"ArrowOrders", "study", "()V"⟩, 15), (⟨"ArrowOrders", "isCrossed", "()Z"⟩, 15), (⟨"ArrowOrders", "heldIn", "(I)LArrowOrders$Net;"⟩, 15), (⟨"ArrowOrders", "crossedPlace", "(IZ)I"⟩, 15)]
theorem lw_r1 : ∀ q ∈ lw_privs_1, lw_okq q := List.forall_mem_cons.mpr ⟨lw_p0, List.forall_mem_cons.mpr ⟨lw_p1, List.forall_mem_cons.mpr ⟨lw_p2, List.forall_mem_cons.mpr ⟨lw_p3, List.forall_mem_cons.mpr ⟨lw_p4, fun _ h => absurd h List.not_mem_nil⟩⟩⟩⟩⟩
def lw_privs : List (MethodName × Nat) := lw_privs_1
def lw_tbl : List Cond := k2_sels lw_privs ++ tables_1
theorem lw_privs_ok : ∀ q ∈ lw_privs, lw_okq q := lw_r1
-- ===== end of PART A; then your names; then what follows =====
def RX0 : String := "ArrowOrders$Arrowing"
def TX0 : u_T := fun k => match k with
  | 0 => ("ArrowOrders$Arrowing", "reach", "LArrowOrders$Reach;", true)
  | 1 => ("ArrowOrders$Arrowing", "left", "[I", true)
  | 2 => ("ArrowOrders$Arrowing", "above", "[I", true)
  | 3 => ("ArrowOrders$Arrowing", "step", "[I", true)
  | _ => ("ArrowOrders$Arrowing", "steps", "I", false)
def tyX0 : Nat → FieldType := fun k => match k with
  | 0 => .object "ArrowOrders$Reach"
  | 1 => .array .int
  | 2 => .array .int
  | 3 => .array .int
  | _ => .int
abbrev wsX00 : List Cond := u_ws RX0 TX0 5
theorem nmX0 : ∀ a, a < 5 → ∀ b, b < 5 → a ≠ b → (TX0 a).2.1 ≠ (TX0 b).2.1 := by decide +kernel
theorem tyX0_ok : ∀ k, k < 5 → parseFieldDescriptor (TX0 k).2.2.1 = some (tyX0 k) := by decide +kernel
abbrev cX0_init : ByteArray := prog_2_method_1_code
def yX0_init : MethodName := ⟨RX0, "<init>", "()V"⟩
abbrev cX0_solve : ByteArray := prog_2_method_2_code
def yX0_solve : MethodName := ⟨RX0, "solve", "([IZ)V"⟩
abbrev cX0_takeClass : ByteArray := prog_2_method_3_code
def yX0_takeClass : MethodName := ⟨RX0, "takeClass", "(I)V"⟩
abbrev cX0_has : ByteArray := prog_2_method_4_code
def yX0_has : MethodName := ⟨RX0, "has", "(I)Z"⟩
abbrev cX0_stepOf : ByteArray := prog_2_method_5_code
def yX0_stepOf : MethodName := ⟨RX0, "stepOf", "(I)I"⟩
abbrev cX0_countSteps : ByteArray := prog_2_method_6_code
def yX0_countSteps : MethodName := ⟨RX0, "countSteps", "()I"⟩
def RX1 : String := "ArrowOrders$Classes"
def TX1 : u_T := fun k => match k with
  | 0 => ("ArrowOrders$Classes", "reach", "LArrowOrders$Reach;", true)
  | 1 => ("ArrowOrders$Classes", "rows", "[I", true)
  | 2 => ("ArrowOrders$Classes", "classOf", "[I", true)
  | 3 => ("ArrowOrders$Classes", "classes", "I", false)
  | _ => ("ArrowOrders$Classes", "odd", "I", false)
def tyX1 : Nat → FieldType := fun k => match k with
  | 0 => .object "ArrowOrders$Reach"
  | 1 => .array .int
  | 2 => .array .int
  | 3 => .int
  | _ => .int
abbrev wsX10 : List Cond := u_ws RX1 TX1 5
theorem nmX1 : ∀ a, a < 5 → ∀ b, b < 5 → a ≠ b → (TX1 a).2.1 ≠ (TX1 b).2.1 := by decide +kernel
theorem tyX1_ok : ∀ k, k < 5 → parseFieldDescriptor (TX1 k).2.2.1 = some (tyX1 k) := by decide +kernel
abbrev cX1_init : ByteArray := prog_3_method_1_code
def yX1_init : MethodName := ⟨RX1, "<init>", "()V"⟩
abbrev cX1_solve : ByteArray := prog_3_method_2_code
def yX1_solve : MethodName := ⟨RX1, "solve", "([I)V"⟩
abbrev cX1_addClass : ByteArray := prog_3_method_3_code
def yX1_addClass : MethodName := ⟨RX1, "addClass", "(I)V"⟩
abbrev cX1_isOrdered : ByteArray := prog_3_method_4_code
def yX1_isOrdered : MethodName := ⟨RX1, "isOrdered", "()Z"⟩
abbrev cX1_countAll : ByteArray := prog_3_method_5_code
def yX1_countAll : MethodName := ⟨RX1, "countAll", "()I"⟩
abbrev cX1_countOdd : ByteArray := prog_3_method_6_code
def yX1_countOdd : MethodName := ⟨RX1, "countOdd", "()I"⟩
abbrev cX1_sizeOf : ByteArray := prog_3_method_7_code
def yX1_sizeOf : MethodName := ⟨RX1, "sizeOf", "(I)I"⟩
abbrev cX1_isOdd : ByteArray := prog_3_method_8_code
def yX1_isOdd : MethodName := ⟨RX1, "isOdd", "(I)Z"⟩
abbrev cX1_linesOf : ByteArray := prog_3_method_9_code
def yX1_linesOf : MethodName := ⟨RX1, "linesOf", "(I)I"⟩
abbrev cX1_walkLength : ByteArray := prog_3_method_10_code
def yX1_walkLength : MethodName := ⟨RX1, "walkLength", "(I)I"⟩
abbrev cX1_walkAt : ByteArray := prog_3_method_11_code
def yX1_walkAt : MethodName := ⟨RX1, "walkAt", "(II)I"⟩
abbrev cX1_nextOfWalk : ByteArray := prog_3_method_12_code
def yX1_nextOfWalk : MethodName := ⟨RX1, "nextOfWalk", "(I)I"⟩
def RX2 : String := "ArrowOrders$Modules"
def TX2 : u_T := fun k => match k with
  | _ => ("ArrowOrders$Modules", "alike", "[Z", true)
def tyX2 : Nat → FieldType := fun k => match k with
  | _ => .array .boolean
abbrev wsX20 : List Cond := u_ws RX2 TX2 1
theorem nmX2 : ∀ a, a < 1 → ∀ b, b < 1 → a ≠ b → (TX2 a).2.1 ≠ (TX2 b).2.1 := by decide +kernel
theorem tyX2_ok : ∀ k, k < 1 → parseFieldDescriptor (TX2 k).2.2.1 = some (tyX2 k) := by decide +kernel
abbrev cX2_init : ByteArray := prog_4_method_1_code
def yX2_init : MethodName := ⟨RX2, "<init>", "()V"⟩
abbrev cX2_ways : ByteArray := prog_4_method_2_code
def yX2_ways : MethodName := ⟨RX2, "ways", "(LArrowOrders$Net;LArrowOrders$Net;)I"⟩
abbrev cX2_isOverlapped : ByteArray := prog_4_method_3_code
def yX2_isOverlapped : MethodName := ⟨RX2, "isOverlapped", "(II)Z"⟩
abbrev cX2_ownWays : ByteArray := prog_4_method_4_code
def yX2_ownWays : MethodName := ⟨RX2, "ownWays", "(LArrowOrders$Net;LArrowOrders$Net;I)I"⟩
abbrev cX2_factorial : ByteArray := prog_4_method_5_code
def yX2_factorial : MethodName := ⟨RX2, "factorial", "(I)I"⟩
def RX3 : String := "ArrowOrders$Net"
def TX3 : u_T := fun k => match k with
  | 0 => ("ArrowOrders$Net", "posts", "I", false)
  | 1 => ("ArrowOrders$Net", "otherWay", "Z", false)
  | _ => ("ArrowOrders$Net", "rows", "[I", true)
def tyX3 : Nat → FieldType := fun k => match k with
  | 0 => .int
  | 1 => .boolean
  | _ => .array .int
abbrev wsX30 : List Cond := u_ws RX3 TX3 3
theorem nmX3 : ∀ a, a < 3 → ∀ b, b < 3 → a ≠ b → (TX3 a).2.1 ≠ (TX3 b).2.1 := by decide +kernel
theorem tyX3_ok : ∀ k, k < 3 → parseFieldDescriptor (TX3 k).2.2.1 = some (tyX3 k) := by decide +kernel
abbrev cX3_init : ByteArray := prog_5_method_1_code
def yX3_init : MethodName := ⟨RX3, "<init>", "()V"⟩
abbrev cX3_hasPost : ByteArray := prog_5_method_2_code
def yX3_hasPost : MethodName := ⟨RX3, "hasPost", "(I)Z"⟩
abbrev cX3_hasPair : ByteArray := prog_5_method_3_code
def yX3_hasPair : MethodName := ⟨RX3, "hasPair", "(II)Z"⟩
abbrev cX3_hasLine : ByteArray := prog_5_method_4_code
def yX3_hasLine : MethodName := ⟨RX3, "hasLine", "(II)Z"⟩
abbrev cX3_rowOf : ByteArray := prog_5_method_5_code
def yX3_rowOf : MethodName := ⟨RX3, "rowOf", "(I)I"⟩
abbrev cX3_everyPost : ByteArray := prog_5_method_6_code
def yX3_everyPost : MethodName := ⟨RX3, "everyPost", "()I"⟩
abbrev cX3_countLines : ByteArray := prog_5_method_7_code
def yX3_countLines : MethodName := ⟨RX3, "countLines", "()I"⟩
abbrev cX3_lineAt : ByteArray := prog_5_method_8_code
def yX3_lineAt : MethodName := ⟨RX3, "lineAt", "(I)I"⟩
abbrev cX3_clear : ByteArray := prog_5_method_9_code
def yX3_clear : MethodName := ⟨RX3, "clear", "()V"⟩
abbrev cX3_copyFrom : ByteArray := prog_5_method_10_code
def yX3_copyFrom : MethodName := ⟨RX3, "copyFrom", "(LArrowOrders$Net;)V"⟩
abbrev cX3_join : ByteArray := prog_5_method_11_code
def yX3_join : MethodName := ⟨RX3, "join", "(II)V"⟩
abbrev cX3_flip : ByteArray := prog_5_method_12_code
def yX3_flip : MethodName := ⟨RX3, "flip", "(II)V"⟩
abbrev cX3_turnOver : ByteArray := prog_5_method_13_code
def yX3_turnOver : MethodName := ⟨RX3, "turnOver", "()V"⟩
abbrev cX3_swap : ByteArray := prog_5_method_14_code
def yX3_swap : MethodName := ⟨RX3, "swap", "(II)V"⟩
abbrev cX3_strip : ByteArray := prog_5_method_15_code
def yX3_strip : MethodName := ⟨RX3, "strip", "(I)V"⟩
def RX4 : String := "ArrowOrders$Past"
def TX4 : u_T := fun k => match k with
  | 0 => ("ArrowOrders$Past", "ring", "[LArrowOrders$Net;", true)
  | 1 => ("ArrowOrders$Past", "next", "I", false)
  | _ => ("ArrowOrders$Past", "size", "I", false)
def tyX4 : Nat → FieldType := fun k => match k with
  | 0 => .array (.object "ArrowOrders$Net")
  | 1 => .int
  | _ => .int
abbrev wsX40 : List Cond := u_ws RX4 TX4 3
theorem nmX4 : ∀ a, a < 3 → ∀ b, b < 3 → a ≠ b → (TX4 a).2.1 ≠ (TX4 b).2.1 := by decide +kernel
theorem tyX4_ok : ∀ k, k < 3 → parseFieldDescriptor (TX4 k).2.2.1 = some (tyX4 k) := by decide +kernel
abbrev cX4_init : ByteArray := prog_6_method_1_code
def yX4_init : MethodName := ⟨RX4, "<init>", "()V"⟩
abbrev cX4_keep : ByteArray := prog_6_method_2_code
def yX4_keep : MethodName := ⟨RX4, "keep", "(LArrowOrders$Net;)V"⟩
abbrev cX4_takeBack : ByteArray := prog_6_method_3_code
def yX4_takeBack : MethodName := ⟨RX4, "takeBack", "(LArrowOrders$Net;)Z"⟩
abbrev cX4_forget : ByteArray := prog_6_method_4_code
def yX4_forget : MethodName := ⟨RX4, "forget", "()V"⟩
def RX5 : String := "ArrowOrders$Ranks"
def TX5 : u_T := fun k => match k with
  | 0 => ("ArrowOrders$Ranks", "above", "[I", true)
  | 1 => ("ArrowOrders$Ranks", "below", "[I", true)
  | 2 => ("ArrowOrders$Ranks", "levels", "[I", true)
  | 3 => ("ArrowOrders$Ranks", "waysOn", "[I", true)
  | 4 => ("ArrowOrders$Ranks", "signs", "[I", true)
  | 5 => ("ArrowOrders$Ranks", "jumps", "[I", true)
  | _ => ("ArrowOrders$Ranks", "posts", "I", false)
def tyX5 : Nat → FieldType := fun k => match k with
  | 0 => .array .int
  | 1 => .array .int
  | 2 => .array .int
  | 3 => .array .int
  | 4 => .array .int
  | 5 => .array .int
  | _ => .int
abbrev wsX50 : List Cond := u_ws RX5 TX5 7
theorem nmX5 : ∀ a, a < 7 → ∀ b, b < 7 → a ≠ b → (TX5 a).2.1 ≠ (TX5 b).2.1 := by decide +kernel
theorem tyX5_ok : ∀ k, k < 7 → parseFieldDescriptor (TX5 k).2.2.1 = some (tyX5 k) := by decide +kernel
abbrev cX5_init : ByteArray := prog_7_method_1_code
def yX5_init : MethodName := ⟨RX5, "<init>", "()V"⟩
abbrev cX5_solve : ByteArray := prog_7_method_2_code
def yX5_solve : MethodName := ⟨RX5, "solve", "(ILArrowOrders$Arrowing;)V"⟩
abbrev cX5_raiseLevels : ByteArray := prog_7_method_3_code
def yX5_raiseLevels : MethodName := ⟨RX5, "raiseLevels", "()V"⟩
abbrev cX5_countWaysOn : ByteArray := prog_7_method_4_code
def yX5_countWaysOn : MethodName := ⟨RX5, "countWaysOn", "()V"⟩
abbrev cX5_isNext : ByteArray := prog_7_method_5_code
def yX5_isNext : MethodName := ⟨RX5, "isNext", "(II)Z"⟩
abbrev cX5_isUnder : ByteArray := prog_7_method_6_code
def yX5_isUnder : MethodName := ⟨RX5, "isUnder", "(II)Z"⟩
abbrev cX5_levelOf : ByteArray := prog_7_method_7_code
def yX5_levelOf : MethodName := ⟨RX5, "levelOf", "(I)I"⟩
abbrev cX5_belowOf : ByteArray := prog_7_method_8_code
def yX5_belowOf : MethodName := ⟨RX5, "belowOf", "(I)I"⟩
abbrev cX5_aboveOf : ByteArray := prog_7_method_9_code
def yX5_aboveOf : MethodName := ⟨RX5, "aboveOf", "(I)I"⟩
abbrev cX5_coveredBy : ByteArray := prog_7_method_10_code
def yX5_coveredBy : MethodName := ⟨RX5, "coveredBy", "(I)I"⟩
abbrev cX5_countCovers : ByteArray := prog_7_method_11_code
def yX5_countCovers : MethodName := ⟨RX5, "countCovers", "()I"⟩
abbrev cX5_greatestLevel : ByteArray := prog_7_method_12_code
def yX5_greatestLevel : MethodName := ⟨RX5, "greatestLevel", "()I"⟩
abbrev cX5_countStraight : ByteArray := prog_7_method_13_code
def yX5_countStraight : MethodName := ⟨RX5, "countStraight", "()I"⟩
abbrev cX5_straightAt : ByteArray := prog_7_method_14_code
def yX5_straightAt : MethodName := ⟨RX5, "straightAt", "(II)I"⟩
abbrev cX5_firstPlaceOf : ByteArray := prog_7_method_15_code
def yX5_firstPlaceOf : MethodName := ⟨RX5, "firstPlaceOf", "(I)I"⟩
abbrev cX5_countDown : ByteArray := prog_7_method_16_code
def yX5_countDown : MethodName := ⟨RX5, "countDown", "()I"⟩
abbrev cX5_isDown : ByteArray := prog_7_method_17_code
def yX5_isDown : MethodName := ⟨RX5, "isDown", "(I)Z"⟩
abbrev cX5_signOf : ByteArray := prog_7_method_18_code
def yX5_signOf : MethodName := ⟨RX5, "signOf", "(II)I"⟩
abbrev cX5_sumOfSigns : ByteArray := prog_7_method_19_code
def yX5_sumOfSigns : MethodName := ⟨RX5, "sumOfSigns", "(I)I"⟩
abbrev cX5_fewestJumps : ByteArray := prog_7_method_20_code
def yX5_fewestJumps : MethodName := ⟨RX5, "fewestJumps", "()I"⟩
abbrev cX5_jumpCell : ByteArray := prog_7_method_21_code
def yX5_jumpCell : MethodName := ⟨RX5, "jumpCell", "(II)I"⟩
abbrev cX5_jumpOn : ByteArray := prog_7_method_22_code
def yX5_jumpOn : MethodName := ⟨RX5, "jumpOn", "(I)V"⟩
def RX6 : String := "ArrowOrders$Reach"
def TX6 : u_T := fun k => match k with
  | 0 => ("ArrowOrders$Reach", "steps", "[I", true)
  | 1 => ("ArrowOrders$Reach", "found", "[I", true)
  | _ => ("ArrowOrders$Reach", "size", "I", false)
def tyX6 : Nat → FieldType := fun k => match k with
  | 0 => .array .int
  | 1 => .array .int
  | _ => .int
abbrev wsX60 : List Cond := u_ws RX6 TX6 3
theorem nmX6 : ∀ a, a < 3 → ∀ b, b < 3 → a ≠ b → (TX6 a).2.1 ≠ (TX6 b).2.1 := by decide +kernel
theorem tyX6_ok : ∀ k, k < 3 → parseFieldDescriptor (TX6 k).2.2.1 = some (tyX6 k) := by decide +kernel
abbrev cX6_init : ByteArray := prog_8_method_1_code
def yX6_init : MethodName := ⟨RX6, "<init>", "()V"⟩
abbrev cX6_compels : ByteArray := prog_8_method_2_code
def yX6_compels : MethodName := ⟨RX6, "compels", "([III)Z"⟩
abbrev cX6_spread : ByteArray := prog_8_method_3_code
def yX6_spread : MethodName := ⟨RX6, "spread", "([II)V"⟩
abbrev cX6_reachForced : ByteArray := prog_8_method_4_code
def yX6_reachForced : MethodName := ⟨RX6, "reachForced", "([II)V"⟩
abbrev cX6_reach : ByteArray := prog_8_method_5_code
def yX6_reach : MethodName := ⟨RX6, "reach", "(II)V"⟩
def RX7 : String := "ArrowOrders$Reader"
def TX7 : u_T := fun k => match k with
  | 0 => ("ArrowOrders$Reader", "bytes", "[B", true)
  | 1 => ("ArrowOrders$Reader", "length", "I", false)
  | 2 => ("ArrowOrders$Reader", "fault", "I", false)
  | 3 => ("ArrowOrders$Reader", "faultAt", "I", false)
  | 4 => ("ArrowOrders$Reader", "told", "LArrowOrders$Net;", true)
  | 5 => ("ArrowOrders$Reader", "kinds", "[I", true)
  | 6 => ("ArrowOrders$Reader", "starts", "[I", true)
  | 7 => ("ArrowOrders$Reader", "values", "[J", true)
  | 8 => ("ArrowOrders$Reader", "tokens", "I", false)
  | 9 => ("ArrowOrders$Reader", "next", "I", false)
  | 10 => ("ArrowOrders$Reader", "names", "[J", true)
  | 11 => ("ArrowOrders$Reader", "places", "[I", true)
  | 12 => ("ArrowOrders$Reader", "sentence", "I", false)
  | 13 => ("ArrowOrders$Reader", "seen", "I", false)
  | _ => ("ArrowOrders$Reader", "placesTold", "I", false)
def tyX7 : Nat → FieldType := fun k => match k with
  | 0 => .array .byte
  | 1 => .int
  | 2 => .int
  | 3 => .int
  | 4 => .object "ArrowOrders$Net"
  | 5 => .array .int
  | 6 => .array .int
  | 7 => .array .long
  | 8 => .int
  | 9 => .int
  | 10 => .array .long
  | 11 => .array .int
  | 12 => .int
  | 13 => .int
  | _ => .int
abbrev wsX70 : List Cond := u_ws RX7 TX7 15
theorem nmX7 : ∀ a, a < 15 → ∀ b, b < 15 → a ≠ b → (TX7 a).2.1 ≠ (TX7 b).2.1 := by decide +kernel
theorem tyX7_ok : ∀ k, k < 15 → parseFieldDescriptor (TX7 k).2.2.1 = some (tyX7 k) := by decide +kernel
abbrev cX7_init : ByteArray := prog_9_method_1_code
def yX7_init : MethodName := ⟨RX7, "<init>", "()V"⟩
abbrev cX7_hasRoom : ByteArray := prog_9_method_2_code
def yX7_hasRoom : MethodName := ⟨RX7, "hasRoom", "()Z"⟩
abbrev cX7_addWord : ByteArray := prog_9_method_3_code
def yX7_addWord : MethodName := ⟨RX7, "addWord", "(I)V"⟩
abbrev cX7_readText : ByteArray := prog_9_method_4_code
def yX7_readText : MethodName := ⟨RX7, "readText", "()V"⟩
abbrev cX7_refuse : ByteArray := prog_9_method_5_code
def yX7_refuse : MethodName := ⟨RX7, "refuse", "(II)V"⟩
abbrev cX7_checkForm : ByteArray := prog_9_method_6_code
def yX7_checkForm : MethodName := ⟨RX7, "checkForm", "()V"⟩
abbrev cX7_keepToken : ByteArray := prog_9_method_7_code
def yX7_keepToken : MethodName := ⟨RX7, "keepToken", "(II)V"⟩
abbrev cX7_follow : ByteArray := prog_9_method_8_code
def yX7_follow : MethodName := ⟨RX7, "follow", "(II)I"⟩
abbrev cX7_skipBlanks : ByteArray := prog_9_method_9_code
def yX7_skipBlanks : MethodName := ⟨RX7, "skipBlanks", "()V"⟩
abbrev cX7_scan : ByteArray := prog_9_method_10_code
def yX7_scan : MethodName := ⟨RX7, "scan", "()I"⟩
abbrev cX7_wordKind : ByteArray := prog_9_method_11_code
def yX7_wordKind : MethodName := ⟨RX7, "wordKind", "(II)I"⟩
abbrev cX7_isWord : ByteArray := prog_9_method_12_code
def yX7_isWord : MethodName := ⟨RX7, "isWord", "(IILjava/lang/String;)Z"⟩
abbrev cX7_signAt : ByteArray := prog_9_method_13_code
def yX7_signAt : MethodName := ⟨RX7, "signAt", "(I)I"⟩
abbrev cX7_isBlankAt : ByteArray := prog_9_method_14_code
def yX7_isBlankAt : MethodName := ⟨RX7, "isBlankAt", "(I)Z"⟩
abbrev cX7_isLetterAt : ByteArray := prog_9_method_15_code
def yX7_isLetterAt : MethodName := ⟨RX7, "isLetterAt", "(I)Z"⟩
abbrev cX7_isDigitAt : ByteArray := prog_9_method_16_code
def yX7_isDigitAt : MethodName := ⟨RX7, "isDigitAt", "(I)Z"⟩
abbrev cX7_codeOf : ByteArray := prog_9_method_17_code
def yX7_codeOf : MethodName := ⟨RX7, "codeOf", "(II)J"⟩
abbrev cX7_numberOf : ByteArray := prog_9_method_18_code
def yX7_numberOf : MethodName := ⟨RX7, "numberOf", "(II)J"⟩
abbrev cX7_tell : ByteArray := prog_9_method_19_code
def yX7_tell : MethodName := ⟨RX7, "tell", "(IJI)V"⟩
abbrev cX7_postNamed : ByteArray := prog_9_method_20_code
def yX7_postNamed : MethodName := ⟨RX7, "postNamed", "(J)I"⟩
abbrev cX7_tellPost : ByteArray := prog_9_method_21_code
def yX7_tellPost : MethodName := ⟨RX7, "tellPost", "(JI)V"⟩
abbrev cX7_tellEnd : ByteArray := prog_9_method_22_code
def yX7_tellEnd : MethodName := ⟨RX7, "tellEnd", "(JI)V"⟩
abbrev cX7_tellPlace : ByteArray := prog_9_method_23_code
def yX7_tellPlace : MethodName := ⟨RX7, "tellPlace", "(II)V"⟩
def RX8 : String := "ArrowOrders$Sending"
def TX8 : u_T := fun k => match k with
  | _ => ("ArrowOrders$Sending", "image", "[I", true)
def tyX8 : Nat → FieldType := fun k => match k with
  | _ => .array .int
abbrev wsX80 : List Cond := u_ws RX8 TX8 1
theorem nmX8 : ∀ a, a < 1 → ∀ b, b < 1 → a ≠ b → (TX8 a).2.1 ≠ (TX8 b).2.1 := by decide +kernel
theorem tyX8_ok : ∀ k, k < 1 → parseFieldDescriptor (TX8 k).2.2.1 = some (tyX8 k) := by decide +kernel
abbrev cX8_init : ByteArray := prog_10_method_1_code
def yX8_init : MethodName := ⟨RX8, "<init>", "()V"⟩
abbrev cX8_ways : ByteArray := prog_10_method_2_code
def yX8_ways : MethodName := ⟨RX8, "ways", "(LArrowOrders$Net;LArrowOrders$Net;)I"⟩
abbrev cX8_waysToItself : ByteArray := prog_10_method_3_code
def yX8_waysToItself : MethodName := ⟨RX8, "waysToItself", "([II)I"⟩
abbrev cX8_fits : ByteArray := prog_10_method_4_code
def yX8_fits : MethodName := ⟨RX8, "fits", "([I[I[III)Z"⟩
abbrev cX8_canSend : ByteArray := prog_10_method_5_code
def yX8_canSend : MethodName := ⟨RX8, "canSend", "([I[I[IIII)Z"⟩
def RX9 : String := "ArrowOrders$Sets"
def TX9 : u_T := fun k => match k with
  | _ => ("", "", "", false)
def tyX9 : Nat → FieldType := fun k => match k with
  | _ => .int
abbrev wsX90 : List Cond := u_ws RX9 TX9 0
theorem nmX9 : ∀ a, a < 0 → ∀ b, b < 0 → a ≠ b → (TX9 a).2.1 ≠ (TX9 b).2.1 := by decide +kernel
theorem tyX9_ok : ∀ k, k < 0 → parseFieldDescriptor (TX9 k).2.2.1 = some (tyX9 k) := by decide +kernel
abbrev cX9_touched : ByteArray := prog_11_method_2_code
def yX9_touched : MethodName := ⟨RX9, "touched", "([II)I"⟩
abbrev cX9_isApart : ByteArray := prog_11_method_3_code
def yX9_isApart : MethodName := ⟨RX9, "isApart", "([II)Z"⟩
abbrev cX9_isAlike : ByteArray := prog_11_method_4_code
def yX9_isAlike : MethodName := ⟨RX9, "isAlike", "([III)Z"⟩
abbrev cX9_isRound : ByteArray := prog_11_method_5_code
def yX9_isRound : MethodName := ⟨RX9, "isRound", "([II)Z"⟩
abbrev cX9_parts : ByteArray := prog_11_method_6_code
def yX9_parts : MethodName := ⟨RX9, "parts", "([II)I"⟩
abbrev cX9_partOf : ByteArray := prog_11_method_7_code
def yX9_partOf : MethodName := ⟨RX9, "partOf", "([III)I"⟩
abbrev cX9_greatestApart : ByteArray := prog_11_method_8_code
def yX9_greatestApart : MethodName := ⟨RX9, "greatestApart", "([II)I"⟩
abbrev cX9_countApart : ByteArray := prog_11_method_9_code
def yX9_countApart : MethodName := ⟨RX9, "countApart", "([II)I"⟩
abbrev cX9_countAlike : ByteArray := prog_11_method_10_code
def yX9_countAlike : MethodName := ⟨RX9, "countAlike", "([II)I"⟩
abbrev cX9_countRounds : ByteArray := prog_11_method_11_code
def yX9_countRounds : MethodName := ⟨RX9, "countRounds", "([II)I"⟩
def RX10 : String := "ArrowOrders$Sharing"
def TX10 : u_T := fun k => match k with
  | 0 => ("ArrowOrders$Sharing", "groups", "[I", true)
  | 1 => ("ArrowOrders$Sharing", "groupOf", "[I", true)
  | _ => ("ArrowOrders$Sharing", "ways", "[I", true)
def tyX10 : Nat → FieldType := fun k => match k with
  | 0 => .array .int
  | 1 => .array .int
  | _ => .array .int
abbrev wsX100 : List Cond := u_ws RX10 TX10 3
theorem nmX10 : ∀ a, a < 3 → ∀ b, b < 3 → a ≠ b → (TX10 a).2.1 ≠ (TX10 b).2.1 := by decide +kernel
theorem tyX10_ok : ∀ k, k < 3 → parseFieldDescriptor (TX10 k).2.2.1 = some (tyX10 k) := by decide +kernel
abbrev cX10_init : ByteArray := prog_12_method_1_code
def yX10_init : MethodName := ⟨RX10, "<init>", "()V"⟩
abbrev cX10_share : ByteArray := prog_12_method_2_code
def yX10_share : MethodName := ⟨RX10, "share", "(LArrowOrders$Net;)I"⟩
abbrev cX10_groupOf : ByteArray := prog_12_method_3_code
def yX10_groupOf : MethodName := ⟨RX10, "groupOf", "(I)I"⟩
abbrev cX10_clearGroups : ByteArray := prog_12_method_4_code
def yX10_clearGroups : MethodName := ⟨RX10, "clearGroups", "()V"⟩
abbrev cX10_fill : ByteArray := prog_12_method_5_code
def yX10_fill : MethodName := ⟨RX10, "fill", "([I[I[IIII)Z"⟩
abbrev cX10_colourings : ByteArray := prog_12_method_6_code
def yX10_colourings : MethodName := ⟨RX10, "colourings", "(LArrowOrders$Net;I)I"⟩
abbrev cX10_part : ByteArray := prog_12_method_7_code
def yX10_part : MethodName := ⟨RX10, "part", "([I[I[IIII)V"⟩
def RX11 : String := "ArrowOrders"
def TX11 : u_T := fun k => match k with
  | 0 => ("ArrowOrders", "reader", "LArrowOrders$Reader;", true)
  | 1 => ("ArrowOrders", "net", "LArrowOrders$Net;", true)
  | 2 => ("ArrowOrders", "opposite", "LArrowOrders$Net;", true)
  | 3 => ("ArrowOrders", "past", "LArrowOrders$Past;", true)
  | 4 => ("ArrowOrders", "slots", "[LArrowOrders$Net;", true)
  | 5 => ("ArrowOrders", "held", "I", false)
  | 6 => ("ArrowOrders", "known", "Z", false)
  | 7 => ("ArrowOrders", "classes", "LArrowOrders$Classes;", true)
  | 8 => ("ArrowOrders", "oppositeClasses", "LArrowOrders$Classes;", true)
  | 9 => ("ArrowOrders", "arrowing", "LArrowOrders$Arrowing;", true)
  | 10 => ("ArrowOrders", "oppositeArrowing", "LArrowOrders$Arrowing;", true)
  | 11 => ("ArrowOrders", "ranks", "LArrowOrders$Ranks;", true)
  | 12 => ("ArrowOrders", "modules", "LArrowOrders$Modules;", true)
  | 13 => ("ArrowOrders", "sharing", "LArrowOrders$Sharing;", true)
  | _ => ("ArrowOrders", "sending", "LArrowOrders$Sending;", true)
def tyX11 : Nat → FieldType := fun k => match k with
  | 0 => .object "ArrowOrders$Reader"
  | 1 => .object "ArrowOrders$Net"
  | 2 => .object "ArrowOrders$Net"
  | 3 => .object "ArrowOrders$Past"
  | 4 => .array (.object "ArrowOrders$Net")
  | 5 => .int
  | 6 => .boolean
  | 7 => .object "ArrowOrders$Classes"
  | 8 => .object "ArrowOrders$Classes"
  | 9 => .object "ArrowOrders$Arrowing"
  | 10 => .object "ArrowOrders$Arrowing"
  | 11 => .object "ArrowOrders$Ranks"
  | 12 => .object "ArrowOrders$Modules"
  | 13 => .object "ArrowOrders$Sharing"
  | _ => .object "ArrowOrders$Sending"
abbrev wsX110 : List Cond := u_ws RX11 TX11 15
theorem nmX11 : ∀ a, a < 15 → ∀ b, b < 15 → a ≠ b → (TX11 a).2.1 ≠ (TX11 b).2.1 := by decide +kernel
theorem tyX11_ok : ∀ k, k < 15 → parseFieldDescriptor (TX11 k).2.2.1 = some (tyX11 k) := by decide +kernel
abbrev cX11_init : ByteArray := prog_1_method_1_code
def yX11_init : MethodName := ⟨RX11, "<init>", "()V"⟩
abbrev cX11_feed : ByteArray := prog_1_method_2_code
def yX11_feed : MethodName := ⟨RX11, "feed", "(IIIII)I"⟩
abbrev cX11_back : ByteArray := prog_1_method_3_code
def yX11_back : MethodName := ⟨RX11, "back", "(I)I"⟩
abbrev cX11_read : ByteArray := prog_1_method_4_code
def yX11_read : MethodName := ⟨RX11, "read", "()I"⟩
abbrev cX11_line : ByteArray := prog_1_method_6_code
def yX11_line : MethodName := ⟨RX11, "line", "(II)Z"⟩
abbrev cX11_other : ByteArray := prog_1_method_7_code
def yX11_other : MethodName := ⟨RX11, "other", "()I"⟩
abbrev cX11_exchange : ByteArray := prog_1_method_8_code
def yX11_exchange : MethodName := ⟨RX11, "exchange", "(II)Z"⟩
abbrev cX11_bare : ByteArray := prog_1_method_9_code
def yX11_bare : MethodName := ⟨RX11, "bare", "(I)I"⟩
abbrev cX11_begin : ByteArray := prog_1_method_10_code
def yX11_begin : MethodName := ⟨RX11, "begin", "()Z"⟩
abbrev cX11_undo : ByteArray := prog_1_method_11_code
def yX11_undo : MethodName := ⟨RX11, "undo", "()Z"⟩
abbrev cX11_of : ByteArray := prog_1_method_12_code
def yX11_of : MethodName := ⟨RX11, "of", "(II)I"⟩
abbrev cX11_far : ByteArray := prog_1_method_13_code
def yX11_far : MethodName := ⟨RX11, "far", "(II)I"⟩
abbrev cX11_near : ByteArray := prog_1_method_14_code
def yX11_near : MethodName := ⟨RX11, "near", "(I)I"⟩
abbrev cX11_forces : ByteArray := prog_1_method_15_code
def yX11_forces : MethodName := ⟨RX11, "forces", "(IIII)I"⟩
abbrev cX11_klass : ByteArray := prog_1_method_16_code
def yX11_klass : MethodName := ⟨RX11, "klass", "(III)I"⟩
abbrev cX11_walk : ByteArray := prog_1_method_17_code
def yX11_walk : MethodName := ⟨RX11, "walk", "(III)I"⟩
abbrev cX11_network : ByteArray := prog_1_method_18_code
def yX11_network : MethodName := ⟨RX11, "network", "(I)I"⟩
abbrev cX11_under : ByteArray := prog_1_method_19_code
def yX11_under : MethodName := ⟨RX11, "under", "(II)I"⟩
abbrev cX11_post : ByteArray := prog_1_method_20_code
def yX11_post : MethodName := ⟨RX11, "post", "(II)I"⟩
abbrev cX11_order : ByteArray := prog_1_method_21_code
def yX11_order : MethodName := ⟨RX11, "order", "(I)I"⟩
abbrev cX11_chain : ByteArray := prog_1_method_22_code
def yX11_chain : MethodName := ⟨RX11, "chain", "(I)I"⟩
abbrev cX11_straight : ByteArray := prog_1_method_23_code
def yX11_straight : MethodName := ⟨RX11, "straight", "(II)I"⟩
abbrev cX11_sign : ByteArray := prog_1_method_24_code
def yX11_sign : MethodName := ⟨RX11, "sign", "(II)I"⟩
abbrev cX11_colours : ByteArray := prog_1_method_25_code
def yX11_colours : MethodName := ⟨RX11, "colours", "(I)I"⟩
abbrev cX11_set : ByteArray := prog_1_method_26_code
def yX11_set : MethodName := ⟨RX11, "set", "(II)I"⟩
abbrev cX11_like : ByteArray := prog_1_method_27_code
def yX11_like : MethodName := ⟨RX11, "like", "(I)I"⟩
abbrev cX11_hold : ByteArray := prog_1_method_28_code
def yX11_hold : MethodName := ⟨RX11, "hold", "(I)Z"⟩
abbrev cX11_restore : ByteArray := prog_1_method_29_code
def yX11_restore : MethodName := ⟨RX11, "restore", "(I)Z"⟩
abbrev cX11_count : ByteArray := prog_1_method_30_code
def yX11_count : MethodName := ⟨RX11, "count", "(I)I"⟩
abbrev cX11_bit : ByteArray := prog_1_method_31_code
def yX11_bit : MethodName := ⟨RX11, "bit", "(Z)I"⟩
abbrev cX11_arrowFrom : ByteArray := prog_1_method_32_code
def yX11_arrowFrom : MethodName := ⟨RX11, "arrowFrom", "(II)I"⟩
abbrev cX11_against : ByteArray := prog_1_method_33_code
def yX11_against : MethodName := ⟨RX11, "against", "(I)I"⟩
abbrev cX11_contains : ByteArray := prog_1_method_34_code
def yX11_contains : MethodName := ⟨RX11, "contains", "(II)Z"⟩
abbrev cX11_isArrow : ByteArray := prog_1_method_35_code
def yX11_isArrow : MethodName := ⟨RX11, "isArrow", "([II)Z"⟩
abbrev cX11_beforeChange : ByteArray := prog_1_method_36_code
def yX11_beforeChange : MethodName := ⟨RX11, "beforeChange", "()V"⟩
abbrev cX11_heldIn : ByteArray := prog_1_method_37_code
def yX11_heldIn : MethodName := ⟨RX11, "heldIn", "(I)LArrowOrders$Net;"⟩
abbrev cX11_isCrossed : ByteArray := prog_1_method_38_code
def yX11_isCrossed : MethodName := ⟨RX11, "isCrossed", "()Z"⟩
abbrev cX11_study : ByteArray := prog_1_method_39_code
def yX11_study : MethodName := ⟨RX11, "study", "()V"⟩
abbrev cX11_crossedPlace : ByteArray := prog_1_method_40_code
def yX11_crossedPlace : MethodName := ⟨RX11, "crossedPlace", "(IZ)I"⟩
def RX12 : String := "ArrowOrdersModel"
def TX12 : u_T := fun k => match k with
  | _ => ("", "", "", false)
def tyX12 : Nat → FieldType := fun k => match k with
  | _ => .int
abbrev wsX120 : List Cond := u_ws RX12 TX12 0
theorem nmX12 : ∀ a, a < 0 → ∀ b, b < 0 → a ≠ b → (TX12 a).2.1 ≠ (TX12 b).2.1 := by decide +kernel
theorem tyX12_ok : ∀ k, k < 0 → parseFieldDescriptor (TX12 k).2.2.1 = some (tyX12 k) := by decide +kernel
def RJ6 : String := "java/lang/Integer"
def TJ6 : u_T := fun k => match k with
  | _ => ("", "", "", false)
def tyJ6 : Nat → FieldType := fun k => match k with
  | _ => .int
abbrev wsJ60 : List Cond := u_ws RJ6 TJ6 0
theorem nmJ6 : ∀ a, a < 0 → ∀ b, b < 0 → a ≠ b → (TJ6 a).2.1 ≠ (TJ6 b).2.1 := by decide +kernel
theorem tyJ6_ok : ∀ k, k < 0 → parseFieldDescriptor (TJ6 k).2.2.1 = some (tyJ6 k) := by decide +kernel
abbrev cJ6_bitCount_0f7a4 : ByteArray := prog_15_method_49_code
def yJ6_bitCount_0f7a4 : MethodName := ⟨RJ6, "bitCount", "(I)I"⟩
def RJ9 : String := "java/lang/Math"
def TJ9 : u_T := fun k => match k with
  | _ => ("", "", "", false)
def tyJ9 : Nat → FieldType := fun k => match k with
  | _ => .int
abbrev wsJ90 : List Cond := u_ws RJ9 TJ9 0
theorem nmJ9 : ∀ a, a < 0 → ∀ b, b < 0 → a ≠ b → (TJ9 a).2.1 ≠ (TJ9 b).2.1 := by decide +kernel
theorem tyJ9_ok : ∀ k, k < 0 → parseFieldDescriptor (TJ9 k).2.2.1 = some (tyJ9 k) := by decide +kernel
abbrev cJ9_max_7cf53 : ByteArray := prog_16_method_65_code
def yJ9_max_7cf53 : MethodName := ⟨RJ9, "max", "(II)I"⟩
abbrev cJ9_min_7cf53 : ByteArray := prog_16_method_69_code
def yJ9_min_7cf53 : MethodName := ⟨RJ9, "min", "(II)I"⟩
def RJ0 : String := "java/lang/String"
def TJ0 : u_T := fun k => match k with
  | _ => ("", "", "", false)
def tyJ0 : Nat → FieldType := fun k => match k with
  | _ => .int
abbrev wsJ00 : List Cond := u_ws RJ0 TJ0 0
theorem nmJ0 : ∀ a, a < 0 → ∀ b, b < 0 → a ≠ b → (TJ0 a).2.1 ≠ (TJ0 b).2.1 := by decide +kernel
theorem tyJ0_ok : ∀ k, k < 0 → parseFieldDescriptor (TJ0 k).2.2.1 = some (tyJ0 k) := by decide +kernel
abbrev cJ0_length_8abf5 : ByteArray := prog_17_method_54_code
def yJ0_length_8abf5 : MethodName := ⟨RJ0, "length", "()I"⟩
abbrev cJ0_charAt_5068e : ByteArray := prog_17_method_56_code
def yJ0_charAt_5068e : MethodName := ⟨RJ0, "charAt", "(I)C"⟩
abbrev cJ0_coder_7d493 : ByteArray := prog_17_method_152_code
def yJ0_coder_7d493 : MethodName := ⟨RJ0, "coder", "()B"⟩
abbrev cJ0_isLatin1_aae02 : ByteArray := prog_17_method_154_code
def yJ0_isLatin1_aae02 : MethodName := ⟨RJ0, "isLatin1", "()Z"⟩
abbrev cJ0_checkIndex_df160 : ByteArray := prog_17_method_155_code
def yJ0_checkIndex_df160 : MethodName := ⟨RJ0, "checkIndex", "(II)V"⟩
def RJ1 : String := "java/lang/StringLatin1"
def TJ1 : u_T := fun k => match k with
  | _ => ("", "", "", false)
def tyJ1 : Nat → FieldType := fun k => match k with
  | _ => .int
abbrev wsJ10 : List Cond := u_ws RJ1 TJ1 0
theorem nmJ1 : ∀ a, a < 0 → ∀ b, b < 0 → a ≠ b → (TJ1 a).2.1 ≠ (TJ1 b).2.1 := by decide +kernel
theorem tyJ1_ok : ∀ k, k < 0 → parseFieldDescriptor (TJ1 k).2.2.1 = some (tyJ1 k) := by decide +kernel
abbrev cJ1_charAt_3b067 : ByteArray := prog_18_method_2_code
def yJ1_charAt_3b067 : MethodName := ⟨RJ1, "charAt", "([BI)C"⟩
def RJ2 : String := "java/lang/StringUTF16"
def TJ2 : u_T := fun k => match k with
  | _ => ("", "", "", false)
def tyJ2 : Nat → FieldType := fun k => match k with
  | _ => .int
abbrev wsJ20 : List Cond := u_ws RJ2 TJ2 0
theorem nmJ2 : ∀ a, a < 0 → ∀ b, b < 0 → a ≠ b → (TJ2 a).2.1 ≠ (TJ2 b).2.1 := by decide +kernel
theorem tyJ2_ok : ∀ k, k < 0 → parseFieldDescriptor (TJ2 k).2.2.1 = some (tyJ2 k) := by decide +kernel
abbrev cJ2_getChar_3b067 : ByteArray := prog_19_method_5_code
def yJ2_getChar_3b067 : MethodName := ⟨RJ2, "getChar", "([BI)C"⟩
abbrev cJ2_length_9d52b : ByteArray := prog_19_method_6_code
def yJ2_length_9d52b : MethodName := ⟨RJ2, "length", "([B)I"⟩
abbrev cJ2_charAt_3b067 : ByteArray := prog_19_method_83_code
def yJ2_charAt_3b067 : MethodName := ⟨RJ2, "charAt", "([BI)C"⟩
abbrev cJ2_checkIndex_2214a : ByteArray := prog_19_method_91_code
def yJ2_checkIndex_2214a : MethodName := ⟨RJ2, "checkIndex", "(I[B)V"⟩
def RJ3 : String := "jdk/internal/util/Preconditions"
def TJ3 : u_T := fun k => match k with
  | _ => ("", "", "", false)
def tyJ3 : Nat → FieldType := fun k => match k with
  | _ => .int
abbrev wsJ30 : List Cond := u_ws RJ3 TJ3 0
theorem nmJ3 : ∀ a, a < 0 → ∀ b, b < 0 → a ≠ b → (TJ3 a).2.1 ≠ (TJ3 b).2.1 := by decide +kernel
theorem tyJ3_ok : ∀ k, k < 0 → parseFieldDescriptor (TJ3 k).2.2.1 = some (tyJ3 k) := by decide +kernel
abbrev cJ3_checkIndex_8e157 : ByteArray := prog_20_method_11_code
def yJ3_checkIndex_8e157 : MethodName := ⟨RJ3, "checkIndex", "(IILjava/util/function/BiFunction;)I"⟩
def RL : String := "ArrowOrdersLaw"
abbrev cL_put : ByteArray := method_2_code
def yL_put : MethodName := ⟨RL, "put", "(LArrowOrders;IIIIII)V"⟩
abbrev cL_sign : ByteArray := method_3_code
def yL_sign : MethodName := ⟨RL, "sign", "(LArrowOrders;I)V"⟩
abbrev cL_number : ByteArray := method_4_code
def yL_number : MethodName := ⟨RL, "number", "(LArrowOrders;I)V"⟩
abbrev cL_told : ByteArray := method_5_code
def yL_told : MethodName := ⟨RL, "told", "(LArrowOrders;III)V"⟩
abbrev cL_arrows : ByteArray := method_6_code
def yL_arrows : MethodName := ⟨RL, "arrows", "(LArrowOrders;I)Z"⟩
abbrev cL_orders : ByteArray := method_7_code
def yL_orders : MethodName := ⟨RL, "orders", "(LArrowOrders;I)Z"⟩
abbrev cL_kept : ByteArray := method_8_code
def yL_kept : MethodName := ⟨RL, "kept", "(LArrowOrders;)[I"⟩
abbrev cL_same : ByteArray := method_9_code
def yL_same : MethodName := ⟨RL, "same", "([I[I)Z"⟩
abbrev cL_law : ByteArray := code
def yL_law : MethodName := ⟨RL, "law", "([I)Z"⟩
