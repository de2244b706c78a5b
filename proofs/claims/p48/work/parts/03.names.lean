def RX0 : String := "ClimbingHall$Ballot"
def TX0 : u_T := fun k => match k with
  | 0 => ("ClimbingHall$Ballot", "numberOf", "[I", true)
  | 1 => ("ClimbingHall$Ballot", "size", "I", false)
  | 2 => ("ClimbingHall$Ballot", "keptSum", "I", false)
  | _ => ("ClimbingHall$Ballot", "kept", "I", false)
def tyX0 : Nat → FieldType := fun k => match k with
  | 0 => .array .int
  | 1 => .int
  | 2 => .int
  | _ => .int
theorem nmX0 : ∀ a, a < 4 → ∀ b, b < 4 → a ≠ b → (TX0 a).2.1 ≠ (TX0 b).2.1 := by decide +kernel
theorem tyX0_ok : ∀ k, k < 4 → parseFieldDescriptor (TX0 k).2.2.1 = some (tyX0 k) := by decide +kernel
abbrev cX0_init : ByteArray := prog_2_method_1_code
def yX0_init : MethodName := ⟨RX0, "<init>", "()V"⟩
abbrev cX0_clear : ByteArray := prog_2_method_2_code
def yX0_clear : MethodName := ⟨RX0, "clear", "()V"⟩
abbrev cX0_addVotes : ByteArray := prog_2_method_3_code
def yX0_addVotes : MethodName := ⟨RX0, "addVotes", "(II)V"⟩
abbrev cX0_trimEnds : ByteArray := prog_2_method_4_code
def yX0_trimEnds : MethodName := ⟨RX0, "trimEnds", "(I)V"⟩
abbrev cX0_nearestGrade : ByteArray := prog_2_method_5_code
def yX0_nearestGrade : MethodName := ⟨RX0, "nearestGrade", "()I"⟩
def RX1 : String := "ClimbingHall$Hall"
def TX1 : u_T := fun k => match k with
  | 0 => ("ClimbingHall$Hall", "walls", "LClimbingHall$Table;", true)
  | 1 => ("ClimbingHall$Hall", "routes", "LClimbingHall$Table;", true)
  | 2 => ("ClimbingHall$Hall", "archive", "LClimbingHall$Table;", true)
  | 3 => ("ClimbingHall$Hall", "harnesses", "LClimbingHall$Table;", true)
  | 4 => ("ClimbingHall$Hall", "members", "LClimbingHall$Table;", true)
  | 5 => ("ClimbingHall$Hall", "courses", "LClimbingHall$Table;", true)
  | 6 => ("ClimbingHall$Hall", "ballot", "LClimbingHall$Ballot;", true)
  | 7 => ("ClimbingHall$Hall", "day", "I", false)
  | 8 => ("ClimbingHall$Hall", "trim", "I", false)
  | 9 => ("ClimbingHall$Hall", "setterVotes", "I", false)
  | _ => ("ClimbingHall$Hall", "wearLimit", "I", false)
def tyX1 : Nat → FieldType := fun k => match k with
  | 0 => .object "ClimbingHall$Table"
  | 1 => .object "ClimbingHall$Table"
  | 2 => .object "ClimbingHall$Table"
  | 3 => .object "ClimbingHall$Table"
  | 4 => .object "ClimbingHall$Table"
  | 5 => .object "ClimbingHall$Table"
  | 6 => .object "ClimbingHall$Ballot"
  | 7 => .int
  | 8 => .int
  | 9 => .int
  | _ => .int
theorem nmX1 : ∀ a, a < 11 → ∀ b, b < 11 → a ≠ b → (TX1 a).2.1 ≠ (TX1 b).2.1 := by decide +kernel
theorem tyX1_ok : ∀ k, k < 11 → parseFieldDescriptor (TX1 k).2.2.1 = some (tyX1 k) := by decide +kernel
abbrev cX1_init : ByteArray := prog_3_method_1_code
def yX1_init : MethodName := ⟨RX1, "<init>", "(LClimbingHall$Ballot;)V"⟩
abbrev cX1_copyFrom : ByteArray := prog_3_method_2_code
def yX1_copyFrom : MethodName := ⟨RX1, "copyFrom", "(LClimbingHall$Hall;)V"⟩
abbrev cX1_clear : ByteArray := prog_3_method_3_code
def yX1_clear : MethodName := ⟨RX1, "clear", "()V"⟩
abbrev cX1_setRules : ByteArray := prog_3_method_4_code
def yX1_setRules : MethodName := ⟨RX1, "setRules", "(III)V"⟩
abbrev cX1_addWall : ByteArray := prog_3_method_5_code
def yX1_addWall : MethodName := ⟨RX1, "addWall", "(III)V"⟩
abbrev cX1_addHarness : ByteArray := prog_3_method_6_code
def yX1_addHarness : MethodName := ⟨RX1, "addHarness", "(II)V"⟩
abbrev cX1_addMember : ByteArray := prog_3_method_7_code
def yX1_addMember : MethodName := ⟨RX1, "addMember", "(II)V"⟩
abbrev cX1_addCourse : ByteArray := prog_3_method_8_code
def yX1_addCourse : MethodName := ⟨RX1, "addCourse", "(III)V"⟩
abbrev cX1_routesOn : ByteArray := prog_3_method_9_code
def yX1_routesOn : MethodName := ⟨RX1, "routesOn", "(I)I"⟩
abbrev cX1_addRoute : ByteArray := prog_3_method_10_code
def yX1_addRoute : MethodName := ⟨RX1, "addRoute", "(II)I"⟩
abbrev cX1_archiveRoute : ByteArray := prog_3_method_11_code
def yX1_archiveRoute : MethodName := ⟨RX1, "archiveRoute", "(I)I"⟩
abbrev cX1_isWorn : ByteArray := prog_3_method_12_code
def yX1_isWorn : MethodName := ⟨RX1, "isWorn", "(I)Z"⟩
abbrev cX1_mayClimb : ByteArray := prog_3_method_13_code
def yX1_mayClimb : MethodName := ⟨RX1, "mayClimb", "(II)Z"⟩
abbrev cX1_hasClimbed : ByteArray := prog_3_method_15_code
def yX1_hasClimbed : MethodName := ⟨RX1, "hasClimbed", "(II)Z"⟩
abbrev cX1_wearOfClimb : ByteArray := prog_3_method_16_code
def yX1_wearOfClimb : MethodName := ⟨RX1, "wearOfClimb", "(I)I"⟩
abbrev cX1_addClimb : ByteArray := prog_3_method_17_code
def yX1_addClimb : MethodName := ⟨RX1, "addClimb", "(II)I"⟩
abbrev cX1_fillBallot : ByteArray := prog_3_method_19_code
def yX1_fillBallot : MethodName := ⟨RX1, "fillBallot", "(III)V"⟩
abbrev cX1_gradeOf : ByteArray := prog_3_method_21_code
def yX1_gradeOf : MethodName := ⟨RX1, "gradeOf", "(I)I"⟩
abbrev cX1_votesFor : ByteArray := prog_3_method_23_code
def yX1_votesFor : MethodName := ⟨RX1, "votesFor", "(I)I"⟩
abbrev cX1_harnessOf : ByteArray := prog_3_method_27_code
def yX1_harnessOf : MethodName := ⟨RX1, "harnessOf", "(I)I"⟩
abbrev cX1_isRetired : ByteArray := prog_3_method_28_code
def yX1_isRetired : MethodName := ⟨RX1, "isRetired", "(I)Z"⟩
abbrev cX1_isLent : ByteArray := prog_3_method_29_code
def yX1_isLent : MethodName := ⟨RX1, "isLent", "(I)Z"⟩
abbrev cX1_stateOf : ByteArray := prog_3_method_30_code
def yX1_stateOf : MethodName := ⟨RX1, "stateOf", "(I)I"⟩
abbrev cX1_lapseOf : ByteArray := prog_3_method_31_code
def yX1_lapseOf : MethodName := ⟨RX1, "lapseOf", "(I)I"⟩
abbrev cX1_isInForce : ByteArray := prog_3_method_32_code
def yX1_isInForce : MethodName := ⟨RX1, "isInForce", "(II)Z"⟩
abbrev cX1_isLendable : ByteArray := prog_3_method_33_code
def yX1_isLendable : MethodName := ⟨RX1, "isLendable", "(I)Z"⟩
abbrev cX1_addCheck : ByteArray := prog_3_method_34_code
def yX1_addCheck : MethodName := ⟨RX1, "addCheck", "(IZ)V"⟩
abbrev cX1_isClosed : ByteArray := prog_3_method_40_code
def yX1_isClosed : MethodName := ⟨RX1, "isClosed", "(I)Z"⟩
abbrev cX1_resetWall : ByteArray := prog_3_method_46_code
def yX1_resetWall : MethodName := ⟨RX1, "resetWall", "(I)I"⟩
abbrev cX1_endDay : ByteArray := prog_3_method_47_code
def yX1_endDay : MethodName := ⟨RX1, "endDay", "()I"⟩
abbrev cX1_membersIn : ByteArray := prog_3_method_48_code
def yX1_membersIn : MethodName := ⟨RX1, "membersIn", "(I)I"⟩
abbrev cX1_mayEnroll : ByteArray := prog_3_method_49_code
def yX1_mayEnroll : MethodName := ⟨RX1, "mayEnroll", "(II)Z"⟩
abbrev cX1_endCourse : ByteArray := prog_3_method_50_code
def yX1_endCourse : MethodName := ⟨RX1, "endCourse", "(II)I"⟩
def RX2 : String := "ClimbingHall$History"
def TX2 : u_T := fun k => match k with
  | 0 => ("ClimbingHall$History", "before", "[LClimbingHall$Hall;", true)
  | 1 => ("ClimbingHall$History", "undos", "I", false)
  | 2 => ("ClimbingHall$History", "latest", "I", false)
  | 3 => ("ClimbingHall$History", "copy", "LClimbingHall$Hall;", true)
  | _ => ("ClimbingHall$History", "hasCopy", "Z", false)
def tyX2 : Nat → FieldType := fun k => match k with
  | 0 => .array (.object "ClimbingHall$Hall")
  | 1 => .int
  | 2 => .int
  | 3 => .object "ClimbingHall$Hall"
  | _ => .boolean
theorem nmX2 : ∀ a, a < 5 → ∀ b, b < 5 → a ≠ b → (TX2 a).2.1 ≠ (TX2 b).2.1 := by decide +kernel
theorem tyX2_ok : ∀ k, k < 5 → parseFieldDescriptor (TX2 k).2.2.1 = some (tyX2 k) := by decide +kernel
abbrev cX2_init : ByteArray := prog_4_method_1_code
def yX2_init : MethodName := ⟨RX2, "<init>", "(LClimbingHall$Ballot;)V"⟩
abbrev cX2_latestHall : ByteArray := prog_4_method_2_code
def yX2_latestHall : MethodName := ⟨RX2, "latestHall", "()LClimbingHall$Hall;"⟩
abbrev cX2_remember : ByteArray := prog_4_method_3_code
def yX2_remember : MethodName := ⟨RX2, "remember", "(LClimbingHall$Hall;)V"⟩
abbrev cX2_takeBack : ByteArray := prog_4_method_4_code
def yX2_takeBack : MethodName := ⟨RX2, "takeBack", "(LClimbingHall$Hall;)V"⟩
abbrev cX2_keepCopy : ByteArray := prog_4_method_5_code
def yX2_keepCopy : MethodName := ⟨RX2, "keepCopy", "(LClimbingHall$Hall;)V"⟩
abbrev cX2_bringBackCopy : ByteArray := prog_4_method_6_code
def yX2_bringBackCopy : MethodName := ⟨RX2, "bringBackCopy", "(LClimbingHall$Hall;)V"⟩
abbrev cX2_forgetAll : ByteArray := prog_4_method_7_code
def yX2_forgetAll : MethodName := ⟨RX2, "forgetAll", "()V"⟩
def RX3 : String := "ClimbingHall$SetupText"
def TX3 : u_T := fun k => match k with
  | 0 => ("ClimbingHall$SetupText", "bytes", "[I", true)
  | 1 => ("ClimbingHall$SetupText", "length", "I", false)
  | 2 => ("ClimbingHall$SetupText", "draft", "LClimbingHall$Hall;", true)
  | 3 => ("ClimbingHall$SetupText", "numbers", "[I", true)
  | 4 => ("ClimbingHall$SetupText", "hasRules", "Z", false)
  | 5 => ("ClimbingHall$SetupText", "tokenStart", "I", false)
  | _ => ("ClimbingHall$SetupText", "tokenEnd", "I", false)
def tyX3 : Nat → FieldType := fun k => match k with
  | 0 => .array .int
  | 1 => .int
  | 2 => .object "ClimbingHall$Hall"
  | 3 => .array .int
  | 4 => .boolean
  | 5 => .int
  | _ => .int
theorem nmX3 : ∀ a, a < 7 → ∀ b, b < 7 → a ≠ b → (TX3 a).2.1 ≠ (TX3 b).2.1 := by decide +kernel
theorem tyX3_ok : ∀ k, k < 7 → parseFieldDescriptor (TX3 k).2.2.1 = some (tyX3 k) := by decide +kernel
abbrev cX3_init : ByteArray := prog_5_method_1_code
def yX3_init : MethodName := ⟨RX3, "<init>", "(LClimbingHall$Hall;)V"⟩
abbrev cX3_addBytesOf : ByteArray := prog_5_method_2_code
def yX3_addBytesOf : MethodName := ⟨RX3, "addBytesOf", "(I)V"⟩
abbrev cX3_byteAt : ByteArray := prog_5_method_3_code
def yX3_byteAt : MethodName := ⟨RX3, "byteAt", "(I)I"⟩
abbrev cX3_isLetter : ByteArray := prog_5_method_4_code
def yX3_isLetter : MethodName := ⟨RX3, "isLetter", "(I)Z"⟩
abbrev cX3_isDigit : ByteArray := prog_5_method_5_code
def yX3_isDigit : MethodName := ⟨RX3, "isDigit", "(I)Z"⟩
abbrev cX3_readToken : ByteArray := prog_5_method_6_code
def yX3_readToken : MethodName := ⟨RX3, "readToken", "()V"⟩
abbrev cX3_tokenIs : ByteArray := prog_5_method_7_code
def yX3_tokenIs : MethodName := ⟨RX3, "tokenIs", "(Ljava/lang/String;)Z"⟩
abbrev cX3_wordOf : ByteArray := prog_5_method_8_code
def yX3_wordOf : MethodName := ⟨RX3, "wordOf", "(I)Ljava/lang/String;"⟩
abbrev cX3_kindOfToken : ByteArray := prog_5_method_9_code
def yX3_kindOfToken : MethodName := ⟨RX3, "kindOfToken", "()I"⟩
abbrev cX3_numberOfToken : ByteArray := prog_5_method_10_code
def yX3_numberOfToken : MethodName := ⟨RX3, "numberOfToken", "()I"⟩
abbrev cX3_hasRoomFor : ByteArray := prog_5_method_11_code
def yX3_hasRoomFor : MethodName := ⟨RX3, "hasRoomFor", "(I)Z"⟩
abbrev cX3_numbersOf : ByteArray := prog_5_method_12_code
def yX3_numbersOf : MethodName := ⟨RX3, "numbersOf", "(I)I"⟩
abbrev cX3_isInRange : ByteArray := prog_5_method_13_code
def yX3_isInRange : MethodName := ⟨RX3, "isInRange", "(III)Z"⟩
abbrev cX3_addStatement : ByteArray := prog_5_method_14_code
def yX3_addStatement : MethodName := ⟨RX3, "addStatement", "(I)V"⟩
abbrev cX3_readStatement : ByteArray := prog_5_method_15_code
def yX3_readStatement : MethodName := ⟨RX3, "readStatement", "()Z"⟩
abbrev cX3_readDraft : ByteArray := prog_5_method_16_code
def yX3_readDraft : MethodName := ⟨RX3, "readDraft", "()I"⟩
def RX4 : String := "ClimbingHall$Table"
def TX4 : u_T := fun k => match k with
  | 0 => ("ClimbingHall$Table", "mostRows", "I", true)
  | 1 => ("ClimbingHall$Table", "columns", "I", true)
  | 2 => ("ClimbingHall$Table", "cells", "[I", true)
  | _ => ("ClimbingHall$Table", "rows", "I", false)
def tyX4 : Nat → FieldType := fun k => match k with
  | 0 => .int
  | 1 => .int
  | 2 => .array .int
  | _ => .int
theorem nmX4 : ∀ a, a < 4 → ∀ b, b < 4 → a ≠ b → (TX4 a).2.1 ≠ (TX4 b).2.1 := by decide +kernel
theorem tyX4_ok : ∀ k, k < 4 → parseFieldDescriptor (TX4 k).2.2.1 = some (tyX4 k) := by decide +kernel
abbrev cX4_init : ByteArray := prog_6_method_1_code
def yX4_init : MethodName := ⟨RX4, "<init>", "(II)V"⟩
abbrev cX4_hasRow : ByteArray := prog_6_method_2_code
def yX4_hasRow : MethodName := ⟨RX4, "hasRow", "(I)Z"⟩
abbrev cX4_isFull : ByteArray := prog_6_method_3_code
def yX4_isFull : MethodName := ⟨RX4, "isFull", "()Z"⟩
abbrev cX4_clear : ByteArray := prog_6_method_4_code
def yX4_clear : MethodName := ⟨RX4, "clear", "()V"⟩
abbrev cX4_get : ByteArray := prog_6_method_5_code
def yX4_get : MethodName := ⟨RX4, "get", "(II)I"⟩
abbrev cX4_set : ByteArray := prog_6_method_6_code
def yX4_set : MethodName := ⟨RX4, "set", "(III)V"⟩
abbrev cX4_add : ByteArray := prog_6_method_7_code
def yX4_add : MethodName := ⟨RX4, "add", "(III)V"⟩
abbrev cX4_addRow : ByteArray := prog_6_method_8_code
def yX4_addRow : MethodName := ⟨RX4, "addRow", "()I"⟩
abbrev cX4_removeRow : ByteArray := prog_6_method_9_code
def yX4_removeRow : MethodName := ⟨RX4, "removeRow", "(I)V"⟩
abbrev cX4_copyFrom : ByteArray := prog_6_method_10_code
def yX4_copyFrom : MethodName := ⟨RX4, "copyFrom", "(LClimbingHall$Table;)V"⟩
def RX5 : String := "ClimbingHall"
def TX5 : u_T := fun k => match k with
  | 0 => ("ClimbingHall", "hall", "LClimbingHall$Hall;", true)
  | 1 => ("ClimbingHall", "text", "LClimbingHall$SetupText;", true)
  | _ => ("ClimbingHall", "history", "LClimbingHall$History;", true)
def tyX5 : Nat → FieldType := fun k => match k with
  | 0 => .object "ClimbingHall$Hall"
  | 1 => .object "ClimbingHall$SetupText"
  | _ => .object "ClimbingHall$History"
theorem nmX5 : ∀ a, a < 3 → ∀ b, b < 3 → a ≠ b → (TX5 a).2.1 ≠ (TX5 b).2.1 := by decide +kernel
theorem tyX5_ok : ∀ k, k < 3 → parseFieldDescriptor (TX5 k).2.2.1 = some (tyX5 k) := by decide +kernel
abbrev cX5_init : ByteArray := prog_1_method_1_code
def yX5_init : MethodName := ⟨RX5, "<init>", "()V"⟩
abbrev cX5_append : ByteArray := prog_1_method_2_code
def yX5_append : MethodName := ⟨RX5, "append", "(IIIII)I"⟩
abbrev cX5_truncate : ByteArray := prog_1_method_3_code
def yX5_truncate : MethodName := ⟨RX5, "truncate", "(I)I"⟩
abbrev cX5_errorPosition : ByteArray := prog_1_method_4_code
def yX5_errorPosition : MethodName := ⟨RX5, "errorPosition", "()I"⟩
abbrev cX5_load : ByteArray := prog_1_method_5_code
def yX5_load : MethodName := ⟨RX5, "load", "()I"⟩
abbrev cX5_setRoute : ByteArray := prog_1_method_6_code
def yX5_setRoute : MethodName := ⟨RX5, "setRoute", "(II)I"⟩
abbrev cX5_removeRoute : ByteArray := prog_1_method_7_code
def yX5_removeRoute : MethodName := ⟨RX5, "removeRoute", "(I)I"⟩
abbrev cX5_climb : ByteArray := prog_1_method_8_code
def yX5_climb : MethodName := ⟨RX5, "climb", "(II)I"⟩
abbrev cX5_vote : ByteArray := prog_1_method_9_code
def yX5_vote : MethodName := ⟨RX5, "vote", "(III)I"⟩
abbrev cX5_lend : ByteArray := prog_1_method_10_code
def yX5_lend : MethodName := ⟨RX5, "lend", "(II)I"⟩
abbrev cX5_giveBack : ByteArray := prog_1_method_11_code
def yX5_giveBack : MethodName := ⟨RX5, "giveBack", "(I)I"⟩
abbrev cX5_check : ByteArray := prog_1_method_12_code
def yX5_check : MethodName := ⟨RX5, "check", "(IZ)I"⟩
abbrev cX5_enroll : ByteArray := prog_1_method_13_code
def yX5_enroll : MethodName := ⟨RX5, "enroll", "(II)I"⟩
abbrev cX5_leaveCourse : ByteArray := prog_1_method_14_code
def yX5_leaveCourse : MethodName := ⟨RX5, "leaveCourse", "(I)I"⟩
abbrev cX5_finish : ByteArray := prog_1_method_15_code
def yX5_finish : MethodName := ⟨RX5, "finish", "(II)I"⟩
abbrev cX5_postpone : ByteArray := prog_1_method_16_code
def yX5_postpone : MethodName := ⟨RX5, "postpone", "(II)I"⟩
abbrev cX5_endDays : ByteArray := prog_1_method_17_code
def yX5_endDays : MethodName := ⟨RX5, "endDays", "(I)I"⟩
abbrev cX5_undo : ByteArray := prog_1_method_18_code
def yX5_undo : MethodName := ⟨RX5, "undo", "()I"⟩
abbrev cX5_undoCount : ByteArray := prog_1_method_19_code
def yX5_undoCount : MethodName := ⟨RX5, "undoCount", "()I"⟩
abbrev cX5_save : ByteArray := prog_1_method_20_code
def yX5_save : MethodName := ⟨RX5, "save", "()I"⟩
abbrev cX5_restore : ByteArray := prog_1_method_21_code
def yX5_restore : MethodName := ⟨RX5, "restore", "()I"⟩
abbrev cX5_count : ByteArray := prog_1_method_22_code
def yX5_count : MethodName := ⟨RX5, "count", "(I)I"⟩
abbrev cX5_wall : ByteArray := prog_1_method_23_code
def yX5_wall : MethodName := ⟨RX5, "wall", "(II)I"⟩
abbrev cX5_route : ByteArray := prog_1_method_24_code
def yX5_route : MethodName := ⟨RX5, "route", "(II)I"⟩
abbrev cX5_archived : ByteArray := prog_1_method_25_code
def yX5_archived : MethodName := ⟨RX5, "archived", "(II)I"⟩
abbrev cX5_member : ByteArray := prog_1_method_26_code
def yX5_member : MethodName := ⟨RX5, "member", "(II)I"⟩
abbrev cX5_harness : ByteArray := prog_1_method_27_code
def yX5_harness : MethodName := ⟨RX5, "harness", "(II)I"⟩
abbrev cX5_course : ByteArray := prog_1_method_28_code
def yX5_course : MethodName := ⟨RX5, "course", "(II)I"⟩
abbrev cX5_grade : ByteArray := prog_1_method_30_code
def yX5_grade : MethodName := ⟨RX5, "grade", "(I)I"⟩
abbrev cX5_needRow : ByteArray := prog_1_method_47_code
def yX5_needRow : MethodName := ⟨RX5, "needRow", "(LClimbingHall$Table;I)V"⟩
abbrev cX5_needBetween : ByteArray := prog_1_method_48_code
def yX5_needBetween : MethodName := ⟨RX5, "needBetween", "(III)V"⟩
abbrev cX5_bytesIn : ByteArray := prog_1_method_51_code
def yX5_bytesIn : MethodName := ⟨RX5, "bytesIn", "(I)I"⟩
def RX6 : String := "ClimbingHallLaw$Hall"
def TX6 : u_T := fun k => match k with
  | 0 => ("ClimbingHallLaw$Hall", "trim", "I", false)
  | 1 => ("ClimbingHallLaw$Hall", "setter", "I", false)
  | 2 => ("ClimbingHallLaw$Hall", "wear", "I", false)
  | 3 => ("ClimbingHallLaw$Hall", "day", "I", false)
  | 4 => ("ClimbingHallLaw$Hall", "walls", "Ljava/util/ArrayList;", true)
  | 5 => ("ClimbingHallLaw$Hall", "routes", "Ljava/util/ArrayList;", true)
  | 6 => ("ClimbingHallLaw$Hall", "harnesses", "Ljava/util/ArrayList;", true)
  | 7 => ("ClimbingHallLaw$Hall", "members", "Ljava/util/ArrayList;", true)
  | 8 => ("ClimbingHallLaw$Hall", "courses", "Ljava/util/ArrayList;", true)
  | _ => ("ClimbingHallLaw$Hall", "archive", "Ljava/util/ArrayList;", true)
def tyX6 : Nat → FieldType := fun k => match k with
  | 0 => .int
  | 1 => .int
  | 2 => .int
  | 3 => .int
  | 4 => .object "java/util/ArrayList"
  | 5 => .object "java/util/ArrayList"
  | 6 => .object "java/util/ArrayList"
  | 7 => .object "java/util/ArrayList"
  | 8 => .object "java/util/ArrayList"
  | _ => .object "java/util/ArrayList"
theorem nmX6 : ∀ a, a < 10 → ∀ b, b < 10 → a ≠ b → (TX6 a).2.1 ≠ (TX6 b).2.1 := by decide +kernel
theorem tyX6_ok : ∀ k, k < 10 → parseFieldDescriptor (TX6 k).2.2.1 = some (tyX6 k) := by decide +kernel
abbrev cX6_init : ByteArray := prog_8_method_1_code
def yX6_init : MethodName := ⟨RX6, "<init>", "()V"⟩
abbrev cX6_init_ : ByteArray := prog_8_method_2_code
def yX6_init_ : MethodName := ⟨RX6, "<init>", "(LClimbingHallLaw$Hall;)V"⟩
abbrev cX6_wall : ByteArray := prog_8_method_3_code
def yX6_wall : MethodName := ⟨RX6, "wall", "(III)V"⟩
abbrev cX6_harness : ByteArray := prog_8_method_4_code
def yX6_harness : MethodName := ⟨RX6, "harness", "(II)V"⟩
abbrev cX6_member : ByteArray := prog_8_method_5_code
def yX6_member : MethodName := ⟨RX6, "member", "(II)V"⟩
abbrev cX6_plain : ByteArray := prog_8_method_6_code
def yX6_plain : MethodName := ⟨RX6, "plain", "()LClimbingHallLaw$Hall;"⟩
abbrev cX6_drawn : ByteArray := prog_8_method_7_code
def yX6_drawn : MethodName := ⟨RX6, "drawn", "([I)LClimbingHallLaw$Hall;"⟩
abbrev cX6_text : ByteArray := prog_8_method_8_code
def yX6_text : MethodName := ⟨RX6, "text", "()Ljava/lang/String;"⟩
abbrev cX6_mean : ByteArray := prog_8_method_9_code
def yX6_mean : MethodName := ⟨RX6, "mean", "(LClimbingHallLaw$Route;II)[I"⟩
abbrev cX6_grade : ByteArray := prog_8_method_10_code
def yX6_grade : MethodName := ⟨RX6, "grade", "(LClimbingHallLaw$Route;II)I"⟩
abbrev cX6_grade_ : ByteArray := prog_8_method_11_code
def yX6_grade_ : MethodName := ⟨RX6, "grade", "(LClimbingHallLaw$Route;)I"⟩
abbrev cX6_isClosed : ByteArray := prog_8_method_12_code
def yX6_isClosed : MethodName := ⟨RX6, "isClosed", "(I)Z"⟩
abbrev cX6_isLent : ByteArray := prog_8_method_13_code
def yX6_isLent : MethodName := ⟨RX6, "isLent", "(I)Z"⟩
abbrev cX6_inForce : ByteArray := prog_8_method_14_code
def yX6_inForce : MethodName := ⟨RX6, "inForce", "(II)Z"⟩
abbrev cX6_mayClimb : ByteArray := prog_8_method_15_code
def yX6_mayClimb : MethodName := ⟨RX6, "mayClimb", "(II)Z"⟩
abbrev cX6_onWall : ByteArray := prog_8_method_16_code
def yX6_onWall : MethodName := ⟨RX6, "onWall", "(I)I"⟩
abbrev cX6_takeOff : ByteArray := prog_8_method_17_code
def yX6_takeOff : MethodName := ⟨RX6, "takeOff", "(I)V"⟩
abbrev cX6_inCourse : ByteArray := prog_8_method_18_code
def yX6_inCourse : MethodName := ⟨RX6, "inCourse", "(I)I"⟩
abbrev cX6_ends : ByteArray := prog_8_method_19_code
def yX6_ends : MethodName := ⟨RX6, "ends", "(I)I"⟩
abbrev cX6_isAs : ByteArray := prog_8_method_20_code
def yX6_isAs : MethodName := ⟨RX6, "isAs", "(LClimbingHall;)Z"⟩
def RX7 : String := "ClimbingHallLaw$Route"
def TX7 : u_T := fun k => match k with
  | 0 => ("ClimbingHallLaw$Route", "wall", "I", true)
  | 1 => ("ClimbingHallLaw$Route", "setter", "I", true)
  | 2 => ("ClimbingHallLaw$Route", "day", "I", true)
  | 3 => ("ClimbingHallLaw$Route", "wear", "I", false)
  | 4 => ("ClimbingHallLaw$Route", "climbs", "I", false)
  | 5 => ("ClimbingHallLaw$Route", "climbers", "I", false)
  | _ => ("ClimbingHallLaw$Route", "votes", "Ljava/util/TreeMap;", true)
def tyX7 : Nat → FieldType := fun k => match k with
  | 0 => .int
  | 1 => .int
  | 2 => .int
  | 3 => .int
  | 4 => .int
  | 5 => .int
  | _ => .object "java/util/TreeMap"
theorem nmX7 : ∀ a, a < 7 → ∀ b, b < 7 → a ≠ b → (TX7 a).2.1 ≠ (TX7 b).2.1 := by decide +kernel
theorem tyX7_ok : ∀ k, k < 7 → parseFieldDescriptor (TX7 k).2.2.1 = some (tyX7 k) := by decide +kernel
abbrev cX7_init : ByteArray := prog_9_method_1_code
def yX7_init : MethodName := ⟨RX7, "<init>", "(III)V"⟩
abbrev cX7_copy : ByteArray := prog_9_method_2_code
def yX7_copy : MethodName := ⟨RX7, "copy", "()LClimbingHallLaw$Route;"⟩
def RX8 : String := "ClimbingHallModel"
def TX8 : u_T := fun k => match k with
  | _ => ("", "", "", false)
def tyX8 : Nat → FieldType := fun k => match k with
  | _ => .int
theorem nmX8 : ∀ a, a < 0 → ∀ b, b < 0 → a ≠ b → (TX8 a).2.1 ≠ (TX8 b).2.1 := by decide +kernel
theorem tyX8_ok : ∀ k, k < 0 → parseFieldDescriptor (TX8 k).2.2.1 = some (tyX8 k) := by decide +kernel
def RJx145de : String := "java/io/Serializable"
def TJx145de : u_T := fun k => match k with
  | _ => ("", "", "", false)
def tyJx145de : Nat → FieldType := fun k => match k with
  | _ => .int
theorem nmJx145de : ∀ a, a < 0 → ∀ b, b < 0 → a ≠ b → (TJx145de a).2.1 ≠ (TJx145de b).2.1 := by decide +kernel
theorem tyJx145de_ok : ∀ k, k < 0 → parseFieldDescriptor (TJx145de k).2.2.1 = some (tyJx145de k) := by decide +kernel
def RJ5 : String := "java/lang/AbstractStringBuilder"
def TJ5 : u_T := fun k => match k with
  | _ => ("", "", "", false)
def tyJ5 : Nat → FieldType := fun k => match k with
  | _ => .int
theorem nmJ5 : ∀ a, a < 0 → ∀ b, b < 0 → a ≠ b → (TJ5 a).2.1 ≠ (TJ5 b).2.1 := by decide +kernel
theorem tyJ5_ok : ∀ k, k < 0 → parseFieldDescriptor (TJ5 k).2.2.1 = some (tyJ5 k) := by decide +kernel
abbrev cJ5_init_d00df : ByteArray := prog_12_method_2_code
def yJ5_init_d00df : MethodName := ⟨RJ5, "<init>", "(I)V"⟩
abbrev cJ5_init_a7421 : ByteArray := prog_12_method_3_code
def yJ5_init_a7421 : MethodName := ⟨RJ5, "<init>", "(Ljava/lang/String;)V"⟩
abbrev cJ5_compareTo_759ea : ByteArray := prog_12_method_5_code
def yJ5_compareTo_759ea : MethodName := ⟨RJ5, "compareTo", "(Ljava/lang/AbstractStringBuilder;)I"⟩
abbrev cJ5_length_8abf5 : ByteArray := prog_12_method_6_code
def yJ5_length_8abf5 : MethodName := ⟨RJ5, "length", "()I"⟩
abbrev cJ5_ensureCapacityInternal_d00df : ByteArray := prog_12_method_9_code
def yJ5_ensureCapacityInternal_d00df : MethodName := ⟨RJ5, "ensureCapacityInternal", "(I)V"⟩
abbrev cJ5_newCapacity_0f7a4 : ByteArray := prog_12_method_10_code
def yJ5_newCapacity_0f7a4 : MethodName := ⟨RJ5, "newCapacity", "(I)I"⟩
abbrev cJ5_inflate_da8c8 : ByteArray := prog_12_method_11_code
def yJ5_inflate_da8c8 : MethodName := ⟨RJ5, "inflate", "()V"⟩
abbrev cJ5_append_cf1ce : ByteArray := prog_12_method_22_code
def yJ5_append_cf1ce : MethodName := ⟨RJ5, "append", "(Ljava/lang/String;)Ljava/lang/AbstractStringBuilder;"⟩
abbrev cJ5_appendNull_278bc : ByteArray := prog_12_method_26_code
def yJ5_appendNull_278bc : MethodName := ⟨RJ5, "appendNull", "()Ljava/lang/AbstractStringBuilder;"⟩
abbrev cJ5_append_3fe6f : ByteArray := prog_12_method_31_code
def yJ5_append_3fe6f : MethodName := ⟨RJ5, "append", "(C)Ljava/lang/AbstractStringBuilder;"⟩
abbrev cJ5_append_c97b9 : ByteArray := prog_12_method_32_code
def yJ5_append_c97b9 : MethodName := ⟨RJ5, "append", "(I)Ljava/lang/AbstractStringBuilder;"⟩
abbrev cJ5_getValue_6d5f1 : ByteArray := prog_12_method_64_code
def yJ5_getValue_6d5f1 : MethodName := ⟨RJ5, "getValue", "()[B"⟩
abbrev cJ5_isLatin1_aae02 : ByteArray := prog_12_method_68_code
def yJ5_isLatin1_aae02 : MethodName := ⟨RJ5, "isLatin1", "()Z"⟩
abbrev cJ5_inflateIfNeededFor_a7421 : ByteArray := prog_12_method_71_code
def yJ5_inflateIfNeededFor_a7421 : MethodName := ⟨RJ5, "inflateIfNeededFor", "(Ljava/lang/String;)V"⟩
abbrev cJ5_putStringAt_47b60 : ByteArray := prog_12_method_73_code
def yJ5_putStringAt_47b60 : MethodName := ⟨RJ5, "putStringAt", "(ILjava/lang/String;)V"⟩
def RJx2cfe8 : String := "java/lang/Appendable"
def TJx2cfe8 : u_T := fun k => match k with
  | _ => ("", "", "", false)
def tyJx2cfe8 : Nat → FieldType := fun k => match k with
  | _ => .int
theorem nmJx2cfe8 : ∀ a, a < 0 → ∀ b, b < 0 → a ≠ b → (TJx2cfe8 a).2.1 ≠ (TJx2cfe8 b).2.1 := by decide +kernel
theorem tyJx2cfe8_ok : ∀ k, k < 0 → parseFieldDescriptor (TJx2cfe8 k).2.2.1 = some (tyJx2cfe8 k) := by decide +kernel
def RJx00060 : String := "java/lang/ArrayIndexOutOfBoundsException"
def TJx00060 : u_T := fun k => match k with
  | 0 => ("java/lang/Throwable", "backtrace", "Ljava/lang/Object;", false)
  | 1 => ("java/lang/Throwable", "detailMessage", "Ljava/lang/String;", false)
  | 2 => ("java/lang/Throwable", "cause", "Ljava/lang/Throwable;", false)
  | 3 => ("java/lang/Throwable", "stackTrace", "[Ljava/lang/StackTraceElement;", false)
  | 4 => ("java/lang/Throwable", "depth", "I", false)
  | _ => ("java/lang/Throwable", "suppressedExceptions", "Ljava/util/List;", false)
def tyJx00060 : Nat → FieldType := fun k => match k with
  | 0 => .object "java/lang/Object"
  | 1 => .object "java/lang/String"
  | 2 => .object "java/lang/Throwable"
  | 3 => .array (.object "java/lang/StackTraceElement")
  | 4 => .int
  | _ => .object "java/util/List"
theorem nmJx00060 : ∀ a, a < 6 → ∀ b, b < 6 → a ≠ b → (TJx00060 a).2.1 ≠ (TJx00060 b).2.1 := by decide +kernel
theorem tyJx00060_ok : ∀ k, k < 6 → parseFieldDescriptor (TJx00060 k).2.2.1 = some (tyJx00060 k) := by decide +kernel
abbrev cJx00060_init_a7421 : ByteArray := prog_14_method_2_code
def yJx00060_init_a7421 : MethodName := ⟨RJx00060, "<init>", "(Ljava/lang/String;)V"⟩
def RJx9f9b0 : String := "java/lang/CharSequence"
def TJx9f9b0 : u_T := fun k => match k with
  | _ => ("", "", "", false)
def tyJx9f9b0 : Nat → FieldType := fun k => match k with
  | _ => .int
theorem nmJx9f9b0 : ∀ a, a < 0 → ∀ b, b < 0 → a ≠ b → (TJx9f9b0 a).2.1 ≠ (TJx9f9b0 b).2.1 := by decide +kernel
theorem tyJx9f9b0_ok : ∀ k, k < 0 → parseFieldDescriptor (TJx9f9b0 k).2.2.1 = some (tyJx9f9b0 k) := by decide +kernel
def RJx8e188 : String := "java/lang/Cloneable"
def TJx8e188 : u_T := fun k => match k with
  | _ => ("", "", "", false)
def tyJx8e188 : Nat → FieldType := fun k => match k with
  | _ => .int
theorem nmJx8e188 : ∀ a, a < 0 → ∀ b, b < 0 → a ≠ b → (TJx8e188 a).2.1 ≠ (TJx8e188 b).2.1 := by decide +kernel
theorem tyJx8e188_ok : ∀ k, k < 0 → parseFieldDescriptor (TJx8e188 k).2.2.1 = some (tyJx8e188 k) := by decide +kernel
def RJxb160c : String := "java/lang/Comparable"
def TJxb160c : u_T := fun k => match k with
  | _ => ("", "", "", false)
def tyJxb160c : Nat → FieldType := fun k => match k with
  | _ => .int
theorem nmJxb160c : ∀ a, a < 0 → ∀ b, b < 0 → a ≠ b → (TJxb160c a).2.1 ≠ (TJxb160c b).2.1 := by decide +kernel
theorem tyJxb160c_ok : ∀ k, k < 0 → parseFieldDescriptor (TJxb160c k).2.2.1 = some (tyJxb160c k) := by decide +kernel
def RJxabbfe : String := "java/lang/Integer$IntegerCache"
def TJxabbfe : u_T := fun k => match k with
  | _ => ("", "", "", false)
def tyJxabbfe : Nat → FieldType := fun k => match k with
  | _ => .int
theorem nmJxabbfe : ∀ a, a < 0 → ∀ b, b < 0 → a ≠ b → (TJxabbfe a).2.1 ≠ (TJxabbfe b).2.1 := by decide +kernel
theorem tyJxabbfe_ok : ∀ k, k < 0 → parseFieldDescriptor (TJxabbfe k).2.2.1 = some (tyJxabbfe k) := by decide +kernel
def RJ6 : String := "java/lang/Integer"
def TJ6 : u_T := fun k => match k with
  | _ => ("java/lang/Integer", "value", "I", true)
def tyJ6 : Nat → FieldType := fun k => match k with
  | _ => .int
theorem nmJ6 : ∀ a, a < 1 → ∀ b, b < 1 → a ≠ b → (TJ6 a).2.1 ≠ (TJ6 b).2.1 := by decide +kernel
theorem tyJ6_ok : ∀ k, k < 1 → parseFieldDescriptor (TJ6 k).2.2.1 = some (tyJ6 k) := by decide +kernel
abbrev cJ6_getChars_ba4f3 : ByteArray := prog_22_method_12_code
def yJ6_getChars_ba4f3 : MethodName := ⟨RJ6, "getChars", "(II[B)I"⟩
abbrev cJ6_stringSize_0f7a4 : ByteArray := prog_22_method_13_code
def yJ6_stringSize_0f7a4 : MethodName := ⟨RJ6, "stringSize", "(I)I"⟩
abbrev cJ6_valueOf_2dffe : ByteArray := prog_22_method_22_code
def yJ6_valueOf_2dffe : MethodName := ⟨RJ6, "valueOf", "(I)Ljava/lang/Integer;"⟩
abbrev cJ6_init_d00df : ByteArray := prog_22_method_23_code
def yJ6_init_d00df : MethodName := ⟨RJ6, "<init>", "(I)V"⟩
abbrev cJ6_intValue_8abf5 : ByteArray := prog_22_method_27_code
def yJ6_intValue_8abf5 : MethodName := ⟨RJ6, "intValue", "()I"⟩
abbrev cJ6_compareTo_e8194 : ByteArray := prog_22_method_39_code
def yJ6_compareTo_e8194 : MethodName := ⟨RJ6, "compareTo", "(Ljava/lang/Integer;)I"⟩
abbrev cJ6_compare_7cf53 : ByteArray := prog_22_method_40_code
def yJ6_compare_7cf53 : MethodName := ⟨RJ6, "compare", "(II)I"⟩
abbrev cJ6_numberOfLeadingZeros_0f7a4 : ByteArray := prog_22_method_47_code
def yJ6_numberOfLeadingZeros_0f7a4 : MethodName := ⟨RJ6, "numberOfLeadingZeros", "(I)I"⟩
abbrev cJ6_numberOfTrailingZeros_0f7a4 : ByteArray := prog_22_method_48_code
def yJ6_numberOfTrailingZeros_0f7a4 : MethodName := ⟨RJ6, "numberOfTrailingZeros", "(I)I"⟩
abbrev cJ6_bitCount_0f7a4 : ByteArray := prog_22_method_49_code
def yJ6_bitCount_0f7a4 : MethodName := ⟨RJ6, "bitCount", "(I)I"⟩
abbrev cJ6_compareTo_e47da : ByteArray := prog_22_method_63_code
def yJ6_compareTo_e47da : MethodName := ⟨RJ6, "compareTo", "(Ljava/lang/Object;)I"⟩
def RJxab1ab : String := "java/lang/Iterable"
def TJxab1ab : u_T := fun k => match k with
  | _ => ("", "", "", false)
def tyJxab1ab : Nat → FieldType := fun k => match k with
  | _ => .int
theorem nmJxab1ab : ∀ a, a < 0 → ∀ b, b < 0 → a ≠ b → (TJxab1ab a).2.1 ≠ (TJxab1ab b).2.1 := by decide +kernel
theorem tyJxab1ab_ok : ∀ k, k < 0 → parseFieldDescriptor (TJxab1ab k).2.2.1 = some (tyJxab1ab k) := by decide +kernel
def RJ13 : String := "java/lang/Long"
def TJ13 : u_T := fun k => match k with
  | _ => ("", "", "", false)
def tyJ13 : Nat → FieldType := fun k => match k with
  | _ => .int
theorem nmJ13 : ∀ a, a < 0 → ∀ b, b < 0 → a ≠ b → (TJ13 a).2.1 ≠ (TJ13 b).2.1 := by decide +kernel
theorem tyJ13_ok : ∀ k, k < 0 → parseFieldDescriptor (TJ13 k).2.2.1 = some (tyJ13 k) := by decide +kernel
abbrev cJ13_numberOfLeadingZeros_95d88 : ByteArray := prog_25_method_48_code
def yJ13_numberOfLeadingZeros_95d88 : MethodName := ⟨RJ13, "numberOfLeadingZeros", "(J)I"⟩
abbrev cJ13_numberOfTrailingZeros_95d88 : ByteArray := prog_25_method_49_code
def yJ13_numberOfTrailingZeros_95d88 : MethodName := ⟨RJ13, "numberOfTrailingZeros", "(J)I"⟩
def RJ9 : String := "java/lang/Math"
def TJ9 : u_T := fun k => match k with
  | _ => ("", "", "", false)
def tyJ9 : Nat → FieldType := fun k => match k with
  | _ => .int
theorem nmJ9 : ∀ a, a < 0 → ∀ b, b < 0 → a ≠ b → (TJ9 a).2.1 ≠ (TJ9 b).2.1 := by decide +kernel
theorem tyJ9_ok : ∀ k, k < 0 → parseFieldDescriptor (TJ9 k).2.2.1 = some (tyJ9 k) := by decide +kernel
abbrev cJ9_max_7cf53 : ByteArray := prog_26_method_65_code
def yJ9_max_7cf53 : MethodName := ⟨RJ9, "max", "(II)I"⟩
abbrev cJ9_min_7cf53 : ByteArray := prog_26_method_69_code
def yJ9_min_7cf53 : MethodName := ⟨RJ9, "min", "(II)I"⟩
def RJxd2413 : String := "java/lang/Number"
def TJxd2413 : u_T := fun k => match k with
  | _ => ("", "", "", false)
def tyJxd2413 : Nat → FieldType := fun k => match k with
  | _ => .int
theorem nmJxd2413 : ∀ a, a < 0 → ∀ b, b < 0 → a ≠ b → (TJxd2413 a).2.1 ≠ (TJxd2413 b).2.1 := by decide +kernel
theorem tyJxd2413_ok : ∀ k, k < 0 → parseFieldDescriptor (TJxd2413 k).2.2.1 = some (tyJxd2413 k) := by decide +kernel
abbrev cJxd2413_init_da8c8 : ByteArray := prog_27_method_1_code
def yJxd2413_init_da8c8 : MethodName := ⟨RJxd2413, "<init>", "()V"⟩
def RJ0 : String := "java/lang/String"
def TJ0 : u_T := fun k => match k with
  | 0 => ("java/lang/String", "value", "[B", true)
  | 1 => ("java/lang/String", "coder", "B", true)
  | 2 => ("java/lang/String", "hash", "I", false)
  | _ => ("java/lang/String", "hashIsZero", "Z", false)
def tyJ0 : Nat → FieldType := fun k => match k with
  | 0 => .array .byte
  | 1 => .byte
  | 2 => .int
  | _ => .boolean
theorem nmJ0 : ∀ a, a < 4 → ∀ b, b < 4 → a ≠ b → (TJ0 a).2.1 ≠ (TJ0 b).2.1 := by decide +kernel
theorem tyJ0_ok : ∀ k, k < 4 → parseFieldDescriptor (TJ0 k).2.2.1 = some (tyJ0 k) := by decide +kernel
abbrev cJ0_init_81219 : ByteArray := prog_29_method_53_code
def yJ0_init_81219 : MethodName := ⟨RJ0, "<init>", "(Ljava/lang/StringBuilder;)V"⟩
abbrev cJ0_length_8abf5 : ByteArray := prog_29_method_54_code
def yJ0_length_8abf5 : MethodName := ⟨RJ0, "length", "()I"⟩
abbrev cJ0_charAt_5068e : ByteArray := prog_29_method_56_code
def yJ0_charAt_5068e : MethodName := ⟨RJ0, "charAt", "(I)C"⟩
abbrev cJ0_compareTo_2f485 : ByteArray := prog_29_method_71_code
def yJ0_compareTo_2f485 : MethodName := ⟨RJ0, "compareTo", "(Ljava/lang/String;)I"⟩
abbrev cJ0_getBytes_840e7 : ByteArray := prog_29_method_147_code
def yJ0_getBytes_840e7 : MethodName := ⟨RJ0, "getBytes", "([BIB)V"⟩
abbrev cJ0_init_db425 : ByteArray := prog_29_method_150_code
def yJ0_init_db425 : MethodName := ⟨RJ0, "<init>", "(Ljava/lang/AbstractStringBuilder;Ljava/lang/Void;)V"⟩
abbrev cJ0_coder_7d493 : ByteArray := prog_29_method_152_code
def yJ0_coder_7d493 : MethodName := ⟨RJ0, "coder", "()B"⟩
abbrev cJ0_isLatin1_aae02 : ByteArray := prog_29_method_154_code
def yJ0_isLatin1_aae02 : MethodName := ⟨RJ0, "isLatin1", "()Z"⟩
abbrev cJ0_checkIndex_df160 : ByteArray := prog_29_method_155_code
def yJ0_checkIndex_df160 : MethodName := ⟨RJ0, "checkIndex", "(II)V"⟩
abbrev cJ0_checkOffset_df160 : ByteArray := prog_29_method_156_code
def yJ0_checkOffset_df160 : MethodName := ⟨RJ0, "checkOffset", "(II)V"⟩
abbrev cJ0_checkBoundsOffCount_cabcc : ByteArray := prog_29_method_157_code
def yJ0_checkBoundsOffCount_cabcc : MethodName := ⟨RJ0, "checkBoundsOffCount", "(III)I"⟩
abbrev cJ0_checkBoundsBeginEnd_23922 : ByteArray := prog_29_method_158_code
def yJ0_checkBoundsBeginEnd_23922 : MethodName := ⟨RJ0, "checkBoundsBeginEnd", "(III)V"⟩
abbrev cJ0_compareTo_e47da : ByteArray := prog_29_method_162_code
def yJ0_compareTo_e47da : MethodName := ⟨RJ0, "compareTo", "(Ljava/lang/Object;)I"⟩
def RJ4 : String := "java/lang/StringBuilder"
def TJ4 : u_T := fun k => match k with
  | 0 => ("java/lang/AbstractStringBuilder", "value", "[B", false)
  | 1 => ("java/lang/AbstractStringBuilder", "coder", "B", false)
  | 2 => ("java/lang/AbstractStringBuilder", "maybeLatin1", "Z", false)
  | _ => ("java/lang/AbstractStringBuilder", "count", "I", false)
def tyJ4 : Nat → FieldType := fun k => match k with
  | 0 => .array .byte
  | 1 => .byte
  | 2 => .boolean
  | _ => .int
theorem nmJ4 : ∀ a, a < 4 → ∀ b, b < 4 → a ≠ b → (TJ4 a).2.1 ≠ (TJ4 b).2.1 := by decide +kernel
theorem tyJ4_ok : ∀ k, k < 4 → parseFieldDescriptor (TJ4 k).2.2.1 = some (tyJ4 k) := by decide +kernel
abbrev cJ4_init_da8c8 : ByteArray := prog_30_method_1_code
def yJ4_init_da8c8 : MethodName := ⟨RJ4, "<init>", "()V"⟩
abbrev cJ4_init_a7421 : ByteArray := prog_30_method_3_code
def yJ4_init_a7421 : MethodName := ⟨RJ4, "<init>", "(Ljava/lang/String;)V"⟩
abbrev cJ4_compareTo_93759 : ByteArray := prog_30_method_5_code
def yJ4_compareTo_93759 : MethodName := ⟨RJ4, "compareTo", "(Ljava/lang/StringBuilder;)I"⟩
abbrev cJ4_append_15ec4 : ByteArray := prog_30_method_7_code
def yJ4_append_15ec4 : MethodName := ⟨RJ4, "append", "(Ljava/lang/String;)Ljava/lang/StringBuilder;"⟩
abbrev cJ4_append_cf468 : ByteArray := prog_30_method_14_code
def yJ4_append_cf468 : MethodName := ⟨RJ4, "append", "(C)Ljava/lang/StringBuilder;"⟩
abbrev cJ4_append_bf812 : ByteArray := prog_30_method_15_code
def yJ4_append_bf812 : MethodName := ⟨RJ4, "append", "(I)Ljava/lang/StringBuilder;"⟩
abbrev cJ4_toString_0e30d : ByteArray := prog_30_method_42_code
def yJ4_toString_0e30d : MethodName := ⟨RJ4, "toString", "()Ljava/lang/String;"⟩
abbrev cJ4_append_cf1ce : ByteArray := prog_30_method_80_code
def yJ4_append_cf1ce : MethodName := ⟨RJ4, "append", "(Ljava/lang/String;)Ljava/lang/AbstractStringBuilder;"⟩
abbrev cJ4_length_8abf5 : ByteArray := prog_30_method_93_code
def yJ4_length_8abf5 : MethodName := ⟨RJ4, "length", "()I"⟩
abbrev cJ4_compareTo_e47da : ByteArray := prog_30_method_97_code
def yJ4_compareTo_e47da : MethodName := ⟨RJ4, "compareTo", "(Ljava/lang/Object;)I"⟩
def RJ1 : String := "java/lang/StringLatin1"
def TJ1 : u_T := fun k => match k with
  | _ => ("", "", "", false)
def tyJ1 : Nat → FieldType := fun k => match k with
  | _ => .int
theorem nmJ1 : ∀ a, a < 0 → ∀ b, b < 0 → a ≠ b → (TJ1 a).2.1 ≠ (TJ1 b).2.1 := by decide +kernel
theorem tyJ1_ok : ∀ k, k < 0 → parseFieldDescriptor (TJ1 k).2.2.1 = some (tyJ1 k) := by decide +kernel
abbrev cJ1_charAt_3b067 : ByteArray := prog_31_method_2_code
def yJ1_charAt_3b067 : MethodName := ⟨RJ1, "charAt", "([BI)C"⟩
abbrev cJ1_canEncode_fc78d : ByteArray := prog_31_method_3_code
def yJ1_canEncode_fc78d : MethodName := ⟨RJ1, "canEncode", "(C)Z"⟩
abbrev cJ1_length_9d52b : ByteArray := prog_31_method_5_code
def yJ1_length_9d52b : MethodName := ⟨RJ1, "length", "([B)I"⟩
abbrev cJ1_compareTo_b82b6 : ByteArray := prog_31_method_14_code
def yJ1_compareTo_b82b6 : MethodName := ⟨RJ1, "compareTo", "([B[B)I"⟩
abbrev cJ1_compareTo_66405 : ByteArray := prog_31_method_15_code
def yJ1_compareTo_66405 : MethodName := ⟨RJ1, "compareTo", "([B[BII)I"⟩
abbrev cJ1_compareToUTF16_b82b6 : ByteArray := prog_31_method_16_code
def yJ1_compareToUTF16_b82b6 : MethodName := ⟨RJ1, "compareToUTF16", "([B[B)I"⟩
abbrev cJ1_compareToUTF16_66405 : ByteArray := prog_31_method_17_code
def yJ1_compareToUTF16_66405 : MethodName := ⟨RJ1, "compareToUTF16", "([B[BII)I"⟩
abbrev cJ1_compareToUTF16Values_66405 : ByteArray := prog_31_method_18_code
def yJ1_compareToUTF16Values_66405 : MethodName := ⟨RJ1, "compareToUTF16Values", "([B[BII)I"⟩
abbrev cJ1_getChar_3b067 : ByteArray := prog_31_method_44_code
def yJ1_getChar_3b067 : MethodName := ⟨RJ1, "getChar", "([BI)C"⟩
abbrev cJ1_inflate_0e8fd : ByteArray := prog_31_method_50_code
def yJ1_inflate_0e8fd : MethodName := ⟨RJ1, "inflate", "([BI[BII)V"⟩
def RJ2 : String := "java/lang/StringUTF16"
def TJ2 : u_T := fun k => match k with
  | _ => ("", "", "", false)
def tyJ2 : Nat → FieldType := fun k => match k with
  | _ => .int
theorem nmJ2 : ∀ a, a < 0 → ∀ b, b < 0 → a ≠ b → (TJ2 a).2.1 ≠ (TJ2 b).2.1 := by decide +kernel
theorem tyJ2_ok : ∀ k, k < 0 → parseFieldDescriptor (TJ2 k).2.2.1 = some (tyJ2 k) := by decide +kernel
abbrev cJ2_newBytesFor_77867 : ByteArray := prog_32_method_2_code
def yJ2_newBytesFor_77867 : MethodName := ⟨RJ2, "newBytesFor", "(I)[B"⟩
abbrev cJ2_newBytesLength_0f7a4 : ByteArray := prog_32_method_3_code
def yJ2_newBytesLength_0f7a4 : MethodName := ⟨RJ2, "newBytesLength", "(I)I"⟩
abbrev cJ2_putChar_b72d1 : ByteArray := prog_32_method_4_code
def yJ2_putChar_b72d1 : MethodName := ⟨RJ2, "putChar", "([BII)V"⟩
abbrev cJ2_getChar_3b067 : ByteArray := prog_32_method_5_code
def yJ2_getChar_3b067 : MethodName := ⟨RJ2, "getChar", "([BI)C"⟩
abbrev cJ2_length_9d52b : ByteArray := prog_32_method_6_code
def yJ2_length_9d52b : MethodName := ⟨RJ2, "length", "([B)I"⟩
abbrev cJ2_coderFromArrayLen_85cad : ByteArray := prog_32_method_15_code
def yJ2_coderFromArrayLen_85cad : MethodName := ⟨RJ2, "coderFromArrayLen", "([BI)B"⟩
abbrev cJ2_compress_39247 : ByteArray := prog_32_method_17_code
def yJ2_compress_39247 : MethodName := ⟨RJ2, "compress", "([BII)[B"⟩
abbrev cJ2_compress_5af95 : ByteArray := prog_32_method_22_code
def yJ2_compress_5af95 : MethodName := ⟨RJ2, "compress", "([BI[BII)I"⟩
abbrev cJ2_compareTo_b82b6 : ByteArray := prog_32_method_29_code
def yJ2_compareTo_b82b6 : MethodName := ⟨RJ2, "compareTo", "([B[B)I"⟩
abbrev cJ2_compareTo_66405 : ByteArray := prog_32_method_30_code
def yJ2_compareTo_66405 : MethodName := ⟨RJ2, "compareTo", "([B[BII)I"⟩
abbrev cJ2_compareValues_66405 : ByteArray := prog_32_method_31_code
def yJ2_compareValues_66405 : MethodName := ⟨RJ2, "compareValues", "([B[BII)I"⟩
abbrev cJ2_compareToLatin1_b82b6 : ByteArray := prog_32_method_32_code
def yJ2_compareToLatin1_b82b6 : MethodName := ⟨RJ2, "compareToLatin1", "([B[B)I"⟩
abbrev cJ2_compareToLatin1_66405 : ByteArray := prog_32_method_33_code
def yJ2_compareToLatin1_66405 : MethodName := ⟨RJ2, "compareToLatin1", "([B[BII)I"⟩
abbrev cJ2_putCharSB_b72d1 : ByteArray := prog_32_method_71_code
def yJ2_putCharSB_b72d1 : MethodName := ⟨RJ2, "putCharSB", "([BII)V"⟩
abbrev cJ2_getChars_46870 : ByteArray := prog_32_method_77_code
def yJ2_getChars_46870 : MethodName := ⟨RJ2, "getChars", "(III[B)I"⟩
abbrev cJ2_putCharsAt_cd4e5 : ByteArray := prog_32_method_81_code
def yJ2_putCharsAt_cd4e5 : MethodName := ⟨RJ2, "putCharsAt", "([BICCCC)I"⟩
abbrev cJ2_charAt_3b067 : ByteArray := prog_32_method_83_code
def yJ2_charAt_3b067 : MethodName := ⟨RJ2, "charAt", "([BI)C"⟩
abbrev cJ2_inflate_0e8fd : ByteArray := prog_32_method_86_code
def yJ2_inflate_0e8fd : MethodName := ⟨RJ2, "inflate", "([BI[BII)V"⟩
abbrev cJ2_getChars_ba4f3 : ByteArray := prog_32_method_89_code
def yJ2_getChars_ba4f3 : MethodName := ⟨RJ2, "getChars", "(II[B)I"⟩
abbrev cJ2_checkIndex_2214a : ByteArray := prog_32_method_91_code
def yJ2_checkIndex_2214a : MethodName := ⟨RJ2, "checkIndex", "(I[B)V"⟩
abbrev cJ2_checkOffset_2214a : ByteArray := prog_32_method_92_code
def yJ2_checkOffset_2214a : MethodName := ⟨RJ2, "checkOffset", "(I[B)V"⟩
abbrev cJ2_checkBoundsBeginEnd_d044e : ByteArray := prog_32_method_93_code
def yJ2_checkBoundsBeginEnd_d044e : MethodName := ⟨RJ2, "checkBoundsBeginEnd", "(II[B)V"⟩
abbrev cJ2_checkBoundsOffCount_d044e : ByteArray := prog_32_method_94_code
def yJ2_checkBoundsOffCount_d044e : MethodName := ⟨RJ2, "checkBoundsOffCount", "(II[B)V"⟩
def RJ10 : String := "java/lang/System"
def TJ10 : u_T := fun k => match k with
  | _ => ("", "", "", false)
def tyJ10 : Nat → FieldType := fun k => match k with
  | _ => .int
theorem nmJ10 : ∀ a, a < 0 → ∀ b, b < 0 → a ≠ b → (TJ10 a).2.1 ≠ (TJ10 b).2.1 := by decide +kernel
theorem tyJ10_ok : ∀ k, k < 0 → parseFieldDescriptor (TJ10 k).2.2.1 = some (tyJ10 k) := by decide +kernel
def RJxfd54e : String := "java/lang/constant/Constable"
def TJxfd54e : u_T := fun k => match k with
  | _ => ("", "", "", false)
def tyJxfd54e : Nat → FieldType := fun k => match k with
  | _ => .int
theorem nmJxfd54e : ∀ a, a < 0 → ∀ b, b < 0 → a ≠ b → (TJxfd54e a).2.1 ≠ (TJxfd54e b).2.1 := by decide +kernel
theorem tyJxfd54e_ok : ∀ k, k < 0 → parseFieldDescriptor (TJxfd54e k).2.2.1 = some (tyJxfd54e k) := by decide +kernel
def RJx3cf43 : String := "java/lang/constant/ConstantDesc"
def TJx3cf43 : u_T := fun k => match k with
  | _ => ("", "", "", false)
def tyJx3cf43 : Nat → FieldType := fun k => match k with
  | _ => .int
theorem nmJx3cf43 : ∀ a, a < 0 → ∀ b, b < 0 → a ≠ b → (TJx3cf43 a).2.1 ≠ (TJx3cf43 b).2.1 := by decide +kernel
theorem tyJx3cf43_ok : ∀ k, k < 0 → parseFieldDescriptor (TJx3cf43 k).2.2.1 = some (tyJx3cf43 k) := by decide +kernel
def RJxa1e45 : String := "java/util/AbstractCollection"
def TJxa1e45 : u_T := fun k => match k with
  | _ => ("", "", "", false)
def tyJxa1e45 : Nat → FieldType := fun k => match k with
  | _ => .int
theorem nmJxa1e45 : ∀ a, a < 0 → ∀ b, b < 0 → a ≠ b → (TJxa1e45 a).2.1 ≠ (TJxa1e45 b).2.1 := by decide +kernel
theorem tyJxa1e45_ok : ∀ k, k < 0 → parseFieldDescriptor (TJxa1e45 k).2.2.1 = some (tyJxa1e45 k) := by decide +kernel
abbrev cJxa1e45_init_da8c8 : ByteArray := prog_37_method_1_code
def yJxa1e45_init_da8c8 : MethodName := ⟨RJxa1e45, "<init>", "()V"⟩
def RJxc12de : String := "java/util/AbstractList"
def TJxc12de : u_T := fun k => match k with
  | _ => ("", "", "", false)
def tyJxc12de : Nat → FieldType := fun k => match k with
  | _ => .int
theorem nmJxc12de : ∀ a, a < 0 → ∀ b, b < 0 → a ≠ b → (TJxc12de a).2.1 ≠ (TJxc12de b).2.1 := by decide +kernel
theorem tyJxc12de_ok : ∀ k, k < 0 → parseFieldDescriptor (TJxc12de k).2.2.1 = some (tyJxc12de k) := by decide +kernel
abbrev cJxc12de_init_da8c8 : ByteArray := prog_38_method_1_code
def yJxc12de_init_da8c8 : MethodName := ⟨RJxc12de, "<init>", "()V"⟩
def RX9 : String := "java/util/AbstractMap"
def TX9 : u_T := fun k => match k with
  | _ => ("", "", "", false)
def tyX9 : Nat → FieldType := fun k => match k with
  | _ => .int
theorem nmX9 : ∀ a, a < 0 → ∀ b, b < 0 → a ≠ b → (TX9 a).2.1 ≠ (TX9 b).2.1 := by decide +kernel
theorem tyX9_ok : ∀ k, k < 0 → parseFieldDescriptor (TX9 k).2.2.1 = some (tyX9 k) := by decide +kernel
abbrev cX9_init : ByteArray := prog_39_method_1_code
def yX9_init : MethodName := ⟨RX9, "<init>", "()V"⟩
def RX10 : String := "java/util/AbstractSet"
def TX10 : u_T := fun k => match k with
  | _ => ("", "", "", false)
def tyX10 : Nat → FieldType := fun k => match k with
  | _ => .int
theorem nmX10 : ∀ a, a < 0 → ∀ b, b < 0 → a ≠ b → (TX10 a).2.1 ≠ (TX10 b).2.1 := by decide +kernel
theorem tyX10_ok : ∀ k, k < 0 → parseFieldDescriptor (TX10 k).2.2.1 = some (tyX10 k) := by decide +kernel
abbrev cX10_init : ByteArray := prog_40_method_1_code
def yX10_init : MethodName := ⟨RX10, "<init>", "()V"⟩
def RJx35411 : String := "java/util/ArrayList$Itr"
def TJx35411 : u_T := fun k => match k with
  | 0 => ("java/util/ArrayList$Itr", "cursor", "I", false)
  | 1 => ("java/util/ArrayList$Itr", "lastRet", "I", false)
  | 2 => ("java/util/ArrayList$Itr", "expectedModCount", "I", false)
  | _ => ("java/util/ArrayList$Itr", "this$0", "Ljava/util/ArrayList;", true)
def tyJx35411 : Nat → FieldType := fun k => match k with
  | 0 => .int
  | 1 => .int
  | 2 => .int
  | _ => .object "java/util/ArrayList"
theorem nmJx35411 : ∀ a, a < 4 → ∀ b, b < 4 → a ≠ b → (TJx35411 a).2.1 ≠ (TJx35411 b).2.1 := by decide +kernel
theorem tyJx35411_ok : ∀ k, k < 4 → parseFieldDescriptor (TJx35411 k).2.2.1 = some (tyJx35411 k) := by decide +kernel
abbrev cJx35411_init_45d68 : ByteArray := prog_42_method_1_code
def yJx35411_init_45d68 : MethodName := ⟨RJx35411, "<init>", "(Ljava/util/ArrayList;)V"⟩
abbrev cJx35411_hasNext_aae02 : ByteArray := prog_42_method_2_code
def yJx35411_hasNext_aae02 : MethodName := ⟨RJx35411, "hasNext", "()Z"⟩
abbrev cJx35411_next_0502b : ByteArray := prog_42_method_3_code
def yJx35411_next_0502b : MethodName := ⟨RJx35411, "next", "()Ljava/lang/Object;"⟩
abbrev cJx35411_checkForComodification_da8c8 : ByteArray := prog_42_method_6_code
def yJx35411_checkForComodification_da8c8 : MethodName := ⟨RJx35411, "checkForComodification", "()V"⟩
def RJx4a65c : String := "java/util/ArrayList"
def TJx4a65c : u_T := fun k => match k with
  | 0 => ("java/util/AbstractList", "modCount", "I", false)
  | 1 => ("java/util/ArrayList", "elementData", "[Ljava/lang/Object;", false)
  | _ => ("java/util/ArrayList", "size", "I", false)
def tyJx4a65c : Nat → FieldType := fun k => match k with
  | 0 => .int
  | 1 => .array (.object "java/lang/Object")
  | _ => .int
theorem nmJx4a65c : ∀ a, a < 3 → ∀ b, b < 3 → a ≠ b → (TJx4a65c a).2.1 ≠ (TJx4a65c b).2.1 := by decide +kernel
theorem tyJx4a65c_ok : ∀ k, k < 3 → parseFieldDescriptor (TJx4a65c k).2.2.1 = some (tyJx4a65c k) := by decide +kernel
abbrev cJx4a65c_init_da8c8 : ByteArray := prog_41_method_2_code
def yJx4a65c_init_da8c8 : MethodName := ⟨RJx4a65c, "<init>", "()V"⟩
abbrev cJx4a65c_grow_92f84 : ByteArray := prog_41_method_6_code
def yJx4a65c_grow_92f84 : MethodName := ⟨RJx4a65c, "grow", "(I)[Ljava/lang/Object;"⟩
abbrev cJx4a65c_grow_d5877 : ByteArray := prog_41_method_7_code
def yJx4a65c_grow_d5877 : MethodName := ⟨RJx4a65c, "grow", "()[Ljava/lang/Object;"⟩
abbrev cJx4a65c_size_8abf5 : ByteArray := prog_41_method_8_code
def yJx4a65c_size_8abf5 : MethodName := ⟨RJx4a65c, "size", "()I"⟩
abbrev cJx4a65c_isEmpty_aae02 : ByteArray := prog_41_method_9_code
def yJx4a65c_isEmpty_aae02 : MethodName := ⟨RJx4a65c, "isEmpty", "()Z"⟩
abbrev cJx4a65c_elementData_915e3 : ByteArray := prog_41_method_18_code
def yJx4a65c_elementData_915e3 : MethodName := ⟨RJx4a65c, "elementData", "(I)Ljava/lang/Object;"⟩
abbrev cJx4a65c_get_915e3 : ByteArray := prog_41_method_20_code
def yJx4a65c_get_915e3 : MethodName := ⟨RJx4a65c, "get", "(I)Ljava/lang/Object;"⟩
abbrev cJx4a65c_add_72be8 : ByteArray := prog_41_method_24_code
def yJx4a65c_add_72be8 : MethodName := ⟨RJx4a65c, "add", "(Ljava/lang/Object;[Ljava/lang/Object;I)V"⟩
abbrev cJx4a65c_add_9ea2d : ByteArray := prog_41_method_25_code
def yJx4a65c_add_9ea2d : MethodName := ⟨RJx4a65c, "add", "(Ljava/lang/Object;)Z"⟩
abbrev cJx4a65c_remove_915e3 : ByteArray := prog_41_method_29_code
def yJx4a65c_remove_915e3 : MethodName := ⟨RJx4a65c, "remove", "(I)Ljava/lang/Object;"⟩
abbrev cJx4a65c_fastRemove_b59b0 : ByteArray := prog_41_method_39_code
def yJx4a65c_fastRemove_b59b0 : MethodName := ⟨RJx4a65c, "fastRemove", "([Ljava/lang/Object;I)V"⟩
abbrev cJx4a65c_clear_da8c8 : ByteArray := prog_41_method_40_code
def yJx4a65c_clear_da8c8 : MethodName := ⟨RJx4a65c, "clear", "()V"⟩
abbrev cJx4a65c_iterator_32c93 : ByteArray := prog_41_method_55_code
def yJx4a65c_iterator_32c93 : MethodName := ⟨RJx4a65c, "iterator", "()Ljava/util/Iterator;"⟩
def RJ7 : String := "java/util/Arrays"
def TJ7 : u_T := fun k => match k with
  | _ => ("", "", "", false)
def tyJ7 : Nat → FieldType := fun k => match k with
  | _ => .int
theorem nmJ7 : ∀ a, a < 0 → ∀ b, b < 0 → a ≠ b → (TJ7 a).2.1 ≠ (TJ7 b).2.1 := by decide +kernel
theorem tyJ7_ok : ∀ k, k < 0 → parseFieldDescriptor (TJ7 k).2.2.1 = some (tyJ7 k) := by decide +kernel
abbrev cJ7_sort_2022b : ByteArray := prog_43_method_2_code
def yJ7_sort_2022b : MethodName := ⟨RJ7, "sort", "([I)V"⟩
abbrev cJ7_copyOf_1904c : ByteArray := prog_43_method_119_code
def yJ7_copyOf_1904c : MethodName := ⟨RJ7, "copyOf", "([Ljava/lang/Object;I)[Ljava/lang/Object;"⟩
abbrev cJ7_copyOf_6403c : ByteArray := prog_43_method_120_code
def yJ7_copyOf_6403c : MethodName := ⟨RJ7, "copyOf", "([Ljava/lang/Object;ILjava/lang/Class;)[Ljava/lang/Object;"⟩
abbrev cJ7_copyOf_9075b : ByteArray := prog_43_method_121_code
def yJ7_copyOf_9075b : MethodName := ⟨RJ7, "copyOf", "([BI)[B"⟩
abbrev cJ7_copyOf_59c91 : ByteArray := prog_43_method_123_code
def yJ7_copyOf_59c91 : MethodName := ⟨RJ7, "copyOf", "([II)[I"⟩
abbrev cJ7_checkLength_df160 : ByteArray := prog_43_method_131_code
def yJ7_checkLength_df160 : MethodName := ⟨RJ7, "checkLength", "(II)V"⟩
abbrev cJ7_copyOfRange_39247 : ByteArray := prog_43_method_132_code
def yJ7_copyOfRange_39247 : MethodName := ⟨RJ7, "copyOfRange", "([BII)[B"⟩
abbrev cJ7_copyOfRangeByte_39247 : ByteArray := prog_43_method_133_code
def yJ7_copyOfRangeByte_39247 : MethodName := ⟨RJ7, "copyOfRangeByte", "([BII)[B"⟩
def RJx5ef63 : String := "java/util/Collection"
def TJx5ef63 : u_T := fun k => match k with
  | _ => ("", "", "", false)
def tyJx5ef63 : Nat → FieldType := fun k => match k with
  | _ => .int
theorem nmJx5ef63 : ∀ a, a < 0 → ∀ b, b < 0 → a ≠ b → (TJx5ef63 a).2.1 ≠ (TJx5ef63 b).2.1 := by decide +kernel
theorem tyJx5ef63_ok : ∀ k, k < 0 → parseFieldDescriptor (TJx5ef63 k).2.2.1 = some (tyJx5ef63 k) := by decide +kernel
def RJxa8996 : String := "java/util/Comparator"
def TJxa8996 : u_T := fun k => match k with
  | _ => ("", "", "", false)
def tyJxa8996 : Nat → FieldType := fun k => match k with
  | _ => .int
theorem nmJxa8996 : ∀ a, a < 0 → ∀ b, b < 0 → a ≠ b → (TJxa8996 a).2.1 ≠ (TJxa8996 b).2.1 := by decide +kernel
theorem tyJxa8996_ok : ∀ k, k < 0 → parseFieldDescriptor (TJxa8996 k).2.2.1 = some (tyJxa8996 k) := by decide +kernel
def RX11 : String := "java/util/DualPivotQuicksort"
def TX11 : u_T := fun k => match k with
  | _ => ("", "", "", false)
def tyX11 : Nat → FieldType := fun k => match k with
  | _ => .int
theorem nmX11 : ∀ a, a < 0 → ∀ b, b < 0 → a ≠ b → (TX11 a).2.1 ≠ (TX11 b).2.1 := by decide +kernel
theorem tyX11_ok : ∀ k, k < 0 → parseFieldDescriptor (TX11 k).2.2.1 = some (tyX11 k) := by decide +kernel
abbrev cX11_sort : ByteArray := prog_46_method_3_code
def yX11_sort : MethodName := ⟨RX11, "sort", "([IIII)V"⟩
abbrev cX11_sort_ : ByteArray := prog_46_method_4_code
def yX11_sort_ : MethodName := ⟨RX11, "sort", "(Ljava/util/DualPivotQuicksort$Sorter;[IIII)V"⟩
abbrev cX11_mixedInsertionSort : ByteArray := prog_46_method_5_code
def yX11_mixedInsertionSort : MethodName := ⟨RX11, "mixedInsertionSort", "([IIII)V"⟩
abbrev cX11_insertionSort : ByteArray := prog_46_method_6_code
def yX11_insertionSort : MethodName := ⟨RX11, "insertionSort", "([III)V"⟩
abbrev cX11_heapSort : ByteArray := prog_46_method_7_code
def yX11_heapSort : MethodName := ⟨RX11, "heapSort", "([III)V"⟩
abbrev cX11_pushDown : ByteArray := prog_46_method_8_code
def yX11_pushDown : MethodName := ⟨RX11, "pushDown", "([IIIII)V"⟩
abbrev cX11_tryMergeRuns : ByteArray := prog_46_method_9_code
def yX11_tryMergeRuns : MethodName := ⟨RX11, "tryMergeRuns", "(Ljava/util/DualPivotQuicksort$Sorter;[III)Z"⟩
abbrev cX11_mergeRuns : ByteArray := prog_46_method_10_code
def yX11_mergeRuns : MethodName := ⟨RX11, "mergeRuns", "([I[IIIZ[III)[I"⟩
abbrev cX11_mergeParts : ByteArray := prog_46_method_11_code
def yX11_mergeParts : MethodName := ⟨RX11, "mergeParts", "(Ljava/util/DualPivotQuicksort$Merger;[II[III[III)V"⟩
def RJx4d0d8 : String := "java/util/Iterator"
def TJx4d0d8 : u_T := fun k => match k with
  | _ => ("", "", "", false)
def tyJx4d0d8 : Nat → FieldType := fun k => match k with
  | _ => .int
theorem nmJx4d0d8 : ∀ a, a < 0 → ∀ b, b < 0 → a ≠ b → (TJx4d0d8 a).2.1 ≠ (TJx4d0d8 b).2.1 := by decide +kernel
theorem tyJx4d0d8_ok : ∀ k, k < 0 → parseFieldDescriptor (TJx4d0d8 k).2.2.1 = some (tyJx4d0d8 k) := by decide +kernel
def RJxbd725 : String := "java/util/List"
def TJxbd725 : u_T := fun k => match k with
  | _ => ("", "", "", false)
def tyJxbd725 : Nat → FieldType := fun k => match k with
  | _ => .int
theorem nmJxbd725 : ∀ a, a < 0 → ∀ b, b < 0 → a ≠ b → (TJxbd725 a).2.1 ≠ (TJxbd725 b).2.1 := by decide +kernel
theorem tyJxbd725_ok : ∀ k, k < 0 → parseFieldDescriptor (TJxbd725 k).2.2.1 = some (tyJxbd725 k) := by decide +kernel
def RJxf0cc3 : String := "java/util/Map$Entry"
def TJxf0cc3 : u_T := fun k => match k with
  | _ => ("", "", "", false)
def tyJxf0cc3 : Nat → FieldType := fun k => match k with
  | _ => .int
theorem nmJxf0cc3 : ∀ a, a < 0 → ∀ b, b < 0 → a ≠ b → (TJxf0cc3 a).2.1 ≠ (TJxf0cc3 b).2.1 := by decide +kernel
theorem tyJxf0cc3_ok : ∀ k, k < 0 → parseFieldDescriptor (TJxf0cc3 k).2.2.1 = some (tyJxf0cc3 k) := by decide +kernel
def RJxdf0bc : String := "java/util/Map"
def TJxdf0bc : u_T := fun k => match k with
  | _ => ("", "", "", false)
def tyJxdf0bc : Nat → FieldType := fun k => match k with
  | _ => .int
theorem nmJxdf0bc : ∀ a, a < 0 → ∀ b, b < 0 → a ≠ b → (TJxdf0bc a).2.1 ≠ (TJxdf0bc b).2.1 := by decide +kernel
theorem tyJxdf0bc_ok : ∀ k, k < 0 → parseFieldDescriptor (TJxdf0bc k).2.2.1 = some (tyJxdf0bc k) := by decide +kernel
def RJxf6e05 : String := "java/util/NavigableMap"
def TJxf6e05 : u_T := fun k => match k with
  | _ => ("", "", "", false)
def tyJxf6e05 : Nat → FieldType := fun k => match k with
  | _ => .int
theorem nmJxf6e05 : ∀ a, a < 0 → ∀ b, b < 0 → a ≠ b → (TJxf6e05 a).2.1 ≠ (TJxf6e05 b).2.1 := by decide +kernel
theorem tyJxf6e05_ok : ∀ k, k < 0 → parseFieldDescriptor (TJxf6e05 k).2.2.1 = some (tyJxf6e05 k) := by decide +kernel
def RJ15 : String := "java/util/Objects"
def TJ15 : u_T := fun k => match k with
  | _ => ("", "", "", false)
def tyJ15 : Nat → FieldType := fun k => match k with
  | _ => .int
theorem nmJ15 : ∀ a, a < 0 → ∀ b, b < 0 → a ≠ b → (TJ15 a).2.1 ≠ (TJ15 b).2.1 := by decide +kernel
theorem tyJ15_ok : ∀ k, k < 0 → parseFieldDescriptor (TJ15 k).2.2.1 = some (tyJ15 k) := by decide +kernel
abbrev cJ15_requireNonNull_262c5 : ByteArray := prog_52_method_10_code
def yJ15_requireNonNull_262c5 : MethodName := ⟨RJ15, "requireNonNull", "(Ljava/lang/Object;)Ljava/lang/Object;"⟩
abbrev cJ15_checkIndex_7cf53 : ByteArray := prog_52_method_17_code
def yJ15_checkIndex_7cf53 : MethodName := ⟨RJ15, "checkIndex", "(II)I"⟩
def RJxf0a74 : String := "java/util/RandomAccess"
def TJxf0a74 : u_T := fun k => match k with
  | _ => ("", "", "", false)
def tyJxf0a74 : Nat → FieldType := fun k => match k with
  | _ => .int
theorem nmJxf0a74 : ∀ a, a < 0 → ∀ b, b < 0 → a ≠ b → (TJxf0a74 a).2.1 ≠ (TJxf0a74 b).2.1 := by decide +kernel
theorem tyJxf0a74_ok : ∀ k, k < 0 → parseFieldDescriptor (TJxf0a74 k).2.2.1 = some (tyJxf0a74 k) := by decide +kernel
def RJxa66e6 : String := "java/util/SequencedCollection"
def TJxa66e6 : u_T := fun k => match k with
  | _ => ("", "", "", false)
def tyJxa66e6 : Nat → FieldType := fun k => match k with
  | _ => .int
theorem nmJxa66e6 : ∀ a, a < 0 → ∀ b, b < 0 → a ≠ b → (TJxa66e6 a).2.1 ≠ (TJxa66e6 b).2.1 := by decide +kernel
theorem tyJxa66e6_ok : ∀ k, k < 0 → parseFieldDescriptor (TJxa66e6 k).2.2.1 = some (tyJxa66e6 k) := by decide +kernel
def RJxe8c38 : String := "java/util/SequencedMap"
def TJxe8c38 : u_T := fun k => match k with
  | _ => ("", "", "", false)
def tyJxe8c38 : Nat → FieldType := fun k => match k with
  | _ => .int
theorem nmJxe8c38 : ∀ a, a < 0 → ∀ b, b < 0 → a ≠ b → (TJxe8c38 a).2.1 ≠ (TJxe8c38 b).2.1 := by decide +kernel
theorem tyJxe8c38_ok : ∀ k, k < 0 → parseFieldDescriptor (TJxe8c38 k).2.2.1 = some (tyJxe8c38 k) := by decide +kernel
def RJx55279 : String := "java/util/Set"
def TJx55279 : u_T := fun k => match k with
  | _ => ("", "", "", false)
def tyJx55279 : Nat → FieldType := fun k => match k with
  | _ => .int
theorem nmJx55279 : ∀ a, a < 0 → ∀ b, b < 0 → a ≠ b → (TJx55279 a).2.1 ≠ (TJx55279 b).2.1 := by decide +kernel
theorem tyJx55279_ok : ∀ k, k < 0 → parseFieldDescriptor (TJx55279 k).2.2.1 = some (tyJx55279 k) := by decide +kernel
def RJx03f2f : String := "java/util/SortedMap"
def TJx03f2f : u_T := fun k => match k with
  | _ => ("", "", "", false)
def tyJx03f2f : Nat → FieldType := fun k => match k with
  | _ => .int
theorem nmJx03f2f : ∀ a, a < 0 → ∀ b, b < 0 → a ≠ b → (TJx03f2f a).2.1 ≠ (TJx03f2f b).2.1 := by decide +kernel
theorem tyJx03f2f_ok : ∀ k, k < 0 → parseFieldDescriptor (TJx03f2f k).2.2.1 = some (tyJx03f2f k) := by decide +kernel
def RX12 : String := "java/util/TreeMap$Entry"
def TX12 : u_T := fun k => match k with
  | 0 => ("java/util/TreeMap$Entry", "key", "Ljava/lang/Object;", false)
  | 1 => ("java/util/TreeMap$Entry", "value", "Ljava/lang/Object;", false)
  | 2 => ("java/util/TreeMap$Entry", "left", "Ljava/util/TreeMap$Entry;", false)
  | 3 => ("java/util/TreeMap$Entry", "right", "Ljava/util/TreeMap$Entry;", false)
  | 4 => ("java/util/TreeMap$Entry", "parent", "Ljava/util/TreeMap$Entry;", false)
  | _ => ("java/util/TreeMap$Entry", "color", "Z", false)
def tyX12 : Nat → FieldType := fun k => match k with
  | 0 => .object "java/lang/Object"
  | 1 => .object "java/lang/Object"
  | 2 => .object "java/util/TreeMap$Entry"
  | 3 => .object "java/util/TreeMap$Entry"
  | 4 => .object "java/util/TreeMap$Entry"
  | _ => .boolean
theorem nmX12 : ∀ a, a < 6 → ∀ b, b < 6 → a ≠ b → (TX12 a).2.1 ≠ (TX12 b).2.1 := by decide +kernel
theorem tyX12_ok : ∀ k, k < 6 → parseFieldDescriptor (TX12 k).2.2.1 = some (tyX12 k) := by decide +kernel
abbrev cX12_init : ByteArray := prog_59_method_1_code
def yX12_init : MethodName := ⟨RX12, "<init>", "(Ljava/lang/Object;Ljava/lang/Object;Ljava/util/TreeMap$Entry;)V"⟩
abbrev cX12_getKey : ByteArray := prog_59_method_2_code
def yX12_getKey : MethodName := ⟨RX12, "getKey", "()Ljava/lang/Object;"⟩
abbrev cX12_getValue : ByteArray := prog_59_method_3_code
def yX12_getValue : MethodName := ⟨RX12, "getValue", "()Ljava/lang/Object;"⟩
def RX13 : String := "java/util/TreeMap$EntryIterator"
def TX13 : u_T := fun k => match k with
  | 0 => ("java/util/TreeMap$PrivateEntryIterator", "next", "Ljava/util/TreeMap$Entry;", false)
  | 1 => ("java/util/TreeMap$PrivateEntryIterator", "lastReturned", "Ljava/util/TreeMap$Entry;", false)
  | 2 => ("java/util/TreeMap$PrivateEntryIterator", "expectedModCount", "I", false)
  | _ => ("java/util/TreeMap$PrivateEntryIterator", "this$0", "Ljava/util/TreeMap;", true)
def tyX13 : Nat → FieldType := fun k => match k with
  | 0 => .object "java/util/TreeMap$Entry"
  | 1 => .object "java/util/TreeMap$Entry"
  | 2 => .int
  | _ => .object "java/util/TreeMap"
theorem nmX13 : ∀ a, a < 4 → ∀ b, b < 4 → a ≠ b → (TX13 a).2.1 ≠ (TX13 b).2.1 := by decide +kernel
theorem tyX13_ok : ∀ k, k < 4 → parseFieldDescriptor (TX13 k).2.2.1 = some (tyX13 k) := by decide +kernel
abbrev cX13_init : ByteArray := prog_60_method_1_code
def yX13_init : MethodName := ⟨RX13, "<init>", "(Ljava/util/TreeMap;Ljava/util/TreeMap$Entry;)V"⟩
abbrev cX13_next : ByteArray := prog_60_method_2_code
def yX13_next : MethodName := ⟨RX13, "next", "()Ljava/util/Map$Entry;"⟩
abbrev cX13_next_ : ByteArray := prog_60_method_3_code
def yX13_next_ : MethodName := ⟨RX13, "next", "()Ljava/lang/Object;"⟩
def RX14 : String := "java/util/TreeMap$EntrySet"
def TX14 : u_T := fun k => match k with
  | _ => ("java/util/TreeMap$EntrySet", "this$0", "Ljava/util/TreeMap;", true)
def tyX14 : Nat → FieldType := fun k => match k with
  | _ => .object "java/util/TreeMap"
theorem nmX14 : ∀ a, a < 1 → ∀ b, b < 1 → a ≠ b → (TX14 a).2.1 ≠ (TX14 b).2.1 := by decide +kernel
theorem tyX14_ok : ∀ k, k < 1 → parseFieldDescriptor (TX14 k).2.2.1 = some (tyX14 k) := by decide +kernel
abbrev cX14_init : ByteArray := prog_61_method_1_code
def yX14_init : MethodName := ⟨RX14, "<init>", "(Ljava/util/TreeMap;)V"⟩
abbrev cX14_iterator : ByteArray := prog_61_method_2_code
def yX14_iterator : MethodName := ⟨RX14, "iterator", "()Ljava/util/Iterator;"⟩
def RX15 : String := "java/util/TreeMap$PrivateEntryIterator"
def TX15 : u_T := fun k => match k with
  | _ => ("", "", "", false)
def tyX15 : Nat → FieldType := fun k => match k with
  | _ => .int
theorem nmX15 : ∀ a, a < 0 → ∀ b, b < 0 → a ≠ b → (TX15 a).2.1 ≠ (TX15 b).2.1 := by decide +kernel
theorem tyX15_ok : ∀ k, k < 0 → parseFieldDescriptor (TX15 k).2.2.1 = some (tyX15 k) := by decide +kernel
abbrev cX15_init : ByteArray := prog_62_method_1_code
def yX15_init : MethodName := ⟨RX15, "<init>", "(Ljava/util/TreeMap;Ljava/util/TreeMap$Entry;)V"⟩
abbrev cX15_hasNext : ByteArray := prog_62_method_2_code
def yX15_hasNext : MethodName := ⟨RX15, "hasNext", "()Z"⟩
abbrev cX15_nextEntry : ByteArray := prog_62_method_3_code
def yX15_nextEntry : MethodName := ⟨RX15, "nextEntry", "()Ljava/util/TreeMap$Entry;"⟩
def RX16 : String := "java/util/TreeMap$ValueIterator"
def TX16 : u_T := fun k => match k with
  | 0 => ("java/util/TreeMap$PrivateEntryIterator", "next", "Ljava/util/TreeMap$Entry;", false)
  | 1 => ("java/util/TreeMap$PrivateEntryIterator", "lastReturned", "Ljava/util/TreeMap$Entry;", false)
  | 2 => ("java/util/TreeMap$PrivateEntryIterator", "expectedModCount", "I", false)
  | _ => ("java/util/TreeMap$PrivateEntryIterator", "this$0", "Ljava/util/TreeMap;", true)
def tyX16 : Nat → FieldType := fun k => match k with
  | 0 => .object "java/util/TreeMap$Entry"
  | 1 => .object "java/util/TreeMap$Entry"
  | 2 => .int
  | _ => .object "java/util/TreeMap"
theorem nmX16 : ∀ a, a < 4 → ∀ b, b < 4 → a ≠ b → (TX16 a).2.1 ≠ (TX16 b).2.1 := by decide +kernel
theorem tyX16_ok : ∀ k, k < 4 → parseFieldDescriptor (TX16 k).2.2.1 = some (tyX16 k) := by decide +kernel
abbrev cX16_init : ByteArray := prog_63_method_1_code
def yX16_init : MethodName := ⟨RX16, "<init>", "(Ljava/util/TreeMap;Ljava/util/TreeMap$Entry;)V"⟩
abbrev cX16_next : ByteArray := prog_63_method_2_code
def yX16_next : MethodName := ⟨RX16, "next", "()Ljava/lang/Object;"⟩
def RX17 : String := "java/util/TreeMap$Values"
def TX17 : u_T := fun k => match k with
  | _ => ("java/util/TreeMap$Values", "this$0", "Ljava/util/TreeMap;", true)
def tyX17 : Nat → FieldType := fun k => match k with
  | _ => .object "java/util/TreeMap"
theorem nmX17 : ∀ a, a < 1 → ∀ b, b < 1 → a ≠ b → (TX17 a).2.1 ≠ (TX17 b).2.1 := by decide +kernel
theorem tyX17_ok : ∀ k, k < 1 → parseFieldDescriptor (TX17 k).2.2.1 = some (tyX17 k) := by decide +kernel
abbrev cX17_init : ByteArray := prog_64_method_1_code
def yX17_init : MethodName := ⟨RX17, "<init>", "(Ljava/util/TreeMap;)V"⟩
abbrev cX17_iterator : ByteArray := prog_64_method_2_code
def yX17_iterator : MethodName := ⟨RX17, "iterator", "()Ljava/util/Iterator;"⟩
def RX18 : String := "java/util/TreeMap"
def TX18 : u_T := fun k => match k with
  | 0 => ("java/util/AbstractMap", "keySet", "Ljava/util/Set;", false)
  | 1 => ("java/util/AbstractMap", "values", "Ljava/util/Collection;", false)
  | 2 => ("java/util/TreeMap", "comparator", "Ljava/util/Comparator;", true)
  | 3 => ("java/util/TreeMap", "root", "Ljava/util/TreeMap$Entry;", false)
  | 4 => ("java/util/TreeMap", "size", "I", false)
  | 5 => ("java/util/TreeMap", "modCount", "I", false)
  | 6 => ("java/util/TreeMap", "entrySet", "Ljava/util/TreeMap$EntrySet;", false)
  | 7 => ("java/util/TreeMap", "navigableKeySet", "Ljava/util/TreeMap$KeySet;", false)
  | _ => ("java/util/TreeMap", "descendingMap", "Ljava/util/NavigableMap;", false)
def tyX18 : Nat → FieldType := fun k => match k with
  | 0 => .object "java/util/Set"
  | 1 => .object "java/util/Collection"
  | 2 => .object "java/util/Comparator"
  | 3 => .object "java/util/TreeMap$Entry"
  | 4 => .int
  | 5 => .int
  | 6 => .object "java/util/TreeMap$EntrySet"
  | 7 => .object "java/util/TreeMap$KeySet"
  | _ => .object "java/util/NavigableMap"
theorem nmX18 : ∀ a, a < 9 → ∀ b, b < 9 → a ≠ b → (TX18 a).2.1 ≠ (TX18 b).2.1 := by decide +kernel
theorem tyX18_ok : ∀ k, k < 9 → parseFieldDescriptor (TX18 k).2.2.1 = some (tyX18 k) := by decide +kernel
abbrev cX18_init : ByteArray := prog_58_method_1_code
def yX18_init : MethodName := ⟨RX18, "<init>", "()V"⟩
abbrev cX18_size : ByteArray := prog_58_method_5_code
def yX18_size : MethodName := ⟨RX18, "size", "()I"⟩
abbrev cX18_put : ByteArray := prog_58_method_21_code
def yX18_put : MethodName := ⟨RX18, "put", "(Ljava/lang/Object;Ljava/lang/Object;)Ljava/lang/Object;"⟩
abbrev cX18_addEntry : ByteArray := prog_58_method_29_code
def yX18_addEntry : MethodName := ⟨RX18, "addEntry", "(Ljava/lang/Object;Ljava/lang/Object;Ljava/util/TreeMap$Entry;Z)V"⟩
abbrev cX18_addEntryToEmptyMap : ByteArray := prog_58_method_30_code
def yX18_addEntryToEmptyMap : MethodName := ⟨RX18, "addEntryToEmptyMap", "(Ljava/lang/Object;Ljava/lang/Object;)V"⟩
abbrev cX18_put_ : ByteArray := prog_58_method_31_code
def yX18_put_ : MethodName := ⟨RX18, "put", "(Ljava/lang/Object;Ljava/lang/Object;Z)Ljava/lang/Object;"⟩
abbrev cX18_values : ByteArray := prog_58_method_52_code
def yX18_values : MethodName := ⟨RX18, "values", "()Ljava/util/Collection;"⟩
abbrev cX18_entrySet : ByteArray := prog_58_method_53_code
def yX18_entrySet : MethodName := ⟨RX18, "entrySet", "()Ljava/util/Set;"⟩
abbrev cX18_compare : ByteArray := prog_58_method_67_code
def yX18_compare : MethodName := ⟨RX18, "compare", "(Ljava/lang/Object;Ljava/lang/Object;)I"⟩
abbrev cX18_getFirstEntry : ByteArray := prog_58_method_72_code
def yX18_getFirstEntry : MethodName := ⟨RX18, "getFirstEntry", "()Ljava/util/TreeMap$Entry;"⟩
abbrev cX18_successor : ByteArray := prog_58_method_74_code
def yX18_successor : MethodName := ⟨RX18, "successor", "(Ljava/util/TreeMap$Entry;)Ljava/util/TreeMap$Entry;"⟩
abbrev cX18_colorOf : ByteArray := prog_58_method_76_code
def yX18_colorOf : MethodName := ⟨RX18, "colorOf", "(Ljava/util/TreeMap$Entry;)Z"⟩
abbrev cX18_parentOf : ByteArray := prog_58_method_77_code
def yX18_parentOf : MethodName := ⟨RX18, "parentOf", "(Ljava/util/TreeMap$Entry;)Ljava/util/TreeMap$Entry;"⟩
abbrev cX18_setColor : ByteArray := prog_58_method_78_code
def yX18_setColor : MethodName := ⟨RX18, "setColor", "(Ljava/util/TreeMap$Entry;Z)V"⟩
abbrev cX18_leftOf : ByteArray := prog_58_method_79_code
def yX18_leftOf : MethodName := ⟨RX18, "leftOf", "(Ljava/util/TreeMap$Entry;)Ljava/util/TreeMap$Entry;"⟩
abbrev cX18_rightOf : ByteArray := prog_58_method_80_code
def yX18_rightOf : MethodName := ⟨RX18, "rightOf", "(Ljava/util/TreeMap$Entry;)Ljava/util/TreeMap$Entry;"⟩
abbrev cX18_rotateLeft : ByteArray := prog_58_method_81_code
def yX18_rotateLeft : MethodName := ⟨RX18, "rotateLeft", "(Ljava/util/TreeMap$Entry;)V"⟩
abbrev cX18_rotateRight : ByteArray := prog_58_method_82_code
def yX18_rotateRight : MethodName := ⟨RX18, "rotateRight", "(Ljava/util/TreeMap$Entry;)V"⟩
abbrev cX18_fixAfterInsertion : ByteArray := prog_58_method_83_code
def yX18_fixAfterInsertion : MethodName := ⟨RX18, "fixAfterInsertion", "(Ljava/util/TreeMap$Entry;)V"⟩
def RJx9a822 : String := "jdk/internal/misc/Unsafe"
def TJx9a822 : u_T := fun k => match k with
  | _ => ("", "", "", false)
def tyJx9a822 : Nat → FieldType := fun k => match k with
  | _ => .int
theorem nmJx9a822 : ∀ a, a < 0 → ∀ b, b < 0 → a ≠ b → (TJx9a822 a).2.1 ≠ (TJx9a822 b).2.1 := by decide +kernel
theorem tyJx9a822_ok : ∀ k, k < 0 → parseFieldDescriptor (TJx9a822 k).2.2.1 = some (tyJx9a822 k) := by decide +kernel
abbrev cJx9a822_getLongUnaligned_f02c6 : ByteArray := prog_65_method_334_code
def yJx9a822_getLongUnaligned_f02c6 : MethodName := ⟨RJx9a822, "getLongUnaligned", "(Ljava/lang/Object;J)J"⟩
abbrev cJx9a822_getIntUnaligned_25a47 : ByteArray := prog_65_method_336_code
def yJx9a822_getIntUnaligned_25a47 : MethodName := ⟨RJx9a822, "getIntUnaligned", "(Ljava/lang/Object;J)I"⟩
abbrev cJx9a822_pickPos_7cf53 : ByteArray := prog_65_method_350_code
def yJx9a822_pickPos_7cf53 : MethodName := ⟨RJx9a822, "pickPos", "(II)I"⟩
abbrev cJx9a822_makeLong_0477f : ByteArray := prog_65_method_351_code
def yJx9a822_makeLong_0477f : MethodName := ⟨RJx9a822, "makeLong", "(BBBBBBBB)J"⟩
abbrev cJx9a822_makeLong_4b46d : ByteArray := prog_65_method_352_code
def yJx9a822_makeLong_4b46d : MethodName := ⟨RJx9a822, "makeLong", "(SSSS)J"⟩
abbrev cJx9a822_makeLong_a216e : ByteArray := prog_65_method_353_code
def yJx9a822_makeLong_a216e : MethodName := ⟨RJx9a822, "makeLong", "(II)J"⟩
abbrev cJx9a822_makeInt_4e28c : ByteArray := prog_65_method_354_code
def yJx9a822_makeInt_4e28c : MethodName := ⟨RJx9a822, "makeInt", "(SS)I"⟩
abbrev cJx9a822_makeInt_86272 : ByteArray := prog_65_method_355_code
def yJx9a822_makeInt_86272 : MethodName := ⟨RJx9a822, "makeInt", "(BBBB)I"⟩
abbrev cJx9a822_toUnsignedInt_4d018 : ByteArray := prog_65_method_366_code
def yJx9a822_toUnsignedInt_4d018 : MethodName := ⟨RJx9a822, "toUnsignedInt", "(B)I"⟩
abbrev cJx9a822_toUnsignedInt_f1ed4 : ByteArray := prog_65_method_367_code
def yJx9a822_toUnsignedInt_f1ed4 : MethodName := ⟨RJx9a822, "toUnsignedInt", "(S)I"⟩
abbrev cJx9a822_toUnsignedLong_c5be9 : ByteArray := prog_65_method_368_code
def yJx9a822_toUnsignedLong_c5be9 : MethodName := ⟨RJx9a822, "toUnsignedLong", "(B)J"⟩
abbrev cJx9a822_toUnsignedLong_51cfc : ByteArray := prog_65_method_369_code
def yJx9a822_toUnsignedLong_51cfc : MethodName := ⟨RJx9a822, "toUnsignedLong", "(S)J"⟩
abbrev cJx9a822_toUnsignedLong_3e8ac : ByteArray := prog_65_method_370_code
def yJx9a822_toUnsignedLong_3e8ac : MethodName := ⟨RJx9a822, "toUnsignedLong", "(I)J"⟩
def RJxf92f9 : String := "jdk/internal/misc/UnsafeConstants"
def TJxf92f9 : u_T := fun k => match k with
  | _ => ("", "", "", false)
def tyJxf92f9 : Nat → FieldType := fun k => match k with
  | _ => .int
theorem nmJxf92f9 : ∀ a, a < 0 → ∀ b, b < 0 → a ≠ b → (TJxf92f9 a).2.1 ≠ (TJxf92f9 b).2.1 := by decide +kernel
theorem tyJxf92f9_ok : ∀ k, k < 0 → parseFieldDescriptor (TJxf92f9 k).2.2.1 = some (tyJxf92f9 k) := by decide +kernel
def RJ8 : String := "jdk/internal/util/ArraysSupport"
def TJ8 : u_T := fun k => match k with
  | _ => ("", "", "", false)
def tyJ8 : Nat → FieldType := fun k => match k with
  | _ => .int
theorem nmJ8 : ∀ a, a < 0 → ∀ b, b < 0 → a ≠ b → (TJ8 a).2.1 ≠ (TJ8 b).2.1 := by decide +kernel
theorem tyJ8_ok : ∀ k, k < 0 → parseFieldDescriptor (TJ8 k).2.2.1 = some (tyJ8 k) := by decide +kernel
abbrev cJ8_vectorizedMismatch_456ae : ByteArray := prog_67_method_3_code
def yJ8_vectorizedMismatch_456ae : MethodName := ⟨RJ8, "vectorizedMismatch", "(Ljava/lang/Object;JLjava/lang/Object;JII)I"⟩
abbrev cJ8_mismatch_cb723 : ByteArray := prog_67_method_13_code
def yJ8_mismatch_cb723 : MethodName := ⟨RJ8, "mismatch", "([B[BI)I"⟩
abbrev cJ8_newLength_cabcc : ByteArray := prog_67_method_27_code
def yJ8_newLength_cabcc : MethodName := ⟨RJ8, "newLength", "(III)I"⟩
abbrev cJ8_hugeLength_7cf53 : ByteArray := prog_67_method_28_code
def yJ8_hugeLength_7cf53 : MethodName := ⟨RJ8, "hugeLength", "(II)I"⟩
def RJ3 : String := "jdk/internal/util/Preconditions"
def TJ3 : u_T := fun k => match k with
  | _ => ("", "", "", false)
def tyJ3 : Nat → FieldType := fun k => match k with
  | _ => .int
theorem nmJ3 : ∀ a, a < 0 → ∀ b, b < 0 → a ≠ b → (TJ3 a).2.1 ≠ (TJ3 b).2.1 := by decide +kernel
theorem tyJ3_ok : ∀ k, k < 0 → parseFieldDescriptor (TJ3 k).2.2.1 = some (tyJ3 k) := by decide +kernel
abbrev cJ3_checkIndex_8e157 : ByteArray := prog_68_method_11_code
def yJ3_checkIndex_8e157 : MethodName := ⟨RJ3, "checkIndex", "(IILjava/util/function/BiFunction;)I"⟩
abbrev cJ3_checkFromToIndex_8c36e : ByteArray := prog_68_method_12_code
def yJ3_checkFromToIndex_8c36e : MethodName := ⟨RJ3, "checkFromToIndex", "(IIILjava/util/function/BiFunction;)I"⟩
abbrev cJ3_checkFromIndexSize_8c36e : ByteArray := prog_68_method_13_code
def yJ3_checkFromIndexSize_8c36e : MethodName := ⟨RJ3, "checkFromIndexSize", "(IIILjava/util/function/BiFunction;)I"⟩
def RL : String := "ClimbingHallLaw"
abbrev cL_cell : ByteArray := method_2_code
def yL_cell : MethodName := ⟨RL, "cell", "([II)I"⟩
abbrev cL_pick : ByteArray := method_3_code
def yL_pick : MethodName := ⟨RL, "pick", "([III)I"⟩
abbrev cL_append : ByteArray := method_4_code
def yL_append : MethodName := ⟨RL, "append", "(LClimbingHall;I)I"⟩
abbrev cL_load : ByteArray := method_5_code
def yL_load : MethodName := ⟨RL, "load", "(LClimbingHall;)I"⟩
abbrev cL_type : ByteArray := method_6_code
def yL_type : MethodName := ⟨RL, "type", "(LClimbingHall;Ljava/lang/String;)Z"⟩
abbrev cL_setRoute : ByteArray := method_7_code
def yL_setRoute : MethodName := ⟨RL, "setRoute", "(LClimbingHall;II)I"⟩
abbrev cL_climb : ByteArray := method_8_code
def yL_climb : MethodName := ⟨RL, "climb", "(LClimbingHall;II)I"⟩
abbrev cL_vote : ByteArray := method_9_code
def yL_vote : MethodName := ⟨RL, "vote", "(LClimbingHall;III)I"⟩
abbrev cL_lend : ByteArray := method_10_code
def yL_lend : MethodName := ⟨RL, "lend", "(LClimbingHall;II)I"⟩
abbrev cL_endDays : ByteArray := method_11_code
def yL_endDays : MethodName := ⟨RL, "endDays", "(LClimbingHall;I)I"⟩
abbrev cL_removeRoute : ByteArray := method_12_code
def yL_removeRoute : MethodName := ⟨RL, "removeRoute", "(LClimbingHall;I)I"⟩
abbrev cL_giveBack : ByteArray := method_13_code
def yL_giveBack : MethodName := ⟨RL, "giveBack", "(LClimbingHall;I)I"⟩
abbrev cL_check : ByteArray := method_14_code
def yL_check : MethodName := ⟨RL, "check", "(LClimbingHall;IZ)I"⟩
abbrev cL_enroll : ByteArray := method_15_code
def yL_enroll : MethodName := ⟨RL, "enroll", "(LClimbingHall;II)I"⟩
abbrev cL_leaveCourse : ByteArray := method_16_code
def yL_leaveCourse : MethodName := ⟨RL, "leaveCourse", "(LClimbingHall;I)I"⟩
abbrev cL_finish : ByteArray := method_17_code
def yL_finish : MethodName := ⟨RL, "finish", "(LClimbingHall;II)I"⟩
abbrev cL_postpone : ByteArray := method_18_code
def yL_postpone : MethodName := ⟨RL, "postpone", "(LClimbingHall;II)I"⟩
abbrev cL_undo : ByteArray := method_19_code
def yL_undo : MethodName := ⟨RL, "undo", "(LClimbingHall;)I"⟩
abbrev cL_restore : ByteArray := method_20_code
def yL_restore : MethodName := ⟨RL, "restore", "(LClimbingHall;)I"⟩
abbrev cL_isError : ByteArray := method_21_code
def yL_isError : MethodName := ⟨RL, "isError", "(I)Z"⟩
abbrev cL_one : ByteArray := method_22_code
def yL_one : MethodName := ⟨RL, "one", "(II)I"⟩
abbrev cL_some : ByteArray := method_23_code
def yL_some : MethodName := ⟨RL, "some", "(III)I"⟩
abbrev cL_is : ByteArray := method_24_code
def yL_is : MethodName := ⟨RL, "is", "(III)Z"⟩
abbrev cL_act : ByteArray := method_25_code
def yL_act : MethodName := ⟨RL, "act", "(LClimbingHallLaw$Hall;II)I"⟩
abbrev cL_call : ByteArray := method_26_code
def yL_call : MethodName := ⟨RL, "call", "(LClimbingHall;LClimbingHallLaw$Hall;II)I"⟩
abbrev cL_law : ByteArray := code
def yL_law : MethodName := ⟨RL, "law", "([I)Z"⟩
abbrev cL_isWrong : ByteArray := method_28_code
def yL_isWrong : MethodName := ⟨RL, "isWrong", "(LClimbingHall;Ljava/lang/String;I)Z"⟩
abbrev cL_texts : ByteArray := method_29_code
def yL_texts : MethodName := ⟨RL, "texts", "(LClimbingHall;)Z"⟩
