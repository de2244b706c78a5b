/-- the tables' words of a call of n parameters: of a receiver of the callee's class, of a static method (with no table, with one), of a constructor -/
def xLV (own : String) (idx : Nat) (μ' : xM) (n : Nat) : Prop := Cond.methodLink own idx (xY μ') ∈ lw_tbl ∧ Cond.instanceMethod (xY μ') ∈ lw_tbl ∧ Cond.selects (xY μ').cls (xY μ') (xY μ') ∈ lw_tbl ∧ xOk μ' n ∧ xH μ' = []
def xLS (own : String) (idx : Nat) (μ' : xM) (n : Nat) : Prop := Cond.methodLink own idx (xY μ') ∈ lw_tbl ∧ Cond.static (xY μ') ∈ lw_tbl ∧ xOk μ' n ∧ xH μ' = []
def xLH (own : String) (idx : Nat) (μ' : xM) (n : Nat) : Prop := Cond.methodLink own idx (xY μ') ∈ lw_tbl ∧ Cond.static (xY μ') ∈ lw_tbl ∧ xOk μ' n ∧ xW μ' = .codeWith (xY μ') (xB μ') (xL μ') (xR μ') (xH μ')
def xLI (own : String) (idx : Nat) (μ' : xM) (n : Nat) : Prop := (Cond.methodLink own idx (xY μ') ∈ lw_tbl ∨ ∃ host, Cond.methodLinkNest own idx (xY μ') host ∈ lw_tbl) ∧ Cond.instanceMethod (xY μ') ∈ lw_tbl ∧ (xY μ').name = "<init>" ∧ xOk μ' n ∧ xH μ' = [] ∧ xR μ' = none
def mX0_init : xM := (yX0_init, cX0_init, 1, none, [], 0)
def mX0_clear : xM := (yX0_clear, cX0_clear, 2, none, [], 0)
def mX0_addVotes : xM := (yX0_addVotes, cX0_addVotes, 3, none, [], 0)
def mX0_trimEnds : xM := (yX0_trimEnds, cX0_trimEnds, 8, none, [], 0)
def mX0_nearestGrade : xM := (yX0_nearestGrade, cX0_nearestGrade, 1, (some FieldType.int), [], 0)
def mX1_init : xM := (yX1_init, cX1_init, 2, none, [], 2)
def mX1_copyFrom : xM := (yX1_copyFrom, cX1_copyFrom, 2, none, [], 2)
def mX1_clear : xM := (yX1_clear, cX1_clear, 1, none, [], 1)
def mX1_setRules : xM := (yX1_setRules, cX1_setRules, 4, none, [], 0)
def mX1_addWall : xM := (yX1_addWall, cX1_addWall, 5, none, [], 2)
def mX1_addHarness : xM := (yX1_addHarness, cX1_addHarness, 4, none, [], 2)
def mX1_addMember : xM := (yX1_addMember, cX1_addMember, 4, none, [], 2)
def mX1_addCourse : xM := (yX1_addCourse, cX1_addCourse, 5, none, [], 2)
def mX1_routesOn : xM := (yX1_routesOn, cX1_routesOn, 4, (some FieldType.int), [], 1)
def mX1_addRoute : xM := (yX1_addRoute, cX1_addRoute, 5, (some FieldType.int), [], 2)
def mX1_archiveRoute : xM := (yX1_archiveRoute, cX1_archiveRoute, 4, (some FieldType.int), [], 3)
def mX1_isWorn : xM := (yX1_isWorn, cX1_isWorn, 2, (some FieldType.boolean), [], 1)
def mX1_mayClimb : xM := (yX1_mayClimb, cX1_mayClimb, 5, (some FieldType.boolean), [], 3)
def mX1_routesFor : xM := (yX1_routesFor, cX1_routesFor, 4, (some FieldType.int), [], 4)
def mX1_hasClimbed : xM := (yX1_hasClimbed, cX1_hasClimbed, 3, (some FieldType.boolean), [], 1)
def mX1_wearOfClimb : xM := (yX1_wearOfClimb, cX1_wearOfClimb, 2, (some FieldType.int), [], 3)
def mX1_addClimb : xM := (yX1_addClimb, cX1_addClimb, 4, (some FieldType.int), [], 4)
def mX1_climbsUntilWorn : xM := (yX1_climbsUntilWorn, cX1_climbsUntilWorn, 4, (some FieldType.int), [], 4)
def mX1_fillBallot : xM := (yX1_fillBallot, cX1_fillBallot, 6, none, [], 1)
def mX1_gradeWithMore : xM := (yX1_gradeWithMore, cX1_gradeWithMore, 4, (some FieldType.int), [], 2)
def mX1_gradeOf : xM := (yX1_gradeOf, cX1_gradeOf, 2, (some FieldType.int), [], 2)
def mX1_meanOf : xM := (yX1_meanOf, cX1_meanOf, 5, (some FieldType.int), [], 2)
def mX1_votesFor : xM := (yX1_votesFor, cX1_votesFor, 4, (some FieldType.int), [], 1)
def mX1_disputeOf : xM := (yX1_disputeOf, cX1_disputeOf, 6, (some FieldType.int), [], 2)
def mX1_mostDisputed : xM := (yX1_mostDisputed, cX1_mostDisputed, 5, (some FieldType.int), [], 3)
def mX1_hardestOn : xM := (yX1_hardestOn, cX1_hardestOn, 5, (some FieldType.int), [], 3)
def mX1_harnessOf : xM := (yX1_harnessOf, cX1_harnessOf, 2, (some FieldType.int), [], 1)
def mX1_isRetired : xM := (yX1_isRetired, cX1_isRetired, 2, (some FieldType.boolean), [], 1)
def mX1_isLent : xM := (yX1_isLent, cX1_isLent, 3, (some FieldType.boolean), [], 2)
def mX1_stateOf : xM := (yX1_stateOf, cX1_stateOf, 2, (some FieldType.int), [], 3)
def mX1_lapseOf : xM := (yX1_lapseOf, cX1_lapseOf, 2, (some FieldType.int), [], 1)
def mX1_isInForce : xM := (yX1_isInForce, cX1_isInForce, 3, (some FieldType.boolean), [], 2)
def mX1_isLendable : xM := (yX1_isLendable, cX1_isLendable, 2, (some FieldType.boolean), [], 4)
def mX1_addCheck : xM := (yX1_addCheck, cX1_addCheck, 3, none, [], 1)
def mX1_lendableOf : xM := (yX1_lendableOf, cX1_lendableOf, 4, (some FieldType.int), [], 5)
def mX1_lapsedOn : xM := (yX1_lapsedOn, cX1_lapsedOn, 4, (some FieldType.int), [], 3)
def mX1_longestValid : xM := (yX1_longestValid, cX1_longestValid, 6, (some FieldType.int), [], 2)
def mX1_lastLapse : xM := (yX1_lastLapse, cX1_lastLapse, 4, (some FieldType.int), [], 2)
def mX1_checksBy : xM := (yX1_checksBy, cX1_checksBy, 6, (some FieldType.int), [], 3)
def mX1_isClosed : xM := (yX1_isClosed, cX1_isClosed, 2, (some FieldType.boolean), [], 1)
def mX1_isClosedOn : xM := (yX1_isClosedOn, cX1_isClosedOn, 5, (some FieldType.boolean), [], 1)
def mX1_openOn : xM := (yX1_openOn, cX1_openOn, 4, (some FieldType.int), [], 2)
def mX1_dayWithFewestOpen : xM := (yX1_dayWithFewestOpen, cX1_dayWithFewestOpen, 6, (some FieldType.int), [], 3)
def mX1_isAnotherClosedOn : xM := (yX1_isAnotherClosedOn, cX1_isAnotherClosedOn, 4, (some FieldType.boolean), [], 2)
def mX1_leastShift : xM := (yX1_leastShift, cX1_leastShift, 3, (some FieldType.int), [], 3)
def mX1_resetWall : xM := (yX1_resetWall, cX1_resetWall, 6, (some FieldType.int), [], 4)
def mX1_endDay : xM := (yX1_endDay, cX1_endDay, 3, (some FieldType.int), [], 5)
def mX1_membersIn : xM := (yX1_membersIn, cX1_membersIn, 4, (some FieldType.int), [], 1)
def mX1_mayEnroll : xM := (yX1_mayEnroll, cX1_mayEnroll, 3, (some FieldType.boolean), [], 2)
def mX1_endCourse : xM := (yX1_endCourse, cX1_endCourse, 6, (some FieldType.int), [], 2)
def mX1_leastClimbs : xM := (yX1_leastClimbs, cX1_leastClimbs, 5, (some FieldType.int), [], 1)
def mX2_init : xM := (yX2_init, cX2_init, 3, none, [], 3)
def mX2_latestHall : xM := (yX2_latestHall, cX2_latestHall, 1, (some (FieldType.object "ClimbingHall$Hall")), [], 0)
def mX2_remember : xM := (yX2_remember, cX2_remember, 3, none, [], 3)
def mX2_takeBack : xM := (yX2_takeBack, cX2_takeBack, 3, none, [], 3)
def mX2_keepCopy : xM := (yX2_keepCopy, cX2_keepCopy, 2, none, [], 3)
def mX2_bringBackCopy : xM := (yX2_bringBackCopy, cX2_bringBackCopy, 2, none, [], 3)
def mX2_forgetAll : xM := (yX2_forgetAll, cX2_forgetAll, 1, none, [], 0)
def mX3_init : xM := (yX3_init, cX3_init, 2, none, [], 0)
def mX3_addBytesOf : xM := (yX3_addBytesOf, cX3_addBytesOf, 4, none, [], 0)
def mX3_byteAt : xM := (yX3_byteAt, cX3_byteAt, 3, (some FieldType.int), [], 0)
def mX3_isLetter : xM := (yX3_isLetter, cX3_isLetter, 1, (some FieldType.boolean), [], 0)
def mX3_isDigit : xM := (yX3_isDigit, cX3_isDigit, 1, (some FieldType.boolean), [], 0)
def mX3_readToken : xM := (yX3_readToken, cX3_readToken, 2, none, [], 1)
def mX3_tokenIs : xM := (yX3_tokenIs, cX3_tokenIs, 3, (some FieldType.boolean), [], 5)
def mX3_wordOf : xM := (yX3_wordOf, cX3_wordOf, 1, (some (FieldType.object "java/lang/String")), [], 0)
def mX3_kindOfToken : xM := (yX3_kindOfToken, cX3_kindOfToken, 2, (some FieldType.int), [], 6)
def mX3_numberOfToken : xM := (yX3_numberOfToken, cX3_numberOfToken, 3, (some FieldType.int), [], 1)
def mX3_hasRoomFor : xM := (yX3_hasRoomFor, cX3_hasRoomFor, 2, (some FieldType.boolean), [], 1)
def mX3_numbersOf : xM := (yX3_numbersOf, cX3_numbersOf, 1, (some FieldType.int), [], 1)
def mX3_isInRange : xM := (yX3_isInRange, cX3_isInRange, 4, (some FieldType.boolean), [], 0)
def mX3_addStatement : xM := (yX3_addStatement, cX3_addStatement, 2, none, [], 3)
def mX3_readStatement : xM := (yX3_readStatement, cX3_readStatement, 4, (some FieldType.boolean), [], 7)
def mX3_readDraft : xM := (yX3_readDraft, cX3_readDraft, 2, (some FieldType.int), [], 8)
def mX4_init : xM := (yX4_init, cX4_init, 3, none, [], 1)
def mX4_hasRow : xM := (yX4_hasRow, cX4_hasRow, 2, (some FieldType.boolean), [], 0)
def mX4_isFull : xM := (yX4_isFull, cX4_isFull, 1, (some FieldType.boolean), [], 0)
def mX4_clear : xM := (yX4_clear, cX4_clear, 1, none, [], 0)
def mX4_get : xM := (yX4_get, cX4_get, 4, (some FieldType.int), [], 0)
def mX4_set : xM := (yX4_set, cX4_set, 5, none, [], 0)
def mX4_add : xM := (yX4_add, cX4_add, 4, none, [], 1)
def mX4_addRow : xM := (yX4_addRow, cX4_addRow, 3, (some FieldType.int), [], 1)
def mX4_removeRow : xM := (yX4_removeRow, cX4_removeRow, 3, none, [], 1)
def mX4_copyFrom : xM := (yX4_copyFrom, cX4_copyFrom, 2, none, [], 1)
def mX5_init : xM := (yX5_init, cX5_init, 2, none, [], 4)
def mX5_append : xM := (yX5_append, cX5_append, 7, (some FieldType.int), [], 1)
def mX5_truncate : xM := (yX5_truncate, cX5_truncate, 2, (some FieldType.int), [], 1)
def mX5_errorPosition : xM := (yX5_errorPosition, cX5_errorPosition, 1, (some FieldType.int), [], 9)
def mX5_load : xM := (yX5_load, cX5_load, 1, (some FieldType.int), [], 9)
def mX5_setRoute : xM := (yX5_setRoute, cX5_setRoute, 3, (some FieldType.int), [], 4)
def mX5_removeRoute : xM := (yX5_removeRoute, cX5_removeRoute, 2, (some FieldType.int), [], 4)
def mX5_climb : xM := (yX5_climb, cX5_climb, 3, (some FieldType.int), [], 5)
def mX5_vote : xM := (yX5_vote, cX5_vote, 4, (some FieldType.int), [], 4)
def mX5_lend : xM := (yX5_lend, cX5_lend, 3, (some FieldType.int), [], 5)
def mX5_giveBack : xM := (yX5_giveBack, cX5_giveBack, 3, (some FieldType.int), [], 4)
def mX5_check : xM := (yX5_check, cX5_check, 3, (some FieldType.int), [], 4)
def mX5_enroll : xM := (yX5_enroll, cX5_enroll, 3, (some FieldType.int), [], 4)
def mX5_leaveCourse : xM := (yX5_leaveCourse, cX5_leaveCourse, 3, (some FieldType.int), [], 4)
def mX5_finish : xM := (yX5_finish, cX5_finish, 3, (some FieldType.int), [], 4)
def mX5_postpone : xM := (yX5_postpone, cX5_postpone, 3, (some FieldType.int), [], 4)
def mX5_endDays : xM := (yX5_endDays, cX5_endDays, 4, (some FieldType.int), [], 6)
def mX5_undo : xM := (yX5_undo, cX5_undo, 1, (some FieldType.int), [], 4)
def mX5_undoCount : xM := (yX5_undoCount, cX5_undoCount, 1, (some FieldType.int), [], 0)
def mX5_save : xM := (yX5_save, cX5_save, 1, (some FieldType.int), [], 4)
def mX5_restore : xM := (yX5_restore, cX5_restore, 1, (some FieldType.int), [], 4)
def mX5_count : xM := (yX5_count, cX5_count, 2, (some FieldType.int), [], 1)
def mX5_wall : xM := (yX5_wall, cX5_wall, 3, (some FieldType.int), [], 2)
def mX5_route : xM := (yX5_route, cX5_route, 3, (some FieldType.int), [], 2)
def mX5_archived : xM := (yX5_archived, cX5_archived, 3, (some FieldType.int), [], 2)
def mX5_member : xM := (yX5_member, cX5_member, 3, (some FieldType.int), [], 2)
def mX5_harness : xM := (yX5_harness, cX5_harness, 3, (some FieldType.int), [], 4)
def mX5_course : xM := (yX5_course, cX5_course, 3, (some FieldType.int), [], 2)
def mX5_bill : xM := (yX5_bill, cX5_bill, 8, (some FieldType.int), [], 2)
def mX5_grade : xM := (yX5_grade, cX5_grade, 2, (some FieldType.int), [], 3)
def mX5_meanGrade : xM := (yX5_meanGrade, cX5_meanGrade, 3, (some FieldType.int), [], 3)
def mX5_voteOf : xM := (yX5_voteOf, cX5_voteOf, 4, (some FieldType.int), [], 2)
def mX5_gradeWith : xM := (yX5_gradeWith, cX5_gradeWith, 4, (some FieldType.int), [], 3)
def mX5_votesTo : xM := (yX5_votesTo, cX5_votesTo, 4, (some FieldType.int), [], 3)
def mX5_disputed : xM := (yX5_disputed, cX5_disputed, 1, (some FieldType.int), [], 4)
def mX5_hardest : xM := (yX5_hardest, cX5_hardest, 2, (some FieldType.int), [], 4)
def mX5_climbsLeft : xM := (yX5_climbsLeft, cX5_climbsLeft, 2, (some FieldType.int), [], 5)
def mX5_averageGrade : xM := (yX5_averageGrade, cX5_averageGrade, 5, (some FieldType.double), [], 3)
def mX5_openWalls : xM := (yX5_openWalls, cX5_openWalls, 2, (some FieldType.int), [], 3)
def mX5_worstDay : xM := (yX5_worstDay, cX5_worstDay, 2, (some FieldType.int), [], 4)
def mX5_shiftFor : xM := (yX5_shiftFor, cX5_shiftFor, 2, (some FieldType.int), [], 4)
def mX5_lendable : xM := (yX5_lendable, cX5_lendable, 2, (some FieldType.int), [], 6)
def mX5_lapsing : xM := (yX5_lapsing, cX5_lapsing, 2, (some FieldType.int), [], 4)
def mX5_checksNeeded : xM := (yX5_checksNeeded, cX5_checksNeeded, 3, (some FieldType.int), [], 4)
def mX5_allowedRoutes : xM := (yX5_allowedRoutes, cX5_allowedRoutes, 2, (some FieldType.int), [], 5)
def mX5_ladder : xM := (yX5_ladder, cX5_ladder, 5, (some FieldType.int), [], 2)
def mX5_needRow : xM := (yX5_needRow, cX5_needRow, 2, none, [], 1)
def mX5_needBetween : xM := (yX5_needBetween, cX5_needBetween, 3, none, [], 0)
def mX5_needInt : xM := (yX5_needInt, cX5_needInt, 2, none, [], 0)
def mX5_needFound : xM := (yX5_needFound, cX5_needFound, 1, (some FieldType.int), [], 0)
def mX5_bytesIn : xM := (yX5_bytesIn, cX5_bytesIn, 3, (some FieldType.int), [], 0)
def mX6_init : xM := (yX6_init, cX6_init, 1, none, [], 1)
def mX6_thrown : xM := (yX6_thrown, cX6_thrown, 1, (some FieldType.int), [], 0)
def mX6_in : xM := (yX6_in, cX6_in, 6, (some FieldType.boolean), [], 0)
def mX6_fails : xM := (yX6_fails, cX6_fails, 3, (some FieldType.boolean), [], 0)
def mX6_has : xM := (yX6_has, cX6_has, 2, (some FieldType.boolean), [], 0)
def mX6_bits : xM := (yX6_bits, cX6_bits, 3, (some FieldType.int), [], 0)
def mX6_byteOf : xM := (yX6_byteOf, cX6_byteOf, 7, (some FieldType.int), [], 0)
def mX6_append : xM := (yX6_append, cX6_append, 9, (some FieldType.int), [], 1)
def mX6_truncate : xM := (yX6_truncate, cX6_truncate, 2, (some FieldType.int), [], 1)
def mX6_peek : xM := (yX6_peek, cX6_peek, 2, (some FieldType.int), [], 0)
def mX6_isLetter : xM := (yX6_isLetter, cX6_isLetter, 1, (some FieldType.boolean), [], 0)
def mX6_isDigit : xM := (yX6_isDigit, cX6_isDigit, 1, (some FieldType.boolean), [], 0)
def mX6_step : xM := (yX6_step, cX6_step, 2, none, [], 1)
def mX6_fail : xM := (yX6_fail, cX6_fail, 1, none, [], 0)
def mX6_isGood : xM := (yX6_isGood, cX6_isGood, 1, (some FieldType.boolean), [], 0)
def mX6_isWord : xM := (yX6_isWord, cX6_isWord, 4, (some FieldType.boolean), [], 5)
def mX6_takeNumber : xM := (yX6_takeNumber, cX6_takeNumber, 4, (some FieldType.int), [], 2)
def mX6_begin : xM := (yX6_begin, cX6_begin, 2, none, [], 0)
def mX6_readWall : xM := (yX6_readWall, cX6_readWall, 5, none, [], 0)
def mX6_readHarness : xM := (yX6_readHarness, cX6_readHarness, 4, none, [], 0)
def mX6_readMember : xM := (yX6_readMember, cX6_readMember, 4, none, [], 0)
def mX6_readCourse : xM := (yX6_readCourse, cX6_readCourse, 5, none, [], 0)
def mX6_begins : xM := (yX6_begins, cX6_begins, 3, (some FieldType.boolean), [], 6)
def mX6_readStatement : xM := (yX6_readStatement, cX6_readStatement, 4, none, [], 7)
def mX6_parse : xM := (yX6_parse, cX6_parse, 1, (some FieldType.int), [], 8)
def mX6_errorPosition : xM := (yX6_errorPosition, cX6_errorPosition, 1, (some FieldType.int), [], 9)
def mX6_takeRead : xM := (yX6_takeRead, cX6_takeRead, 2, none, [], 0)
def mX6_load : xM := (yX6_load, cX6_load, 1, (some FieldType.int), [], 9)
def mX6_record : xM := (yX6_record, cX6_record, 2, none, [], 0)
def mX6_undo : xM := (yX6_undo, cX6_undo, 2, (some FieldType.int), [], 1)
def mX6_undoCount : xM := (yX6_undoCount, cX6_undoCount, 1, (some FieldType.int), [], 0)
def mX6_save : xM := (yX6_save, cX6_save, 2, (some FieldType.int), [], 0)
def mX6_restore : xM := (yX6_restore, cX6_restore, 2, (some FieldType.int), [], 1)
def mX6_isWall : xM := (yX6_isWall, cX6_isWall, 2, (some FieldType.boolean), [], 1)
def mX6_isRoute : xM := (yX6_isRoute, cX6_isRoute, 2, (some FieldType.boolean), [], 1)
def mX6_isHarness : xM := (yX6_isHarness, cX6_isHarness, 2, (some FieldType.boolean), [], 1)
def mX6_isMember : xM := (yX6_isMember, cX6_isMember, 2, (some FieldType.boolean), [], 1)
def mX6_isCourse : xM := (yX6_isCourse, cX6_isCourse, 2, (some FieldType.boolean), [], 1)
def mX6_isGrade : xM := (yX6_isGrade, cX6_isGrade, 1, (some FieldType.boolean), [], 1)
def mX6_wallPart : xM := (yX6_wallPart, cX6_wallPart, 3, (some FieldType.int), [], 0)
def mX6_routePart : xM := (yX6_routePart, cX6_routePart, 3, (some FieldType.int), [], 0)
def mX6_harnessPart : xM := (yX6_harnessPart, cX6_harnessPart, 3, (some FieldType.int), [], 0)
def mX6_memberPart : xM := (yX6_memberPart, cX6_memberPart, 3, (some FieldType.int), [], 0)
def mX6_coursePart : xM := (yX6_coursePart, cX6_coursePart, 3, (some FieldType.int), [], 0)
def mX6_setMember : xM := (yX6_setMember, cX6_setMember, 4, none, [], 0)
def mX6_setHarness : xM := (yX6_setHarness, cX6_setHarness, 4, none, [], 0)
def mX6_cast : xM := (yX6_cast, cX6_cast, 3, none, [], 0)
def mX6_layBallot : xM := (yX6_layBallot, cX6_layBallot, 4, none, [], 1)
def mX6_dropped : xM := (yX6_dropped, cX6_dropped, 3, (some FieldType.int), [], 1)
def mX6_trim : xM := (yX6_trim, cX6_trim, 6, none, [], 2)
def mX6_layMean : xM := (yX6_layMean, cX6_layMean, 4, none, [], 3)
def mX6_gradeOf : xM := (yX6_gradeOf, cX6_gradeOf, 2, (some FieldType.int), [], 5)
def mX6_gradeBy : xM := (yX6_gradeBy, cX6_gradeBy, 4, (some FieldType.int), [], 4)
def mX6_isClosed : xM := (yX6_isClosed, cX6_isClosed, 2, (some FieldType.boolean), [], 1)
def mX6_onWall : xM := (yX6_onWall, cX6_onWall, 4, (some FieldType.int), [], 1)
def mX6_lapse : xM := (yX6_lapse, cX6_lapse, 2, (some FieldType.int), [], 1)
def mX6_isRetired : xM := (yX6_isRetired, cX6_isRetired, 2, (some FieldType.boolean), [], 1)
def mX6_isLent : xM := (yX6_isLent, cX6_isLent, 2, (some FieldType.boolean), [], 1)
def mX6_isInForce : xM := (yX6_isInForce, cX6_isInForce, 3, (some FieldType.boolean), [], 2)
def mX6_isWorn : xM := (yX6_isWorn, cX6_isWorn, 2, (some FieldType.boolean), [], 1)
def mX6_mayClimb : xM := (yX6_mayClimb, cX6_mayClimb, 6, (some FieldType.boolean), [], 3)
def mX6_setRoute : xM := (yX6_setRoute, cX6_setRoute, 5, (some FieldType.int), [], 2)
def mX6_archive : xM := (yX6_archive, cX6_archive, 3, none, [], 6)
def mX6_takeOff : xM := (yX6_takeOff, cX6_takeOff, 3, none, [], 7)
def mX6_removeRoute : xM := (yX6_removeRoute, cX6_removeRoute, 3, (some FieldType.int), [], 8)
def mX6_climb : xM := (yX6_climb, cX6_climb, 5, (some FieldType.int), [], 6)
def mX6_vote : xM := (yX6_vote, cX6_vote, 4, (some FieldType.int), [], 6)
def mX6_mayLend : xM := (yX6_mayLend, cX6_mayLend, 4, (some FieldType.boolean), [], 3)
def mX6_lend : xM := (yX6_lend, cX6_lend, 3, (some FieldType.int), [], 4)
def mX6_giveBack : xM := (yX6_giveBack, cX6_giveBack, 3, (some FieldType.int), [], 2)
def mX6_check : xM := (yX6_check, cX6_check, 3, (some FieldType.int), [], 2)
def mX6_inCourse : xM := (yX6_inCourse, cX6_inCourse, 4, (some FieldType.int), [], 1)
def mX6_mayEnroll : xM := (yX6_mayEnroll, cX6_mayEnroll, 5, (some FieldType.boolean), [], 2)
def mX6_enroll : xM := (yX6_enroll, cX6_enroll, 3, (some FieldType.int), [], 3)
def mX6_leaveCourse : xM := (yX6_leaveCourse, cX6_leaveCourse, 3, (some FieldType.int), [], 2)
def mX6_finish : xM := (yX6_finish, cX6_finish, 5, (some FieldType.int), [], 2)
def mX6_postpone : xM := (yX6_postpone, cX6_postpone, 3, (some FieldType.int), [], 2)
def mX6_reset : xM := (yX6_reset, cX6_reset, 4, (some FieldType.int), [], 8)
def mX6_endDay : xM := (yX6_endDay, cX6_endDay, 4, (some FieldType.int), [], 9)
def mX6_endDays : xM := (yX6_endDays, cX6_endDays, 4, (some FieldType.int), [], 10)
def mX6_count : xM := (yX6_count, cX6_count, 2, (some FieldType.int), [], 0)
def mX6_wall : xM := (yX6_wall, cX6_wall, 3, (some FieldType.int), [], 2)
def mX6_votesOf : xM := (yX6_votesOf, cX6_votesOf, 4, (some FieldType.int), [], 1)
def mX6_route : xM := (yX6_route, cX6_route, 3, (some FieldType.int), [], 2)
def mX6_archived : xM := (yX6_archived, cX6_archived, 3, (some FieldType.int), [], 1)
def mX6_member : xM := (yX6_member, cX6_member, 3, (some FieldType.int), [], 2)
def mX6_harness : xM := (yX6_harness, cX6_harness, 3, (some FieldType.int), [], 3)
def mX6_course : xM := (yX6_course, cX6_course, 3, (some FieldType.int), [], 2)
def mX6_isInt : xM := (yX6_isInt, cX6_isInt, 2, (some FieldType.boolean), [], 1)
def mX6_bill : xM := (yX6_bill, cX6_bill, 8, (some FieldType.int), [], 2)
def mX6_grade : xM := (yX6_grade, cX6_grade, 2, (some FieldType.int), [], 6)
def mX6_common : xM := (yX6_common, cX6_common, 5, (some FieldType.int), [], 0)
def mX6_meanGrade : xM := (yX6_meanGrade, cX6_meanGrade, 4, (some FieldType.int), [], 4)
def mX6_voteOf : xM := (yX6_voteOf, cX6_voteOf, 4, (some FieldType.int), [], 2)
def mX6_gradeWith : xM := (yX6_gradeWith, cX6_gradeWith, 4, (some FieldType.int), [], 5)
def mX6_votesTo : xM := (yX6_votesTo, cX6_votesTo, 4, (some FieldType.int), [], 5)
def mX6_spread : xM := (yX6_spread, cX6_spread, 6, (some FieldType.int), [], 2)
def mX6_disputed : xM := (yX6_disputed, cX6_disputed, 5, (some FieldType.int), [], 3)
def mX6_hardest : xM := (yX6_hardest, cX6_hardest, 6, (some FieldType.int), [], 6)
def mX6_climbsLeft : xM := (yX6_climbsLeft, cX6_climbsLeft, 5, (some FieldType.int), [], 6)
def mX6_averageGrade : xM := (yX6_averageGrade, cX6_averageGrade, 3, (some FieldType.double), [], 6)
def mX6_isClosedOn : xM := (yX6_isClosedOn, cX6_isClosedOn, 4, (some FieldType.boolean), [], 1)
def mX6_openOn : xM := (yX6_openOn, cX6_openOn, 4, (some FieldType.int), [], 2)
def mX6_openWalls : xM := (yX6_openWalls, cX6_openWalls, 2, (some FieldType.int), [], 3)
def mX6_worstDay : xM := (yX6_worstDay, cX6_worstDay, 4, (some FieldType.int), [], 3)
def mX6_isAlone : xM := (yX6_isAlone, cX6_isAlone, 5, (some FieldType.boolean), [], 2)
def mX6_shiftFor : xM := (yX6_shiftFor, cX6_shiftFor, 3, (some FieldType.int), [], 3)
def mX6_lendable : xM := (yX6_lendable, cX6_lendable, 5, (some FieldType.int), [], 3)
def mX6_lapsing : xM := (yX6_lapsing, cX6_lapsing, 4, (some FieldType.int), [], 3)
def mX6_isOfUse : xM := (yX6_isOfUse, cX6_isOfUse, 3, (some FieldType.boolean), [], 2)
def mX6_longest : xM := (yX6_longest, cX6_longest, 4, (some FieldType.int), [], 3)
def mX6_isSome : xM := (yX6_isSome, cX6_isSome, 5, (some FieldType.boolean), [], 3)
def mX6_checksNeeded : xM := (yX6_checksNeeded, cX6_checksNeeded, 6, (some FieldType.int), [], 4)
def mX6_allowedRoutes : xM := (yX6_allowedRoutes, cX6_allowedRoutes, 4, (some FieldType.int), [], 4)
def mX6_needOf : xM := (yX6_needOf, cX6_needOf, 5, (some FieldType.int), [], 1)
def mX6_ladder : xM := (yX6_ladder, cX6_ladder, 6, (some FieldType.int), [], 2)
def mJ6_bitCount_0f7a4 : xM := (yJ6_bitCount_0f7a4, cJ6_bitCount_0f7a4, 1, (some FieldType.int), [], 0)
def mJ0_length_8abf5 : xM := (yJ0_length_8abf5, cJ0_length_8abf5, 1, (some FieldType.int), [], 1)
def mJ0_charAt_5068e : xM := (yJ0_charAt_5068e, cJ0_charAt_5068e, 2, (some FieldType.char), [], 4)
def mJ0_coder_7d493 : xM := (yJ0_coder_7d493, cJ0_coder_7d493, 1, (some FieldType.byte), [], 0)
def mJ0_isLatin1_aae02 : xM := (yJ0_isLatin1_aae02, cJ0_isLatin1_aae02, 1, (some FieldType.boolean), [], 0)
def mJ0_checkIndex_df160 : xM := (yJ0_checkIndex_df160, cJ0_checkIndex_df160, 2, none, [], 1)
def mJ1_charAt_3b067 : xM := (yJ1_charAt_3b067, cJ1_charAt_3b067, 2, (some FieldType.char), [], 2)
def mJ2_getChar_3b067 : xM := (yJ2_getChar_3b067, cJ2_getChar_3b067, 2, (some FieldType.char), [], 1)
def mJ2_length_9d52b : xM := (yJ2_length_9d52b, cJ2_length_9d52b, 1, (some FieldType.int), [], 0)
def mJ2_charAt_3b067 : xM := (yJ2_charAt_3b067, cJ2_charAt_3b067, 2, (some FieldType.char), [], 3)
def mJ2_checkIndex_2214a : xM := (yJ2_checkIndex_2214a, cJ2_checkIndex_2214a, 2, none, [], 2)
def mJ3_checkIndex_8e157 : xM := (yJ3_checkIndex_8e157, cJ3_checkIndex_8e157, 3, (some FieldType.int), [], 0)
def mL_append : xM := (yL_append, cL_append, 8, (some FieldType.int), [(0, 16, 19, 13)], 2)
def mL_truncate : xM := (yL_truncate, cL_truncate, 4, (some FieldType.int), [(0, 9, 12, 19)], 2)
def mL_load : xM := (yL_load, cL_load, 3, (some FieldType.int), [(0, 8, 11, 19)], 10)
def mL_setRoute : xM := (yL_setRoute, cL_setRoute, 5, (some FieldType.int), [(0, 10, 13, 29), (0, 10, 17, 19), (0, 10, 21, 13)], 5)
def mL_removeRoute : xM := (yL_removeRoute, cL_removeRoute, 4, (some FieldType.int), [(0, 9, 12, 29)], 5)
def mL_climb : xM := (yL_climb, cL_climb, 5, (some FieldType.int), [(0, 10, 13, 29), (0, 10, 17, 13)], 6)
def mL_vote : xM := (yL_vote, cL_vote, 6, (some FieldType.int), [(0, 12, 15, 29), (0, 12, 19, 19), (0, 12, 23, 13)], 5)
def mL_lend : xM := (yL_lend, cL_lend, 5, (some FieldType.int), [(0, 10, 13, 29), (0, 10, 17, 13)], 6)
def mL_giveBack : xM := (yL_giveBack, cL_giveBack, 4, (some FieldType.int), [(0, 9, 12, 29), (0, 9, 15, 13)], 5)
def mL_check : xM := (yL_check, cL_check, 5, (some FieldType.int), [(0, 10, 13, 29), (0, 10, 17, 13)], 5)
def mL_enroll : xM := (yL_enroll, cL_enroll, 5, (some FieldType.int), [(0, 10, 13, 29), (0, 10, 17, 13)], 5)
def mL_leaveCourse : xM := (yL_leaveCourse, cL_leaveCourse, 4, (some FieldType.int), [(0, 9, 12, 29), (0, 9, 15, 13)], 5)
def mL_finish : xM := (yL_finish, cL_finish, 5, (some FieldType.int), [(0, 10, 13, 29)], 5)
def mL_postpone : xM := (yL_postpone, cL_postpone, 5, (some FieldType.int), [(0, 10, 13, 29), (0, 10, 17, 19)], 5)
def mL_endDays : xM := (yL_endDays, cL_endDays, 4, (some FieldType.int), [(0, 9, 12, 19)], 7)
def mL_undo : xM := (yL_undo, cL_undo, 3, (some FieldType.int), [(0, 8, 11, 13)], 5)
def mL_restore : xM := (yL_restore, cL_restore, 3, (some FieldType.int), [(0, 8, 11, 13)], 5)
def mL_count : xM := (yL_count, cL_count, 4, (some FieldType.int), [(0, 9, 12, 19)], 2)
def mL_wall : xM := (yL_wall, cL_wall, 5, (some FieldType.int), [(0, 10, 13, 29), (0, 10, 17, 19)], 3)
def mL_route : xM := (yL_route, cL_route, 5, (some FieldType.int), [(0, 10, 13, 29), (0, 10, 17, 19)], 3)
def mL_archived : xM := (yL_archived, cL_archived, 5, (some FieldType.int), [(0, 10, 13, 29), (0, 10, 17, 19)], 3)
def mL_member : xM := (yL_member, cL_member, 5, (some FieldType.int), [(0, 10, 13, 29), (0, 10, 17, 19)], 3)
def mL_harness : xM := (yL_harness, cL_harness, 5, (some FieldType.int), [(0, 10, 13, 29), (0, 10, 17, 19)], 5)
def mL_course : xM := (yL_course, cL_course, 5, (some FieldType.int), [(0, 10, 13, 29), (0, 10, 17, 19)], 3)
def mL_bill : xM := (yL_bill, cL_bill, 6, (some FieldType.int), [(0, 12, 15, 29), (0, 12, 19, 96)], 3)
def mL_grade : xM := (yL_grade, cL_grade, 4, (some FieldType.int), [(0, 9, 12, 29)], 4)
def mL_meanGrade : xM := (yL_meanGrade, cL_meanGrade, 5, (some FieldType.int), [(0, 10, 13, 29)], 4)
def mL_voteOf : xM := (yL_voteOf, cL_voteOf, 5, (some FieldType.int), [(0, 10, 13, 29), (0, 10, 17, 107)], 3)
def mL_gradeWith : xM := (yL_gradeWith, cL_gradeWith, 6, (some FieldType.int), [(0, 12, 15, 29), (0, 12, 19, 19)], 4)
def mL_votesTo : xM := (yL_votesTo, cL_votesTo, 5, (some FieldType.int), [(0, 10, 13, 29), (0, 10, 17, 19), (0, 10, 21, 107)], 4)
def mL_disputed : xM := (yL_disputed, cL_disputed, 3, (some FieldType.int), [(0, 8, 11, 107)], 5)
def mL_hardest : xM := (yL_hardest, cL_hardest, 4, (some FieldType.int), [(0, 9, 12, 29), (0, 9, 15, 107)], 5)
def mL_climbsLeft : xM := (yL_climbsLeft, cL_climbsLeft, 4, (some FieldType.int), [(0, 9, 12, 29)], 6)
def mL_averageGrade : xM := (yL_averageGrade, cL_averageGrade, 3, (some FieldType.int), [(0, 7, 10, 107)], 4)
def mL_openWalls : xM := (yL_openWalls, cL_openWalls, 4, (some FieldType.int), [(0, 9, 12, 19)], 4)
def mL_worstDay : xM := (yL_worstDay, cL_worstDay, 4, (some FieldType.int), [(0, 9, 12, 19)], 5)
def mL_shiftFor : xM := (yL_shiftFor, cL_shiftFor, 4, (some FieldType.int), [(0, 9, 12, 29), (0, 9, 15, 107)], 5)
def mL_lendable : xM := (yL_lendable, cL_lendable, 4, (some FieldType.int), [(0, 9, 12, 19)], 7)
def mL_lapsing : xM := (yL_lapsing, cL_lapsing, 4, (some FieldType.int), [(0, 9, 12, 19)], 5)
def mL_checksNeeded : xM := (yL_checksNeeded, cL_checksNeeded, 5, (some FieldType.int), [(0, 10, 13, 19), (0, 10, 17, 107)], 5)
def mL_allowedRoutes : xM := (yL_allowedRoutes, cL_allowedRoutes, 4, (some FieldType.int), [(0, 9, 12, 29)], 6)
def mL_ladder : xM := (yL_ladder, cL_ladder, 5, (some FieldType.int), [(0, 10, 13, 29), (0, 10, 17, 19), (0, 10, 21, 107)], 3)
def mL_law : xM := (x, code, 9, ret, [], 11)
theorem okX0_init : xOk mX0_init 0 := ⟨tq36, rfl, tq2, by decide +kernel, ⟨by decide +kernel, by decide +kernel, by decide +kernel⟩, by decide +kernel⟩
theorem okX0_clear : xOk mX0_clear 0 := ⟨tq615, rfl, tq2, by decide +kernel, ⟨by decide +kernel, by decide +kernel, by decide +kernel⟩, by decide +kernel⟩
theorem okX0_addVotes : xOk mX0_addVotes 2 := ⟨tq619, rfl, tq2, by decide +kernel, ⟨by decide +kernel, by decide +kernel, by decide +kernel⟩, by decide +kernel⟩
theorem okX0_trimEnds : xOk mX0_trimEnds 1 := ⟨tq623, rfl, tq2, by decide +kernel, ⟨by decide +kernel, by decide +kernel, by decide +kernel⟩, by decide +kernel⟩
theorem okX0_nearestGrade : xOk mX0_nearestGrade 0 := ⟨tq627, rfl, tq2, by decide +kernel, ⟨by decide +kernel, by decide +kernel, by decide +kernel⟩, by decide +kernel⟩
theorem okX1_init : xOk mX1_init 1 := ⟨tq59, rfl, tq3, by decide +kernel, ⟨by decide +kernel, by decide +kernel, by decide +kernel⟩, by decide +kernel⟩
theorem okX1_copyFrom : xOk mX1_copyFrom 1 := ⟨tq380, rfl, tq3, by decide +kernel, ⟨by decide +kernel, by decide +kernel, by decide +kernel⟩, by decide +kernel⟩
theorem okX1_clear : xOk mX1_clear 0 := ⟨tq240, rfl, tq3, by decide +kernel, ⟨by decide +kernel, by decide +kernel, by decide +kernel⟩, by decide +kernel⟩
theorem okX1_setRules : xOk mX1_setRules 3 := ⟨tq248, rfl, tq3, by decide +kernel, ⟨by decide +kernel, by decide +kernel, by decide +kernel⟩, by decide +kernel⟩
theorem okX1_addWall : xOk mX1_addWall 3 := ⟨tq193, rfl, tq3, by decide +kernel, ⟨by decide +kernel, by decide +kernel, by decide +kernel⟩, by decide +kernel⟩
theorem okX1_addHarness : xOk mX1_addHarness 2 := ⟨tq210, rfl, tq3, by decide +kernel, ⟨by decide +kernel, by decide +kernel, by decide +kernel⟩, by decide +kernel⟩
theorem okX1_addMember : xOk mX1_addMember 2 := ⟨tq214, rfl, tq3, by decide +kernel, ⟨by decide +kernel, by decide +kernel, by decide +kernel⟩, by decide +kernel⟩
theorem okX1_addCourse : xOk mX1_addCourse 3 := ⟨tq218, rfl, tq3, by decide +kernel, ⟨by decide +kernel, by decide +kernel, by decide +kernel⟩, by decide +kernel⟩
theorem okX1_routesOn : xOk mX1_routesOn 1 := ⟨tq577, rfl, tq3, by decide +kernel, ⟨by decide +kernel, by decide +kernel, by decide +kernel⟩, by decide +kernel⟩
theorem okX1_addRoute : xOk mX1_addRoute 2 := ⟨tq592, rfl, tq3, by decide +kernel, ⟨by decide +kernel, by decide +kernel, by decide +kernel⟩, by decide +kernel⟩
theorem okX1_archiveRoute : xOk mX1_archiveRoute 1 := ⟨tq603, rfl, tq3, by decide +kernel, ⟨by decide +kernel, by decide +kernel, by decide +kernel⟩, by decide +kernel⟩
theorem okX1_isWorn : xOk mX1_isWorn 1 := ⟨tq665, rfl, tq3, by decide +kernel, ⟨by decide +kernel, by decide +kernel, by decide +kernel⟩, by decide +kernel⟩
theorem okX1_mayClimb : xOk mX1_mayClimb 2 := ⟨tq644, rfl, tq3, by decide +kernel, ⟨by decide +kernel, by decide +kernel, by decide +kernel⟩, by decide +kernel⟩
theorem okX1_routesFor : xOk mX1_routesFor 1 := ⟨tq1121, rfl, tq3, by decide +kernel, ⟨by decide +kernel, by decide +kernel, by decide +kernel⟩, by decide +kernel⟩
theorem okX1_hasClimbed : xOk mX1_hasClimbed 2 := ⟨tq690, rfl, tq3, by decide +kernel, ⟨by decide +kernel, by decide +kernel, by decide +kernel⟩, by decide +kernel⟩
theorem okX1_wearOfClimb : xOk mX1_wearOfClimb 1 := ⟨tq674, rfl, tq3, by decide +kernel, ⟨by decide +kernel, by decide +kernel, by decide +kernel⟩, by decide +kernel⟩
theorem okX1_addClimb : xOk mX1_addClimb 2 := ⟨tq670, rfl, tq3, by decide +kernel, ⟨by decide +kernel, by decide +kernel, by decide +kernel⟩, by decide +kernel⟩
theorem okX1_climbsUntilWorn : xOk mX1_climbsUntilWorn 1 := ⟨tq1018, rfl, tq3, by decide +kernel, ⟨by decide +kernel, by decide +kernel, by decide +kernel⟩, by decide +kernel⟩
theorem okX1_fillBallot : xOk mX1_fillBallot 3 := ⟨tq611, rfl, tq3, by decide +kernel, ⟨by decide +kernel, by decide +kernel, by decide +kernel⟩, by decide +kernel⟩
theorem okX1_gradeWithMore : xOk mX1_gradeWithMore 3 := ⟨tq966, rfl, tq3, by decide +kernel, ⟨by decide +kernel, by decide +kernel, by decide +kernel⟩, by decide +kernel⟩
theorem okX1_gradeOf : xOk mX1_gradeOf 1 := ⟨tq607, rfl, tq3, by decide +kernel, ⟨by decide +kernel, by decide +kernel, by decide +kernel⟩, by decide +kernel⟩
theorem okX1_meanOf : xOk mX1_meanOf 2 := ⟨tq931, rfl, tq3, by decide +kernel, ⟨by decide +kernel, by decide +kernel, by decide +kernel⟩, by decide +kernel⟩
theorem okX1_votesFor : xOk mX1_votesFor 1 := ⟨tq856, rfl, tq3, by decide +kernel, ⟨by decide +kernel, by decide +kernel, by decide +kernel⟩, by decide +kernel⟩
theorem okX1_disputeOf : xOk mX1_disputeOf 1 := ⟨tq989, rfl, tq3, by decide +kernel, ⟨by decide +kernel, by decide +kernel, by decide +kernel⟩, by decide +kernel⟩
theorem okX1_mostDisputed : xOk mX1_mostDisputed 0 := ⟨tq985, rfl, tq3, by decide +kernel, ⟨by decide +kernel, by decide +kernel, by decide +kernel⟩, by decide +kernel⟩
theorem okX1_hardestOn : xOk mX1_hardestOn 1 := ⟨tq1007, rfl, tq3, by decide +kernel, ⟨by decide +kernel, by decide +kernel, by decide +kernel⟩, by decide +kernel⟩
theorem okX1_harnessOf : xOk mX1_harnessOf 1 := ⟨tq648, rfl, tq3, by decide +kernel, ⟨by decide +kernel, by decide +kernel, by decide +kernel⟩, by decide +kernel⟩
theorem okX1_isRetired : xOk mX1_isRetired 1 := ⟨tq657, rfl, tq3, by decide +kernel, ⟨by decide +kernel, by decide +kernel, by decide +kernel⟩, by decide +kernel⟩
theorem okX1_isLent : xOk mX1_isLent 1 := ⟨tq716, rfl, tq3, by decide +kernel, ⟨by decide +kernel, by decide +kernel, by decide +kernel⟩, by decide +kernel⟩
theorem okX1_stateOf : xOk mX1_stateOf 1 := ⟨tq712, rfl, tq3, by decide +kernel, ⟨by decide +kernel, by decide +kernel, by decide +kernel⟩, by decide +kernel⟩
theorem okX1_lapseOf : xOk mX1_lapseOf 1 := ⟨tq661, rfl, tq3, by decide +kernel, ⟨by decide +kernel, by decide +kernel, by decide +kernel⟩, by decide +kernel⟩
theorem okX1_isInForce : xOk mX1_isInForce 2 := ⟨tq653, rfl, tq3, by decide +kernel, ⟨by decide +kernel, by decide +kernel, by decide +kernel⟩, by decide +kernel⟩
theorem okX1_isLendable : xOk mX1_isLendable 1 := ⟨tq708, rfl, tq3, by decide +kernel, ⟨by decide +kernel, by decide +kernel, by decide +kernel⟩, by decide +kernel⟩
theorem okX1_addCheck : xOk mX1_addCheck 2 := ⟨tq739, rfl, tq3, by decide +kernel, ⟨by decide +kernel, by decide +kernel, by decide +kernel⟩, by decide +kernel⟩
theorem okX1_lendableOf : xOk mX1_lendableOf 1 := ⟨tq1079, rfl, tq3, by decide +kernel, ⟨by decide +kernel, by decide +kernel, by decide +kernel⟩, by decide +kernel⟩
theorem okX1_lapsedOn : xOk mX1_lapsedOn 1 := ⟨tq1091, rfl, tq3, by decide +kernel, ⟨by decide +kernel, by decide +kernel, by decide +kernel⟩, by decide +kernel⟩
theorem okX1_longestValid : xOk mX1_longestValid 1 := ⟨tq1102, rfl, tq3, by decide +kernel, ⟨by decide +kernel, by decide +kernel, by decide +kernel⟩, by decide +kernel⟩
theorem okX1_lastLapse : xOk mX1_lastLapse 1 := ⟨tq1110, rfl, tq3, by decide +kernel, ⟨by decide +kernel, by decide +kernel, by decide +kernel⟩, by decide +kernel⟩
theorem okX1_checksBy : xOk mX1_checksBy 2 := ⟨tq1106, rfl, tq3, by decide +kernel, ⟨by decide +kernel, by decide +kernel, by decide +kernel⟩, by decide +kernel⟩
theorem okX1_isClosed : xOk mX1_isClosed 1 := ⟨tq568, rfl, tq3, by decide +kernel, ⟨by decide +kernel, by decide +kernel, by decide +kernel⟩, by decide +kernel⟩
theorem okX1_isClosedOn : xOk mX1_isClosedOn 2 := ⟨tq1041, rfl, tq3, by decide +kernel, ⟨by decide +kernel, by decide +kernel, by decide +kernel⟩, by decide +kernel⟩
theorem okX1_openOn : xOk mX1_openOn 1 := ⟨tq1037, rfl, tq3, by decide +kernel, ⟨by decide +kernel, by decide +kernel, by decide +kernel⟩, by decide +kernel⟩
theorem okX1_dayWithFewestOpen : xOk mX1_dayWithFewestOpen 1 := ⟨tq1052, rfl, tq3, by decide +kernel, ⟨by decide +kernel, by decide +kernel, by decide +kernel⟩, by decide +kernel⟩
theorem okX1_isAnotherClosedOn : xOk mX1_isAnotherClosedOn 2 := ⟨tq1068, rfl, tq3, by decide +kernel, ⟨by decide +kernel, by decide +kernel, by decide +kernel⟩, by decide +kernel⟩
theorem okX1_leastShift : xOk mX1_leastShift 1 := ⟨tq1064, rfl, tq3, by decide +kernel, ⟨by decide +kernel, by decide +kernel, by decide +kernel⟩, by decide +kernel⟩
theorem okX1_resetWall : xOk mX1_resetWall 1 := ⟨tq805, rfl, tq3, by decide +kernel, ⟨by decide +kernel, by decide +kernel, by decide +kernel⟩, by decide +kernel⟩
theorem okX1_endDay : xOk mX1_endDay 0 := ⟨tq801, rfl, tq3, by decide +kernel, ⟨by decide +kernel, by decide +kernel, by decide +kernel⟩, by decide +kernel⟩
theorem okX1_membersIn : xOk mX1_membersIn 1 := ⟨tq754, rfl, tq3, by decide +kernel, ⟨by decide +kernel, by decide +kernel, by decide +kernel⟩, by decide +kernel⟩
theorem okX1_mayEnroll : xOk mX1_mayEnroll 2 := ⟨tq750, rfl, tq3, by decide +kernel, ⟨by decide +kernel, by decide +kernel, by decide +kernel⟩, by decide +kernel⟩
theorem okX1_endCourse : xOk mX1_endCourse 2 := ⟨tq782, rfl, tq3, by decide +kernel, ⟨by decide +kernel, by decide +kernel, by decide +kernel⟩, by decide +kernel⟩
theorem okX1_leastClimbs : xOk mX1_leastClimbs 1 := ⟨tq1133, rfl, tq3, by decide +kernel, ⟨by decide +kernel, by decide +kernel, by decide +kernel⟩, by decide +kernel⟩
theorem okX2_init : xOk mX2_init 1 := ⟨tq167, rfl, tq7, by decide +kernel, ⟨by decide +kernel, by decide +kernel, by decide +kernel⟩, by decide +kernel⟩
theorem okX2_latestHall : xOk mX2_latestHall 0 := ⟨tq588, rfl, tq7, by decide +kernel, ⟨by decide +kernel, by decide +kernel, by decide +kernel⟩, by decide +kernel⟩
theorem okX2_remember : xOk mX2_remember 1 := ⟨tq583, rfl, tq7, by decide +kernel, ⟨by decide +kernel, by decide +kernel, by decide +kernel⟩, by decide +kernel⟩
theorem okX2_takeBack : xOk mX2_takeBack 1 := ⟨tq818, rfl, tq7, by decide +kernel, ⟨by decide +kernel, by decide +kernel, by decide +kernel⟩, by decide +kernel⟩
theorem okX2_keepCopy : xOk mX2_keepCopy 1 := ⟨tq376, rfl, tq7, by decide +kernel, ⟨by decide +kernel, by decide +kernel, by decide +kernel⟩, by decide +kernel⟩
theorem okX2_bringBackCopy : xOk mX2_bringBackCopy 1 := ⟨tq831, rfl, tq7, by decide +kernel, ⟨by decide +kernel, by decide +kernel, by decide +kernel⟩, by decide +kernel⟩
theorem okX2_forgetAll : xOk mX2_forgetAll 0 := ⟨tq513, rfl, tq7, by decide +kernel, ⟨by decide +kernel, by decide +kernel, by decide +kernel⟩, by decide +kernel⟩
theorem okX3_init : xOk mX3_init 1 := ⟨tq137, rfl, tq6, by decide +kernel, ⟨by decide +kernel, by decide +kernel, by decide +kernel⟩, by decide +kernel⟩
theorem okX3_addBytesOf : xOk mX3_addBytesOf 1 := ⟨tq473, rfl, tq6, by decide +kernel, ⟨by decide +kernel, by decide +kernel, by decide +kernel⟩, by decide +kernel⟩
theorem okX3_byteAt : xOk mX3_byteAt 1 := ⟨tq260, rfl, tq6, by decide +kernel, ⟨by decide +kernel, by decide +kernel, by decide +kernel⟩, by decide +kernel⟩
theorem okX3_isLetter : xOk mX3_isLetter 1 := ⟨tq263, rfl, tq6, by decide +kernel, ⟨by decide +kernel, by decide +kernel, by decide +kernel⟩, by decide +kernel⟩
theorem okX3_isDigit : xOk mX3_isDigit 1 := ⟨tq266, rfl, tq6, by decide +kernel, ⟨by decide +kernel, by decide +kernel, by decide +kernel⟩, by decide +kernel⟩
theorem okX3_readToken : xOk mX3_readToken 0 := ⟨tq256, rfl, tq6, by decide +kernel, ⟨by decide +kernel, by decide +kernel, by decide +kernel⟩, by decide +kernel⟩
theorem okX3_tokenIs : xOk mX3_tokenIs 1 := ⟨tq282, rfl, tq6, by decide +kernel, ⟨by decide +kernel, by decide +kernel, by decide +kernel⟩, by decide +kernel⟩
theorem okX3_wordOf : xOk mX3_wordOf 1 := ⟨tq273, rfl, tq6, by decide +kernel, ⟨by decide +kernel, by decide +kernel, by decide +kernel⟩, by decide +kernel⟩
theorem okX3_kindOfToken : xOk mX3_kindOfToken 0 := ⟨tq270, rfl, tq6, by decide +kernel, ⟨by decide +kernel, by decide +kernel, by decide +kernel⟩, by decide +kernel⟩
theorem okX3_numberOfToken : xOk mX3_numberOfToken 0 := ⟨tq347, rfl, tq6, by decide +kernel, ⟨by decide +kernel, by decide +kernel, by decide +kernel⟩, by decide +kernel⟩
theorem okX3_hasRoomFor : xOk mX3_hasRoomFor 1 := ⟨tq334, rfl, tq6, by decide +kernel, ⟨by decide +kernel, by decide +kernel, by decide +kernel⟩, by decide +kernel⟩
theorem okX3_numbersOf : xOk mX3_numbersOf 1 := ⟨tq338, rfl, tq6, by decide +kernel, ⟨by decide +kernel, by decide +kernel, by decide +kernel⟩, by decide +kernel⟩
theorem okX3_isInRange : xOk mX3_isInRange 3 := ⟨tq350, rfl, tq6, by decide +kernel, ⟨by decide +kernel, by decide +kernel, by decide +kernel⟩, by decide +kernel⟩
theorem okX3_addStatement : xOk mX3_addStatement 1 := ⟨tq358, rfl, tq6, by decide +kernel, ⟨by decide +kernel, by decide +kernel, by decide +kernel⟩, by decide +kernel⟩
theorem okX3_readStatement : xOk mX3_readStatement 0 := ⟨tq252, rfl, tq6, by decide +kernel, ⟨by decide +kernel, by decide +kernel, by decide +kernel⟩, by decide +kernel⟩
theorem okX3_readDraft : xOk mX3_readDraft 0 := ⟨tq236, rfl, tq6, by decide +kernel, ⟨by decide +kernel, by decide +kernel, by decide +kernel⟩, by decide +kernel⟩
theorem okX4_init : xOk mX4_init 2 := ⟨tq65, rfl, tq4, by decide +kernel, ⟨by decide +kernel, by decide +kernel, by decide +kernel⟩, by decide +kernel⟩
theorem okX4_hasRow : xOk mX4_hasRow 1 := ⟨tq551, rfl, tq4, by decide +kernel, ⟨by decide +kernel, by decide +kernel, by decide +kernel⟩, by decide +kernel⟩
theorem okX4_isFull : xOk mX4_isFull 0 := ⟨tq201, rfl, tq4, by decide +kernel, ⟨by decide +kernel, by decide +kernel, by decide +kernel⟩, by decide +kernel⟩
theorem okX4_clear : xOk mX4_clear 0 := ⟨tq244, rfl, tq4, by decide +kernel, ⟨by decide +kernel, by decide +kernel, by decide +kernel⟩, by decide +kernel⟩
theorem okX4_get : xOk mX4_get 2 := ⟨tq572, rfl, tq4, by decide +kernel, ⟨by decide +kernel, by decide +kernel, by decide +kernel⟩, by decide +kernel⟩
theorem okX4_set : xOk mX4_set 3 := ⟨tq205, rfl, tq4, by decide +kernel, ⟨by decide +kernel, by decide +kernel, by decide +kernel⟩, by decide +kernel⟩
theorem okX4_add : xOk mX4_add 3 := ⟨tq678, rfl, tq4, by decide +kernel, ⟨by decide +kernel, by decide +kernel, by decide +kernel⟩, by decide +kernel⟩
theorem okX4_addRow : xOk mX4_addRow 0 := ⟨tq197, rfl, tq4, by decide +kernel, ⟨by decide +kernel, by decide +kernel, by decide +kernel⟩, by decide +kernel⟩
theorem okX4_removeRow : xOk mX4_removeRow 1 := ⟨tq632, rfl, tq4, by decide +kernel, ⟨by decide +kernel, by decide +kernel, by decide +kernel⟩, by decide +kernel⟩
theorem okX4_copyFrom : xOk mX4_copyFrom 1 := ⟨tq384, rfl, tq4, by decide +kernel, ⟨by decide +kernel, by decide +kernel, by decide +kernel⟩, by decide +kernel⟩
theorem okX5_init : xOk mX5_init 0 := ⟨tq28, rfl, tq1, by decide +kernel, ⟨by decide +kernel, by decide +kernel, by decide +kernel⟩, by decide +kernel⟩
theorem okX5_append : xOk mX5_append 5 := ⟨tq396, rfl, tq1, by decide +kernel, ⟨by decide +kernel, by decide +kernel, by decide +kernel⟩, by decide +kernel⟩
theorem okX5_truncate : xOk mX5_truncate 1 := ⟨tq481, rfl, tq1, by decide +kernel, ⟨by decide +kernel, by decide +kernel, by decide +kernel⟩, by decide +kernel⟩
theorem okX5_errorPosition : xOk mX5_errorPosition 0 := ⟨tq232, rfl, tq1, by decide +kernel, ⟨by decide +kernel, by decide +kernel, by decide +kernel⟩, by decide +kernel⟩
theorem okX5_load : xOk mX5_load 0 := ⟨tq507, rfl, tq1, by decide +kernel, ⟨by decide +kernel, by decide +kernel, by decide +kernel⟩, by decide +kernel⟩
theorem okX5_setRoute : xOk mX5_setRoute 2 := ⟨tq544, rfl, tq1, by decide +kernel, ⟨by decide +kernel, by decide +kernel, by decide +kernel⟩, by decide +kernel⟩
theorem okX5_removeRoute : xOk mX5_removeRoute 1 := ⟨tq599, rfl, tq1, by decide +kernel, ⟨by decide +kernel, by decide +kernel, by decide +kernel⟩, by decide +kernel⟩
theorem okX5_climb : xOk mX5_climb 2 := ⟨tq640, rfl, tq1, by decide +kernel, ⟨by decide +kernel, by decide +kernel, by decide +kernel⟩, by decide +kernel⟩
theorem okX5_vote : xOk mX5_vote 3 := ⟨tq686, rfl, tq1, by decide +kernel, ⟨by decide +kernel, by decide +kernel, by decide +kernel⟩, by decide +kernel⟩
theorem okX5_lend : xOk mX5_lend 2 := ⟨tq700, rfl, tq1, by decide +kernel, ⟨by decide +kernel, by decide +kernel, by decide +kernel⟩, by decide +kernel⟩
theorem okX5_giveBack : xOk mX5_giveBack 1 := ⟨tq725, rfl, tq1, by decide +kernel, ⟨by decide +kernel, by decide +kernel, by decide +kernel⟩, by decide +kernel⟩
theorem okX5_check : xOk mX5_check 2 := ⟨tq733, rfl, tq1, by decide +kernel, ⟨by decide +kernel, by decide +kernel, by decide +kernel⟩, by decide +kernel⟩
theorem okX5_enroll : xOk mX5_enroll 2 := ⟨tq746, rfl, tq1, by decide +kernel, ⟨by decide +kernel, by decide +kernel, by decide +kernel⟩, by decide +kernel⟩
theorem okX5_leaveCourse : xOk mX5_leaveCourse 1 := ⟨tq770, rfl, tq1, by decide +kernel, ⟨by decide +kernel, by decide +kernel, by decide +kernel⟩, by decide +kernel⟩
theorem okX5_finish : xOk mX5_finish 2 := ⟨tq778, rfl, tq1, by decide +kernel, ⟨by decide +kernel, by decide +kernel, by decide +kernel⟩, by decide +kernel⟩
theorem okX5_postpone : xOk mX5_postpone 2 := ⟨tq789, rfl, tq1, by decide +kernel, ⟨by decide +kernel, by decide +kernel, by decide +kernel⟩, by decide +kernel⟩
theorem okX5_endDays : xOk mX5_endDays 1 := ⟨tq797, rfl, tq1, by decide +kernel, ⟨by decide +kernel, by decide +kernel, by decide +kernel⟩, by decide +kernel⟩
theorem okX5_undo : xOk mX5_undo 0 := ⟨tq813, rfl, tq1, by decide +kernel, ⟨by decide +kernel, by decide +kernel, by decide +kernel⟩, by decide +kernel⟩
theorem okX5_undoCount : xOk mX5_undoCount 0 := ⟨tq368, rfl, tq1, by decide +kernel, ⟨by decide +kernel, by decide +kernel, by decide +kernel⟩, by decide +kernel⟩
theorem okX5_save : xOk mX5_save 0 := ⟨tq372, rfl, tq1, by decide +kernel, ⟨by decide +kernel, by decide +kernel, by decide +kernel⟩, by decide +kernel⟩
theorem okX5_restore : xOk mX5_restore 0 := ⟨tq826, rfl, tq1, by decide +kernel, ⟨by decide +kernel, by decide +kernel, by decide +kernel⟩, by decide +kernel⟩
theorem okX5_count : xOk mX5_count 1 := ⟨tq838, rfl, tq1, by decide +kernel, ⟨by decide +kernel, by decide +kernel, by decide +kernel⟩, by decide +kernel⟩
theorem okX5_wall : xOk mX5_wall 2 := ⟨tq845, rfl, tq1, by decide +kernel, ⟨by decide +kernel, by decide +kernel, by decide +kernel⟩, by decide +kernel⟩
theorem okX5_route : xOk mX5_route 2 := ⟨tq852, rfl, tq1, by decide +kernel, ⟨by decide +kernel, by decide +kernel, by decide +kernel⟩, by decide +kernel⟩
theorem okX5_archived : xOk mX5_archived 2 := ⟨tq864, rfl, tq1, by decide +kernel, ⟨by decide +kernel, by decide +kernel, by decide +kernel⟩, by decide +kernel⟩
theorem okX5_member : xOk mX5_member 2 := ⟨tq871, rfl, tq1, by decide +kernel, ⟨by decide +kernel, by decide +kernel, by decide +kernel⟩, by decide +kernel⟩
theorem okX5_harness : xOk mX5_harness 2 := ⟨tq878, rfl, tq1, by decide +kernel, ⟨by decide +kernel, by decide +kernel, by decide +kernel⟩, by decide +kernel⟩
theorem okX5_course : xOk mX5_course 2 := ⟨tq886, rfl, tq1, by decide +kernel, ⟨by decide +kernel, by decide +kernel, by decide +kernel⟩, by decide +kernel⟩
theorem okX5_bill : xOk mX5_bill 3 := ⟨tq907, rfl, tq1, by decide +kernel, ⟨by decide +kernel, by decide +kernel, by decide +kernel⟩, by decide +kernel⟩
theorem okX5_grade : xOk mX5_grade 1 := ⟨tq920, rfl, tq1, by decide +kernel, ⟨by decide +kernel, by decide +kernel, by decide +kernel⟩, by decide +kernel⟩
theorem okX5_meanGrade : xOk mX5_meanGrade 2 := ⟨tq927, rfl, tq1, by decide +kernel, ⟨by decide +kernel, by decide +kernel, by decide +kernel⟩, by decide +kernel⟩
theorem okX5_voteOf : xOk mX5_voteOf 2 := ⟨tq939, rfl, tq1, by decide +kernel, ⟨by decide +kernel, by decide +kernel, by decide +kernel⟩, by decide +kernel⟩
theorem okX5_gradeWith : xOk mX5_gradeWith 3 := ⟨tq962, rfl, tq1, by decide +kernel, ⟨by decide +kernel, by decide +kernel, by decide +kernel⟩, by decide +kernel⟩
theorem okX5_votesTo : xOk mX5_votesTo 2 := ⟨tq973, rfl, tq1, by decide +kernel, ⟨by decide +kernel, by decide +kernel, by decide +kernel⟩, by decide +kernel⟩
theorem okX5_disputed : xOk mX5_disputed 0 := ⟨tq981, rfl, tq1, by decide +kernel, ⟨by decide +kernel, by decide +kernel, by decide +kernel⟩, by decide +kernel⟩
theorem okX5_hardest : xOk mX5_hardest 1 := ⟨tq1003, rfl, tq1, by decide +kernel, ⟨by decide +kernel, by decide +kernel, by decide +kernel⟩, by decide +kernel⟩
theorem okX5_climbsLeft : xOk mX5_climbsLeft 1 := ⟨tq1014, rfl, tq1, by decide +kernel, ⟨by decide +kernel, by decide +kernel, by decide +kernel⟩, by decide +kernel⟩
theorem okX5_averageGrade : xOk mX5_averageGrade 0 := ⟨tq1025, rfl, tq1, by decide +kernel, ⟨by decide +kernel, by decide +kernel, by decide +kernel⟩, by decide +kernel⟩
theorem okX5_openWalls : xOk mX5_openWalls 1 := ⟨tq1033, rfl, tq1, by decide +kernel, ⟨by decide +kernel, by decide +kernel, by decide +kernel⟩, by decide +kernel⟩
theorem okX5_worstDay : xOk mX5_worstDay 1 := ⟨tq1048, rfl, tq1, by decide +kernel, ⟨by decide +kernel, by decide +kernel, by decide +kernel⟩, by decide +kernel⟩
theorem okX5_shiftFor : xOk mX5_shiftFor 1 := ⟨tq1060, rfl, tq1, by decide +kernel, ⟨by decide +kernel, by decide +kernel, by decide +kernel⟩, by decide +kernel⟩
theorem okX5_lendable : xOk mX5_lendable 1 := ⟨tq1075, rfl, tq1, by decide +kernel, ⟨by decide +kernel, by decide +kernel, by decide +kernel⟩, by decide +kernel⟩
theorem okX5_lapsing : xOk mX5_lapsing 1 := ⟨tq1087, rfl, tq1, by decide +kernel, ⟨by decide +kernel, by decide +kernel, by decide +kernel⟩, by decide +kernel⟩
theorem okX5_checksNeeded : xOk mX5_checksNeeded 2 := ⟨tq1098, rfl, tq1, by decide +kernel, ⟨by decide +kernel, by decide +kernel, by decide +kernel⟩, by decide +kernel⟩
theorem okX5_allowedRoutes : xOk mX5_allowedRoutes 1 := ⟨tq1117, rfl, tq1, by decide +kernel, ⟨by decide +kernel, by decide +kernel, by decide +kernel⟩, by decide +kernel⟩
theorem okX5_ladder : xOk mX5_ladder 2 := ⟨tq1129, rfl, tq1, by decide +kernel, ⟨by decide +kernel, by decide +kernel, by decide +kernel⟩, by decide +kernel⟩
theorem okX5_needRow : xOk mX5_needRow 2 := ⟨tq547, rfl, tq1, by decide +kernel, ⟨by decide +kernel, by decide +kernel, by decide +kernel⟩, by decide +kernel⟩
theorem okX5_needBetween : xOk mX5_needBetween 3 := ⟨tq484, rfl, tq1, by decide +kernel, ⟨by decide +kernel, by decide +kernel, by decide +kernel⟩, by decide +kernel⟩
theorem okX5_needInt : xOk mX5_needInt 1 := ⟨tq910, rfl, tq1, by decide +kernel, ⟨by decide +kernel, by decide +kernel, by decide +kernel⟩, by decide +kernel⟩
theorem okX5_needFound : xOk mX5_needFound 1 := ⟨tq995, rfl, tq1, by decide +kernel, ⟨by decide +kernel, by decide +kernel, by decide +kernel⟩, by decide +kernel⟩
theorem okX5_bytesIn : xOk mX5_bytesIn 1 := ⟨tq399, rfl, tq1, by decide +kernel, ⟨by decide +kernel, by decide +kernel, by decide +kernel⟩, by decide +kernel⟩
theorem okX6_init : xOk mX6_init 0 := ⟨tq1139, rfl, tq8, by decide +kernel, ⟨by decide +kernel, by decide +kernel, by decide +kernel⟩, by decide +kernel⟩
theorem okX6_thrown : xOk mX6_thrown 0 := ⟨tq1229, rfl, tq8, by decide +kernel, ⟨by decide +kernel, by decide +kernel, by decide +kernel⟩, by decide +kernel⟩
theorem okX6_in : xOk mX6_in 3 := ⟨tq1247, rfl, tq8, by decide +kernel, ⟨by decide +kernel, by decide +kernel, by decide +kernel⟩, by decide +kernel⟩
theorem okX6_fails : xOk mX6_fails 2 := ⟨tq1240, rfl, tq8, by decide +kernel, ⟨by decide +kernel, by decide +kernel, by decide +kernel⟩, by decide +kernel⟩
theorem okX6_has : xOk mX6_has 2 := ⟨tq1444, rfl, tq8, by decide +kernel, ⟨by decide +kernel, by decide +kernel, by decide +kernel⟩, by decide +kernel⟩
theorem okX6_bits : xOk mX6_bits 1 := ⟨tq1495, rfl, tq8, by decide +kernel, ⟨by decide +kernel, by decide +kernel, by decide +kernel⟩, by decide +kernel⟩
theorem okX6_byteOf : xOk mX6_byteOf 6 := ⟨tq1236, rfl, tq8, by decide +kernel, ⟨by decide +kernel, by decide +kernel, by decide +kernel⟩, by decide +kernel⟩
theorem okX6_append : xOk mX6_append 5 := ⟨tq1233, rfl, tq8, by decide +kernel, ⟨by decide +kernel, by decide +kernel, by decide +kernel⟩, by decide +kernel⟩
theorem okX6_truncate : xOk mX6_truncate 1 := ⟨tq1244, rfl, tq8, by decide +kernel, ⟨by decide +kernel, by decide +kernel, by decide +kernel⟩, by decide +kernel⟩
theorem okX6_peek : xOk mX6_peek 1 := ⟨tq1263, rfl, tq8, by decide +kernel, ⟨by decide +kernel, by decide +kernel, by decide +kernel⟩, by decide +kernel⟩
theorem okX6_isLetter : xOk mX6_isLetter 1 := ⟨tq1266, rfl, tq8, by decide +kernel, ⟨by decide +kernel, by decide +kernel, by decide +kernel⟩, by decide +kernel⟩
theorem okX6_isDigit : xOk mX6_isDigit 1 := ⟨tq1269, rfl, tq8, by decide +kernel, ⟨by decide +kernel, by decide +kernel, by decide +kernel⟩, by decide +kernel⟩
theorem okX6_step : xOk mX6_step 0 := ⟨tq1259, rfl, tq8, by decide +kernel, ⟨by decide +kernel, by decide +kernel, by decide +kernel⟩, by decide +kernel⟩
theorem okX6_fail : xOk mX6_fail 0 := ⟨tq1293, rfl, tq8, by decide +kernel, ⟨by decide +kernel, by decide +kernel, by decide +kernel⟩, by decide +kernel⟩
theorem okX6_isGood : xOk mX6_isGood 0 := ⟨tq1287, rfl, tq8, by decide +kernel, ⟨by decide +kernel, by decide +kernel, by decide +kernel⟩, by decide +kernel⟩
theorem okX6_isWord : xOk mX6_isWord 1 := ⟨tq1283, rfl, tq8, by decide +kernel, ⟨by decide +kernel, by decide +kernel, by decide +kernel⟩, by decide +kernel⟩
theorem okX6_takeNumber : xOk mX6_takeNumber 2 := ⟨tq1297, rfl, tq8, by decide +kernel, ⟨by decide +kernel, by decide +kernel, by decide +kernel⟩, by decide +kernel⟩
theorem okX6_begin : xOk mX6_begin 0 := ⟨tq1144, rfl, tq8, by decide +kernel, ⟨by decide +kernel, by decide +kernel, by decide +kernel⟩, by decide +kernel⟩
theorem okX6_readWall : xOk mX6_readWall 3 := ⟨tq1148, rfl, tq8, by decide +kernel, ⟨by decide +kernel, by decide +kernel, by decide +kernel⟩, by decide +kernel⟩
theorem okX6_readHarness : xOk mX6_readHarness 2 := ⟨tq1152, rfl, tq8, by decide +kernel, ⟨by decide +kernel, by decide +kernel, by decide +kernel⟩, by decide +kernel⟩
theorem okX6_readMember : xOk mX6_readMember 2 := ⟨tq1156, rfl, tq8, by decide +kernel, ⟨by decide +kernel, by decide +kernel, by decide +kernel⟩, by decide +kernel⟩
theorem okX6_readCourse : xOk mX6_readCourse 3 := ⟨tq1160, rfl, tq8, by decide +kernel, ⟨by decide +kernel, by decide +kernel, by decide +kernel⟩, by decide +kernel⟩
theorem okX6_begins : xOk mX6_begins 2 := ⟨tq1279, rfl, tq8, by decide +kernel, ⟨by decide +kernel, by decide +kernel, by decide +kernel⟩, by decide +kernel⟩
theorem okX6_readStatement : xOk mX6_readStatement 0 := ⟨tq1274, rfl, tq8, by decide +kernel, ⟨by decide +kernel, by decide +kernel, by decide +kernel⟩, by decide +kernel⟩
theorem okX6_parse : xOk mX6_parse 0 := ⟨tq1255, rfl, tq8, by decide +kernel, ⟨by decide +kernel, by decide +kernel, by decide +kernel⟩, by decide +kernel⟩
theorem okX6_errorPosition : xOk mX6_errorPosition 0 := ⟨tq1251, rfl, tq8, by decide +kernel, ⟨by decide +kernel, by decide +kernel, by decide +kernel⟩, by decide +kernel⟩
theorem okX6_takeRead : xOk mX6_takeRead 0 := ⟨tq1164, rfl, tq8, by decide +kernel, ⟨by decide +kernel, by decide +kernel, by decide +kernel⟩, by decide +kernel⟩
theorem okX6_load : xOk mX6_load 0 := ⟨tq1305, rfl, tq8, by decide +kernel, ⟨by decide +kernel, by decide +kernel, by decide +kernel⟩, by decide +kernel⟩
theorem okX6_record : xOk mX6_record 0 := ⟨tq1353, rfl, tq8, by decide +kernel, ⟨by decide +kernel, by decide +kernel, by decide +kernel⟩, by decide +kernel⟩
theorem okX6_undo : xOk mX6_undo 0 := ⟨tq1309, rfl, tq8, by decide +kernel, ⟨by decide +kernel, by decide +kernel, by decide +kernel⟩, by decide +kernel⟩
theorem okX6_undoCount : xOk mX6_undoCount 0 := ⟨tq1313, rfl, tq8, by decide +kernel, ⟨by decide +kernel, by decide +kernel, by decide +kernel⟩, by decide +kernel⟩
theorem okX6_save : xOk mX6_save 0 := ⟨tq1317, rfl, tq8, by decide +kernel, ⟨by decide +kernel, by decide +kernel, by decide +kernel⟩, by decide +kernel⟩
theorem okX6_restore : xOk mX6_restore 0 := ⟨tq1321, rfl, tq8, by decide +kernel, ⟨by decide +kernel, by decide +kernel, by decide +kernel⟩, by decide +kernel⟩
theorem okX6_isWall : xOk mX6_isWall 1 := ⟨tq1329, rfl, tq8, by decide +kernel, ⟨by decide +kernel, by decide +kernel, by decide +kernel⟩, by decide +kernel⟩
theorem okX6_isRoute : xOk mX6_isRoute 1 := ⟨tq1361, rfl, tq8, by decide +kernel, ⟨by decide +kernel, by decide +kernel, by decide +kernel⟩, by decide +kernel⟩
theorem okX6_isHarness : xOk mX6_isHarness 1 := ⟨tq1452, rfl, tq8, by decide +kernel, ⟨by decide +kernel, by decide +kernel, by decide +kernel⟩, by decide +kernel⟩
theorem okX6_isMember : xOk mX6_isMember 1 := ⟨tq1405, rfl, tq8, by decide +kernel, ⟨by decide +kernel, by decide +kernel, by decide +kernel⟩, by decide +kernel⟩
theorem okX6_isCourse : xOk mX6_isCourse 1 := ⟨tq1480, rfl, tq8, by decide +kernel, ⟨by decide +kernel, by decide +kernel, by decide +kernel⟩, by decide +kernel⟩
theorem okX6_isGrade : xOk mX6_isGrade 1 := ⟨tq1332, rfl, tq8, by decide +kernel, ⟨by decide +kernel, by decide +kernel, by decide +kernel⟩, by decide +kernel⟩
theorem okX6_wallPart : xOk mX6_wallPart 2 := ⟨tq1341, rfl, tq8, by decide +kernel, ⟨by decide +kernel, by decide +kernel, by decide +kernel⟩, by decide +kernel⟩
theorem okX6_routePart : xOk mX6_routePart 2 := ⟨tq1349, rfl, tq8, by decide +kernel, ⟨by decide +kernel, by decide +kernel, by decide +kernel⟩, by decide +kernel⟩
theorem okX6_harnessPart : xOk mX6_harnessPart 2 := ⟨tq1425, rfl, tq8, by decide +kernel, ⟨by decide +kernel, by decide +kernel, by decide +kernel⟩, by decide +kernel⟩
theorem okX6_memberPart : xOk mX6_memberPart 2 := ⟨tq1413, rfl, tq8, by decide +kernel, ⟨by decide +kernel, by decide +kernel, by decide +kernel⟩, by decide +kernel⟩
theorem okX6_coursePart : xOk mX6_coursePart 2 := ⟨tq1488, rfl, tq8, by decide +kernel, ⟨by decide +kernel, by decide +kernel, by decide +kernel⟩, by decide +kernel⟩
theorem okX6_setMember : xOk mX6_setMember 3 := ⟨tq1437, rfl, tq8, by decide +kernel, ⟨by decide +kernel, by decide +kernel, by decide +kernel⟩, by decide +kernel⟩
theorem okX6_setHarness : xOk mX6_setHarness 3 := ⟨tq1464, rfl, tq8, by decide +kernel, ⟨by decide +kernel, by decide +kernel, by decide +kernel⟩, by decide +kernel⟩
theorem okX6_cast : xOk mX6_cast 2 := ⟨tq1381, rfl, tq8, by decide +kernel, ⟨by decide +kernel, by decide +kernel, by decide +kernel⟩, by decide +kernel⟩
theorem okX6_layBallot : xOk mX6_layBallot 1 := ⟨tq1377, rfl, tq8, by decide +kernel, ⟨by decide +kernel, by decide +kernel, by decide +kernel⟩, by decide +kernel⟩
theorem okX6_dropped : xOk mX6_dropped 3 := ⟨tq1388, rfl, tq8, by decide +kernel, ⟨by decide +kernel, by decide +kernel, by decide +kernel⟩, by decide +kernel⟩
theorem okX6_trim : xOk mX6_trim 0 := ⟨tq1385, rfl, tq8, by decide +kernel, ⟨by decide +kernel, by decide +kernel, by decide +kernel⟩, by decide +kernel⟩
theorem okX6_layMean : xOk mX6_layMean 3 := ⟨tq1373, rfl, tq8, by decide +kernel, ⟨by decide +kernel, by decide +kernel, by decide +kernel⟩, by decide +kernel⟩
theorem okX6_gradeOf : xOk mX6_gradeOf 1 := ⟨tq1365, rfl, tq8, by decide +kernel, ⟨by decide +kernel, by decide +kernel, by decide +kernel⟩, by decide +kernel⟩
theorem okX6_gradeBy : xOk mX6_gradeBy 3 := ⟨tq1369, rfl, tq8, by decide +kernel, ⟨by decide +kernel, by decide +kernel, by decide +kernel⟩, by decide +kernel⟩
theorem okX6_isClosed : xOk mX6_isClosed 1 := ⟨tq1337, rfl, tq8, by decide +kernel, ⟨by decide +kernel, by decide +kernel, by decide +kernel⟩, by decide +kernel⟩
theorem okX6_onWall : xOk mX6_onWall 1 := ⟨tq1345, rfl, tq8, by decide +kernel, ⟨by decide +kernel, by decide +kernel, by decide +kernel⟩, by decide +kernel⟩
theorem okX6_lapse : xOk mX6_lapse 1 := ⟨tq1429, rfl, tq8, by decide +kernel, ⟨by decide +kernel, by decide +kernel, by decide +kernel⟩, by decide +kernel⟩
theorem okX6_isRetired : xOk mX6_isRetired 1 := ⟨tq1421, rfl, tq8, by decide +kernel, ⟨by decide +kernel, by decide +kernel, by decide +kernel⟩, by decide +kernel⟩
theorem okX6_isLent : xOk mX6_isLent 1 := ⟨tq1460, rfl, tq8, by decide +kernel, ⟨by decide +kernel, by decide +kernel, by decide +kernel⟩, by decide +kernel⟩
theorem okX6_isInForce : xOk mX6_isInForce 2 := ⟨tq1417, rfl, tq8, by decide +kernel, ⟨by decide +kernel, by decide +kernel, by decide +kernel⟩, by decide +kernel⟩
theorem okX6_isWorn : xOk mX6_isWorn 1 := ⟨tq1433, rfl, tq8, by decide +kernel, ⟨by decide +kernel, by decide +kernel, by decide +kernel⟩, by decide +kernel⟩
theorem okX6_mayClimb : xOk mX6_mayClimb 2 := ⟨tq1409, rfl, tq8, by decide +kernel, ⟨by decide +kernel, by decide +kernel, by decide +kernel⟩, by decide +kernel⟩
theorem okX6_setRoute : xOk mX6_setRoute 2 := ⟨tq1325, rfl, tq8, by decide +kernel, ⟨by decide +kernel, by decide +kernel, by decide +kernel⟩, by decide +kernel⟩
theorem okX6_archive : xOk mX6_archive 1 := ⟨tq1397, rfl, tq8, by decide +kernel, ⟨by decide +kernel, by decide +kernel, by decide +kernel⟩, by decide +kernel⟩
theorem okX6_takeOff : xOk mX6_takeOff 1 := ⟨tq1393, rfl, tq8, by decide +kernel, ⟨by decide +kernel, by decide +kernel, by decide +kernel⟩, by decide +kernel⟩
theorem okX6_removeRoute : xOk mX6_removeRoute 1 := ⟨tq1357, rfl, tq8, by decide +kernel, ⟨by decide +kernel, by decide +kernel, by decide +kernel⟩, by decide +kernel⟩
theorem okX6_climb : xOk mX6_climb 2 := ⟨tq1401, rfl, tq8, by decide +kernel, ⟨by decide +kernel, by decide +kernel, by decide +kernel⟩, by decide +kernel⟩
theorem okX6_vote : xOk mX6_vote 3 := ⟨tq1441, rfl, tq8, by decide +kernel, ⟨by decide +kernel, by decide +kernel, by decide +kernel⟩, by decide +kernel⟩
theorem okX6_mayLend : xOk mX6_mayLend 2 := ⟨tq1456, rfl, tq8, by decide +kernel, ⟨by decide +kernel, by decide +kernel, by decide +kernel⟩, by decide +kernel⟩
theorem okX6_lend : xOk mX6_lend 2 := ⟨tq1448, rfl, tq8, by decide +kernel, ⟨by decide +kernel, by decide +kernel, by decide +kernel⟩, by decide +kernel⟩
theorem okX6_giveBack : xOk mX6_giveBack 1 := ⟨tq1468, rfl, tq8, by decide +kernel, ⟨by decide +kernel, by decide +kernel, by decide +kernel⟩, by decide +kernel⟩
theorem okX6_check : xOk mX6_check 2 := ⟨tq1472, rfl, tq8, by decide +kernel, ⟨by decide +kernel, by decide +kernel, by decide +kernel⟩, by decide +kernel⟩
theorem okX6_inCourse : xOk mX6_inCourse 1 := ⟨tq1492, rfl, tq8, by decide +kernel, ⟨by decide +kernel, by decide +kernel, by decide +kernel⟩, by decide +kernel⟩
theorem okX6_mayEnroll : xOk mX6_mayEnroll 2 := ⟨tq1484, rfl, tq8, by decide +kernel, ⟨by decide +kernel, by decide +kernel, by decide +kernel⟩, by decide +kernel⟩
theorem okX6_enroll : xOk mX6_enroll 2 := ⟨tq1476, rfl, tq8, by decide +kernel, ⟨by decide +kernel, by decide +kernel, by decide +kernel⟩, by decide +kernel⟩
theorem okX6_leaveCourse : xOk mX6_leaveCourse 1 := ⟨tq1499, rfl, tq8, by decide +kernel, ⟨by decide +kernel, by decide +kernel, by decide +kernel⟩, by decide +kernel⟩
theorem okX6_finish : xOk mX6_finish 2 := ⟨tq1503, rfl, tq8, by decide +kernel, ⟨by decide +kernel, by decide +kernel, by decide +kernel⟩, by decide +kernel⟩
theorem okX6_postpone : xOk mX6_postpone 2 := ⟨tq1507, rfl, tq8, by decide +kernel, ⟨by decide +kernel, by decide +kernel, by decide +kernel⟩, by decide +kernel⟩
theorem okX6_reset : xOk mX6_reset 1 := ⟨tq1521, rfl, tq8, by decide +kernel, ⟨by decide +kernel, by decide +kernel, by decide +kernel⟩, by decide +kernel⟩
theorem okX6_endDay : xOk mX6_endDay 0 := ⟨tq1517, rfl, tq8, by decide +kernel, ⟨by decide +kernel, by decide +kernel, by decide +kernel⟩, by decide +kernel⟩
theorem okX6_endDays : xOk mX6_endDays 1 := ⟨tq1512, rfl, tq8, by decide +kernel, ⟨by decide +kernel, by decide +kernel, by decide +kernel⟩, by decide +kernel⟩
theorem okX6_count : xOk mX6_count 1 := ⟨tq1525, rfl, tq8, by decide +kernel, ⟨by decide +kernel, by decide +kernel, by decide +kernel⟩, by decide +kernel⟩
theorem okX6_wall : xOk mX6_wall 2 := ⟨tq1529, rfl, tq8, by decide +kernel, ⟨by decide +kernel, by decide +kernel, by decide +kernel⟩, by decide +kernel⟩
theorem okX6_votesOf : xOk mX6_votesOf 1 := ⟨tq1539, rfl, tq8, by decide +kernel, ⟨by decide +kernel, by decide +kernel, by decide +kernel⟩, by decide +kernel⟩
theorem okX6_route : xOk mX6_route 2 := ⟨tq1534, rfl, tq8, by decide +kernel, ⟨by decide +kernel, by decide +kernel, by decide +kernel⟩, by decide +kernel⟩
theorem okX6_archived : xOk mX6_archived 2 := ⟨tq1543, rfl, tq8, by decide +kernel, ⟨by decide +kernel, by decide +kernel, by decide +kernel⟩, by decide +kernel⟩
theorem okX6_member : xOk mX6_member 2 := ⟨tq1548, rfl, tq8, by decide +kernel, ⟨by decide +kernel, by decide +kernel, by decide +kernel⟩, by decide +kernel⟩
theorem okX6_harness : xOk mX6_harness 2 := ⟨tq1552, rfl, tq8, by decide +kernel, ⟨by decide +kernel, by decide +kernel, by decide +kernel⟩, by decide +kernel⟩
theorem okX6_course : xOk mX6_course 2 := ⟨tq1556, rfl, tq8, by decide +kernel, ⟨by decide +kernel, by decide +kernel, by decide +kernel⟩, by decide +kernel⟩
theorem okX6_isInt : xOk mX6_isInt 1 := ⟨tq1563, rfl, tq8, by decide +kernel, ⟨by decide +kernel, by decide +kernel, by decide +kernel⟩, by decide +kernel⟩
theorem okX6_bill : xOk mX6_bill 3 := ⟨tq1560, rfl, tq8, by decide +kernel, ⟨by decide +kernel, by decide +kernel, by decide +kernel⟩, by decide +kernel⟩
theorem okX6_grade : xOk mX6_grade 1 := ⟨tq1569, rfl, tq8, by decide +kernel, ⟨by decide +kernel, by decide +kernel, by decide +kernel⟩, by decide +kernel⟩
theorem okX6_common : xOk mX6_common 2 := ⟨tq1576, rfl, tq8, by decide +kernel, ⟨by decide +kernel, by decide +kernel, by decide +kernel⟩, by decide +kernel⟩
theorem okX6_meanGrade : xOk mX6_meanGrade 2 := ⟨tq1573, rfl, tq8, by decide +kernel, ⟨by decide +kernel, by decide +kernel, by decide +kernel⟩, by decide +kernel⟩
theorem okX6_voteOf : xOk mX6_voteOf 2 := ⟨tq1580, rfl, tq8, by decide +kernel, ⟨by decide +kernel, by decide +kernel, by decide +kernel⟩, by decide +kernel⟩
theorem okX6_gradeWith : xOk mX6_gradeWith 3 := ⟨tq1584, rfl, tq8, by decide +kernel, ⟨by decide +kernel, by decide +kernel, by decide +kernel⟩, by decide +kernel⟩
theorem okX6_votesTo : xOk mX6_votesTo 2 := ⟨tq1589, rfl, tq8, by decide +kernel, ⟨by decide +kernel, by decide +kernel, by decide +kernel⟩, by decide +kernel⟩
theorem okX6_spread : xOk mX6_spread 1 := ⟨tq1597, rfl, tq8, by decide +kernel, ⟨by decide +kernel, by decide +kernel, by decide +kernel⟩, by decide +kernel⟩
theorem okX6_disputed : xOk mX6_disputed 0 := ⟨tq1593, rfl, tq8, by decide +kernel, ⟨by decide +kernel, by decide +kernel, by decide +kernel⟩, by decide +kernel⟩
theorem okX6_hardest : xOk mX6_hardest 1 := ⟨tq1601, rfl, tq8, by decide +kernel, ⟨by decide +kernel, by decide +kernel, by decide +kernel⟩, by decide +kernel⟩
theorem okX6_climbsLeft : xOk mX6_climbsLeft 1 := ⟨tq1605, rfl, tq8, by decide +kernel, ⟨by decide +kernel, by decide +kernel, by decide +kernel⟩, by decide +kernel⟩
theorem okX6_averageGrade : xOk mX6_averageGrade 0 := ⟨tq1609, rfl, tq8, by decide +kernel, ⟨by decide +kernel, by decide +kernel, by decide +kernel⟩, by decide +kernel⟩
theorem okX6_isClosedOn : xOk mX6_isClosedOn 2 := ⟨tq1622, rfl, tq8, by decide +kernel, ⟨by decide +kernel, by decide +kernel, by decide +kernel⟩, by decide +kernel⟩
theorem okX6_openOn : xOk mX6_openOn 1 := ⟨tq1618, rfl, tq8, by decide +kernel, ⟨by decide +kernel, by decide +kernel, by decide +kernel⟩, by decide +kernel⟩
theorem okX6_openWalls : xOk mX6_openWalls 1 := ⟨tq1613, rfl, tq8, by decide +kernel, ⟨by decide +kernel, by decide +kernel, by decide +kernel⟩, by decide +kernel⟩
theorem okX6_worstDay : xOk mX6_worstDay 1 := ⟨tq1626, rfl, tq8, by decide +kernel, ⟨by decide +kernel, by decide +kernel, by decide +kernel⟩, by decide +kernel⟩
theorem okX6_isAlone : xOk mX6_isAlone 2 := ⟨tq1635, rfl, tq8, by decide +kernel, ⟨by decide +kernel, by decide +kernel, by decide +kernel⟩, by decide +kernel⟩
theorem okX6_shiftFor : xOk mX6_shiftFor 1 := ⟨tq1631, rfl, tq8, by decide +kernel, ⟨by decide +kernel, by decide +kernel, by decide +kernel⟩, by decide +kernel⟩
theorem okX6_lendable : xOk mX6_lendable 1 := ⟨tq1639, rfl, tq8, by decide +kernel, ⟨by decide +kernel, by decide +kernel, by decide +kernel⟩, by decide +kernel⟩
theorem okX6_lapsing : xOk mX6_lapsing 1 := ⟨tq1643, rfl, tq8, by decide +kernel, ⟨by decide +kernel, by decide +kernel, by decide +kernel⟩, by decide +kernel⟩
theorem okX6_isOfUse : xOk mX6_isOfUse 2 := ⟨tq1655, rfl, tq8, by decide +kernel, ⟨by decide +kernel, by decide +kernel, by decide +kernel⟩, by decide +kernel⟩
theorem okX6_longest : xOk mX6_longest 1 := ⟨tq1651, rfl, tq8, by decide +kernel, ⟨by decide +kernel, by decide +kernel, by decide +kernel⟩, by decide +kernel⟩
theorem okX6_isSome : xOk mX6_isSome 2 := ⟨tq1659, rfl, tq8, by decide +kernel, ⟨by decide +kernel, by decide +kernel, by decide +kernel⟩, by decide +kernel⟩
theorem okX6_checksNeeded : xOk mX6_checksNeeded 2 := ⟨tq1647, rfl, tq8, by decide +kernel, ⟨by decide +kernel, by decide +kernel, by decide +kernel⟩, by decide +kernel⟩
theorem okX6_allowedRoutes : xOk mX6_allowedRoutes 1 := ⟨tq1663, rfl, tq8, by decide +kernel, ⟨by decide +kernel, by decide +kernel, by decide +kernel⟩, by decide +kernel⟩
theorem okX6_needOf : xOk mX6_needOf 1 := ⟨tq1671, rfl, tq8, by decide +kernel, ⟨by decide +kernel, by decide +kernel, by decide +kernel⟩, by decide +kernel⟩
theorem okX6_ladder : xOk mX6_ladder 2 := ⟨tq1667, rfl, tq8, by decide +kernel, ⟨by decide +kernel, by decide +kernel, by decide +kernel⟩, by decide +kernel⟩
theorem okJ6_bitCount_0f7a4 : xOk mJ6_bitCount_0f7a4 1 := ⟨tq757, rfl, tq21, by decide +kernel, ⟨by decide +kernel, by decide +kernel, by decide +kernel⟩, by decide +kernel⟩
theorem okJ0_length_8abf5 : xOk mJ0_length_8abf5 0 := ⟨tq286, rfl, tq14, by decide +kernel, ⟨by decide +kernel, by decide +kernel, by decide +kernel⟩, by decide +kernel⟩
theorem okJ0_charAt_5068e : xOk mJ0_charAt_5068e 1 := ⟨tq296, rfl, tq14, by decide +kernel, ⟨by decide +kernel, by decide +kernel, by decide +kernel⟩, by decide +kernel⟩
theorem okJ0_coder_7d493 : xOk mJ0_coder_7d493 0 := ⟨tq290, rfl, tq14, by decide +kernel, ⟨by decide +kernel, by decide +kernel, by decide +kernel⟩, by decide +kernel⟩
theorem okJ0_isLatin1_aae02 : xOk mJ0_isLatin1_aae02 0 := ⟨tq300, rfl, tq14, by decide +kernel, ⟨by decide +kernel, by decide +kernel, by decide +kernel⟩, by decide +kernel⟩
theorem okJ0_checkIndex_df160 : xOk mJ0_checkIndex_df160 2 := ⟨tq306, rfl, tq14, by decide +kernel, ⟨by decide +kernel, by decide +kernel, by decide +kernel⟩, by decide +kernel⟩
theorem okJ1_charAt_3b067 : xOk mJ1_charAt_3b067 2 := ⟨tq303, rfl, tq15, by decide +kernel, ⟨by decide +kernel, by decide +kernel, by decide +kernel⟩, by decide +kernel⟩
theorem okJ2_getChar_3b067 : xOk mJ2_getChar_3b067 2 := ⟨tq324, rfl, tq17, by decide +kernel, ⟨by decide +kernel, by decide +kernel, by decide +kernel⟩, by decide +kernel⟩
theorem okJ2_length_9d52b : xOk mJ2_length_9d52b 1 := ⟨tq320, rfl, tq17, by decide +kernel, ⟨by decide +kernel, by decide +kernel, by decide +kernel⟩, by decide +kernel⟩
theorem okJ2_charAt_3b067 : xOk mJ2_charAt_3b067 2 := ⟨tq314, rfl, tq17, by decide +kernel, ⟨by decide +kernel, by decide +kernel, by decide +kernel⟩, by decide +kernel⟩
theorem okJ2_checkIndex_2214a : xOk mJ2_checkIndex_2214a 2 := ⟨tq317, rfl, tq17, by decide +kernel, ⟨by decide +kernel, by decide +kernel, by decide +kernel⟩, by decide +kernel⟩
theorem okJ3_checkIndex_8e157 : xOk mJ3_checkIndex_8e157 3 := ⟨tq311, rfl, tq16, by decide +kernel, ⟨by decide +kernel, by decide +kernel, by decide +kernel⟩, by decide +kernel⟩
theorem okL_append : xOk mL_append 7 := ⟨tq391, rfl, tq0, by decide +kernel, ⟨by decide +kernel, by decide +kernel, by decide +kernel⟩, by decide +kernel⟩
theorem okL_truncate : xOk mL_truncate 3 := ⟨tq476, rfl, tq0, by decide +kernel, ⟨by decide +kernel, by decide +kernel, by decide +kernel⟩, by decide +kernel⟩
theorem okL_load : xOk mL_load 2 := ⟨tq503, rfl, tq0, by decide +kernel, ⟨by decide +kernel, by decide +kernel, by decide +kernel⟩, by decide +kernel⟩
theorem okL_setRoute : xOk mL_setRoute 4 := ⟨tq516, rfl, tq0, by decide +kernel, ⟨by decide +kernel, by decide +kernel, by decide +kernel⟩, by decide +kernel⟩
theorem okL_removeRoute : xOk mL_removeRoute 3 := ⟨tq595, rfl, tq0, by decide +kernel, ⟨by decide +kernel, by decide +kernel, by decide +kernel⟩, by decide +kernel⟩
theorem okL_climb : xOk mL_climb 4 := ⟨tq636, rfl, tq0, by decide +kernel, ⟨by decide +kernel, by decide +kernel, by decide +kernel⟩, by decide +kernel⟩
theorem okL_vote : xOk mL_vote 5 := ⟨tq682, rfl, tq0, by decide +kernel, ⟨by decide +kernel, by decide +kernel, by decide +kernel⟩, by decide +kernel⟩
theorem okL_lend : xOk mL_lend 4 := ⟨tq696, rfl, tq0, by decide +kernel, ⟨by decide +kernel, by decide +kernel, by decide +kernel⟩, by decide +kernel⟩
theorem okL_giveBack : xOk mL_giveBack 3 := ⟨tq721, rfl, tq0, by decide +kernel, ⟨by decide +kernel, by decide +kernel, by decide +kernel⟩, by decide +kernel⟩
theorem okL_check : xOk mL_check 4 := ⟨tq729, rfl, tq0, by decide +kernel, ⟨by decide +kernel, by decide +kernel, by decide +kernel⟩, by decide +kernel⟩
theorem okL_enroll : xOk mL_enroll 4 := ⟨tq742, rfl, tq0, by decide +kernel, ⟨by decide +kernel, by decide +kernel, by decide +kernel⟩, by decide +kernel⟩
theorem okL_leaveCourse : xOk mL_leaveCourse 3 := ⟨tq766, rfl, tq0, by decide +kernel, ⟨by decide +kernel, by decide +kernel, by decide +kernel⟩, by decide +kernel⟩
theorem okL_finish : xOk mL_finish 4 := ⟨tq774, rfl, tq0, by decide +kernel, ⟨by decide +kernel, by decide +kernel, by decide +kernel⟩, by decide +kernel⟩
theorem okL_postpone : xOk mL_postpone 4 := ⟨tq785, rfl, tq0, by decide +kernel, ⟨by decide +kernel, by decide +kernel, by decide +kernel⟩, by decide +kernel⟩
theorem okL_endDays : xOk mL_endDays 3 := ⟨tq793, rfl, tq0, by decide +kernel, ⟨by decide +kernel, by decide +kernel, by decide +kernel⟩, by decide +kernel⟩
theorem okL_undo : xOk mL_undo 2 := ⟨tq809, rfl, tq0, by decide +kernel, ⟨by decide +kernel, by decide +kernel, by decide +kernel⟩, by decide +kernel⟩
theorem okL_restore : xOk mL_restore 2 := ⟨tq822, rfl, tq0, by decide +kernel, ⟨by decide +kernel, by decide +kernel, by decide +kernel⟩, by decide +kernel⟩
theorem okL_count : xOk mL_count 3 := ⟨tq834, rfl, tq0, by decide +kernel, ⟨by decide +kernel, by decide +kernel, by decide +kernel⟩, by decide +kernel⟩
theorem okL_wall : xOk mL_wall 4 := ⟨tq841, rfl, tq0, by decide +kernel, ⟨by decide +kernel, by decide +kernel, by decide +kernel⟩, by decide +kernel⟩
theorem okL_route : xOk mL_route 4 := ⟨tq848, rfl, tq0, by decide +kernel, ⟨by decide +kernel, by decide +kernel, by decide +kernel⟩, by decide +kernel⟩
theorem okL_archived : xOk mL_archived 4 := ⟨tq860, rfl, tq0, by decide +kernel, ⟨by decide +kernel, by decide +kernel, by decide +kernel⟩, by decide +kernel⟩
theorem okL_member : xOk mL_member 4 := ⟨tq867, rfl, tq0, by decide +kernel, ⟨by decide +kernel, by decide +kernel, by decide +kernel⟩, by decide +kernel⟩
theorem okL_harness : xOk mL_harness 4 := ⟨tq874, rfl, tq0, by decide +kernel, ⟨by decide +kernel, by decide +kernel, by decide +kernel⟩, by decide +kernel⟩
theorem okL_course : xOk mL_course 4 := ⟨tq882, rfl, tq0, by decide +kernel, ⟨by decide +kernel, by decide +kernel, by decide +kernel⟩, by decide +kernel⟩
theorem okL_bill : xOk mL_bill 5 := ⟨tq889, rfl, tq0, by decide +kernel, ⟨by decide +kernel, by decide +kernel, by decide +kernel⟩, by decide +kernel⟩
theorem okL_grade : xOk mL_grade 3 := ⟨tq916, rfl, tq0, by decide +kernel, ⟨by decide +kernel, by decide +kernel, by decide +kernel⟩, by decide +kernel⟩
theorem okL_meanGrade : xOk mL_meanGrade 4 := ⟨tq923, rfl, tq0, by decide +kernel, ⟨by decide +kernel, by decide +kernel, by decide +kernel⟩, by decide +kernel⟩
theorem okL_voteOf : xOk mL_voteOf 4 := ⟨tq934, rfl, tq0, by decide +kernel, ⟨by decide +kernel, by decide +kernel, by decide +kernel⟩, by decide +kernel⟩
theorem okL_gradeWith : xOk mL_gradeWith 5 := ⟨tq958, rfl, tq0, by decide +kernel, ⟨by decide +kernel, by decide +kernel, by decide +kernel⟩, by decide +kernel⟩
theorem okL_votesTo : xOk mL_votesTo 4 := ⟨tq969, rfl, tq0, by decide +kernel, ⟨by decide +kernel, by decide +kernel, by decide +kernel⟩, by decide +kernel⟩
theorem okL_disputed : xOk mL_disputed 2 := ⟨tq977, rfl, tq0, by decide +kernel, ⟨by decide +kernel, by decide +kernel, by decide +kernel⟩, by decide +kernel⟩
theorem okL_hardest : xOk mL_hardest 3 := ⟨tq999, rfl, tq0, by decide +kernel, ⟨by decide +kernel, by decide +kernel, by decide +kernel⟩, by decide +kernel⟩
theorem okL_climbsLeft : xOk mL_climbsLeft 3 := ⟨tq1010, rfl, tq0, by decide +kernel, ⟨by decide +kernel, by decide +kernel, by decide +kernel⟩, by decide +kernel⟩
theorem okL_averageGrade : xOk mL_averageGrade 2 := ⟨tq1021, rfl, tq0, by decide +kernel, ⟨by decide +kernel, by decide +kernel, by decide +kernel⟩, by decide +kernel⟩
theorem okL_openWalls : xOk mL_openWalls 3 := ⟨tq1029, rfl, tq0, by decide +kernel, ⟨by decide +kernel, by decide +kernel, by decide +kernel⟩, by decide +kernel⟩
theorem okL_worstDay : xOk mL_worstDay 3 := ⟨tq1044, rfl, tq0, by decide +kernel, ⟨by decide +kernel, by decide +kernel, by decide +kernel⟩, by decide +kernel⟩
theorem okL_shiftFor : xOk mL_shiftFor 3 := ⟨tq1056, rfl, tq0, by decide +kernel, ⟨by decide +kernel, by decide +kernel, by decide +kernel⟩, by decide +kernel⟩
theorem okL_lendable : xOk mL_lendable 3 := ⟨tq1071, rfl, tq0, by decide +kernel, ⟨by decide +kernel, by decide +kernel, by decide +kernel⟩, by decide +kernel⟩
theorem okL_lapsing : xOk mL_lapsing 3 := ⟨tq1083, rfl, tq0, by decide +kernel, ⟨by decide +kernel, by decide +kernel, by decide +kernel⟩, by decide +kernel⟩
theorem okL_checksNeeded : xOk mL_checksNeeded 4 := ⟨tq1094, rfl, tq0, by decide +kernel, ⟨by decide +kernel, by decide +kernel, by decide +kernel⟩, by decide +kernel⟩
theorem okL_allowedRoutes : xOk mL_allowedRoutes 3 := ⟨tq1113, rfl, tq0, by decide +kernel, ⟨by decide +kernel, by decide +kernel, by decide +kernel⟩, by decide +kernel⟩
theorem okL_ladder : xOk mL_ladder 4 := ⟨tq1125, rfl, tq0, by decide +kernel, ⟨by decide +kernel, by decide +kernel, by decide +kernel⟩, by decide +kernel⟩
theorem IX1_11 : xLI RX1 11 mX4_init 2 := ⟨Or.inl tq63, tq64, rfl, okX4_init, rfl, rfl⟩
theorem VX1_52 : xLV RX1 52 mX4_copyFrom 1 := ⟨tq381, tq382, tq383, okX4_copyFrom, rfl⟩
theorem VX1_56 : xLV RX1 56 mX1_setRules 3 := ⟨tq245, tq246, tq247, okX1_setRules, rfl⟩
theorem VX1_60 : xLV RX1 60 mX4_clear 0 := ⟨tq241, tq242, tq243, okX4_clear, rfl⟩
theorem VX1_63 : xLV RX1 63 mX4_addRow 0 := ⟨tq194, tq195, tq196, okX4_addRow, rfl⟩
theorem VX1_67 : xLV RX1 67 mX4_set 3 := ⟨tq206, tq203, tq204, okX4_set, rfl⟩
theorem VX1_73 : xLV RX1 73 mX4_get 2 := ⟨tq569, tq570, tq571, okX4_get, rfl⟩
theorem VX1_77 : xLV RX1 77 mX1_gradeOf 1 := ⟨tq604, tq605, tq606, okX1_gradeOf, rfl⟩
theorem VX1_81 : xLV RX1 81 mX4_isFull 0 := ⟨tq628, tq199, tq200, okX4_isFull, rfl⟩
theorem VX1_85 : xLV RX1 85 mX4_removeRow 1 := ⟨tq629, tq630, tq631, okX4_removeRow, rfl⟩
theorem VX1_89 : xLV RX1 89 mX1_harnessOf 1 := ⟨tq645, tq646, tq647, okX1_harnessOf, rfl⟩
theorem VX1_92 : xLV RX1 92 mX1_isClosed 1 := ⟨tq649, tq566, tq567, okX1_isClosed, rfl⟩
theorem VX1_96 : xLV RX1 96 mX1_isInForce 2 := ⟨tq650, tq651, tq652, okX1_isInForce, rfl⟩
theorem VX1_100 : xLV RX1 100 mX1_isWorn 1 := ⟨tq662, tq663, tq664, okX1_isWorn, rfl⟩
theorem VX1_103 : xLV RX1 103 mX1_mayClimb 2 := ⟨tq1122, tq642, tq643, okX1_mayClimb, rfl⟩
theorem VX1_106 : xLV RX1 106 mX1_wearOfClimb 1 := ⟨tq671, tq673, List.mem_append_left _ (List.mem_of_getElem? (i := 12) (by decide +kernel)), okX1_wearOfClimb, rfl⟩
theorem VX1_109 : xLV RX1 109 mX4_add 3 := ⟨tq675, tq676, tq677, okX4_add, rfl⟩
theorem VX1_112 : xLV RX1 112 mX0_clear 0 := ⟨tq612, tq613, tq614, okX0_clear, rfl⟩
theorem VX1_115 : xLV RX1 115 mX0_addVotes 2 := ⟨tq616, tq617, tq618, okX0_addVotes, rfl⟩
theorem VX1_121 : xLV RX1 121 mX0_trimEnds 1 := ⟨tq620, tq621, tq622, okX0_trimEnds, rfl⟩
theorem VX1_124 : xLV RX1 124 mX1_fillBallot 3 := ⟨tq608, tq610, List.mem_append_left _ (List.mem_of_getElem? (i := 10) (by decide +kernel)), okX1_fillBallot, rfl⟩
theorem VX1_127 : xLV RX1 127 mX0_nearestGrade 0 := ⟨tq624, tq625, tq626, okX0_nearestGrade, rfl⟩
theorem VX1_144 : xLV RX1 144 mX1_votesFor 1 := ⟨tq992, tq854, tq855, okX1_votesFor, rfl⟩
theorem VX1_147 : xLV RX1 147 mX1_disputeOf 1 := ⟨tq986, tq988, List.mem_append_left _ (List.mem_of_getElem? (i := 15) (by decide +kernel)), okX1_disputeOf, rfl⟩
theorem VX1_150 : xLV RX1 150 mX1_isRetired 1 := ⟨tq654, tq656, List.mem_append_left _ (List.mem_of_getElem? (i := 11) (by decide +kernel)), okX1_isRetired, rfl⟩
theorem VX1_153 : xLV RX1 153 mX1_isLent 1 := ⟨tq713, tq715, List.mem_append_left _ (List.mem_of_getElem? (i := 13) (by decide +kernel)), okX1_isLent, rfl⟩
theorem VX1_156 : xLV RX1 156 mX1_lapseOf 1 := ⟨tq658, tq659, tq660, okX1_lapseOf, rfl⟩
theorem VX1_159 : xLV RX1 159 mX1_stateOf 1 := ⟨tq709, tq710, tq711, okX1_stateOf, rfl⟩
theorem VX1_162 : xLV RX1 162 mX1_isLendable 1 := ⟨tq1080, tq706, tq707, okX1_isLendable, rfl⟩
theorem VX1_165 : xLV RX1 165 mX1_lastLapse 1 := ⟨tq1107, tq1109, List.mem_append_left _ (List.mem_of_getElem? (i := 18) (by decide +kernel)), okX1_lastLapse, rfl⟩
theorem VX1_168 : xLV RX1 168 mX1_isClosedOn 2 := ⟨tq1038, tq1040, List.mem_append_left _ (List.mem_of_getElem? (i := 16) (by decide +kernel)), okX1_isClosedOn, rfl⟩
theorem VX1_171 : xLV RX1 171 mX1_openOn 1 := ⟨tq1053, tq1035, tq1036, okX1_openOn, rfl⟩
theorem SX1_174 : xLS RX1 174 mJ6_bitCount_0f7a4 1 := ⟨tq755, tq756, okJ6_bitCount_0f7a4, rfl⟩
theorem VX1_179 : xLV RX1 179 mX1_isAnotherClosedOn 2 := ⟨tq1065, tq1067, List.mem_append_left _ (List.mem_of_getElem? (i := 17) (by decide +kernel)), okX1_isAnotherClosedOn, rfl⟩
theorem VX1_182 : xLV RX1 182 mX1_archiveRoute 1 := ⟨tq806, tq601, tq602, okX1_archiveRoute, rfl⟩
theorem VX1_185 : xLV RX1 185 mX1_resetWall 1 := ⟨tq802, tq804, List.mem_append_left _ (List.mem_of_getElem? (i := 14) (by decide +kernel)), okX1_resetWall, rfl⟩
theorem VX1_188 : xLV RX1 188 mX1_membersIn 1 := ⟨tq751, tq752, tq753, okX1_membersIn, rfl⟩
theorem IX2_28 : xLI RX2 28 mX1_init 1 := ⟨Or.inl tq171, tq58, rfl, okX1_init, rfl, rfl⟩
theorem VX2_41 : xLV RX2 41 mX2_latestHall 0 := ⟨tq585, tq587, List.mem_append_left _ (List.mem_of_getElem? (i := 9) (by decide +kernel)), okX2_latestHall, rfl⟩
theorem VX2_45 : xLV RX2 45 mX1_copyFrom 1 := ⟨tq377, tq378, tq379, okX1_copyFrom, rfl⟩
theorem VX3_36 : xLV RX3 36 mX3_byteAt 1 := ⟨tq257, tq259, List.mem_append_left _ (List.mem_of_getElem? (i := 2) (by decide +kernel)), okX3_byteAt, rfl⟩
theorem SX3_40 : xLS RX3 40 mX3_isLetter 1 := ⟨tq261, tq262, okX3_isLetter, rfl⟩
theorem SX3_44 : xLS RX3 44 mX3_isDigit 1 := ⟨tq264, tq265, okX3_isDigit, rfl⟩
theorem VX3_47 : xLV RX3 47 mJ0_length_8abf5 0 := ⟨tq283, tq284, tq285, okJ0_length_8abf5, rfl⟩
theorem VX3_52 : xLV RX3 52 mJ0_charAt_5068e 1 := ⟨tq293, tq294, tq295, okJ0_charAt_5068e, rfl⟩
theorem SX3_66 : xLS RX3 66 mX3_wordOf 1 := ⟨tq271, tq272, okX3_wordOf, rfl⟩
theorem VX3_70 : xLV RX3 70 mX3_tokenIs 1 := ⟨tq279, tq281, List.mem_append_left _ (List.mem_of_getElem? (i := 4) (by decide +kernel)), okX3_tokenIs, rfl⟩
theorem VX3_80 : xLV RX3 80 mX4_isFull 0 := ⟨tq335, tq199, tq200, okX4_isFull, rfl⟩
theorem VX3_110 : xLV RX3 110 mX1_setRules 3 := ⟨tq359, tq246, tq247, okX1_setRules, rfl⟩
theorem VX3_114 : xLV RX3 114 mX1_addWall 3 := ⟨tq360, tq191, tq192, okX1_addWall, rfl⟩
theorem VX3_117 : xLV RX3 117 mX1_addHarness 2 := ⟨tq361, tq208, tq209, okX1_addHarness, rfl⟩
theorem VX3_121 : xLV RX3 121 mX1_addMember 2 := ⟨tq362, tq212, tq213, okX1_addMember, rfl⟩
theorem VX3_124 : xLV RX3 124 mX1_addCourse 3 := ⟨tq363, tq216, tq217, okX1_addCourse, rfl⟩
theorem VX3_127 : xLV RX3 127 mX3_readToken 0 := ⟨tq253, tq255, List.mem_append_left _ (List.mem_of_getElem? (i := 1) (by decide +kernel)), okX3_readToken, rfl⟩
theorem VX3_130 : xLV RX3 130 mX3_kindOfToken 0 := ⟨tq267, tq269, List.mem_append_left _ (List.mem_of_getElem? (i := 3) (by decide +kernel)), okX3_kindOfToken, rfl⟩
theorem VX3_133 : xLV RX3 133 mX3_hasRoomFor 1 := ⟨tq331, tq333, List.mem_append_left _ (List.mem_of_getElem? (i := 5) (by decide +kernel)), okX3_hasRoomFor, rfl⟩
theorem SX3_136 : xLS RX3 136 mX3_numbersOf 1 := ⟨tq336, tq337, okX3_numbersOf, rfl⟩
theorem VX3_139 : xLV RX3 139 mX3_numberOfToken 0 := ⟨tq344, tq346, List.mem_append_left _ (List.mem_of_getElem? (i := 6) (by decide +kernel)), okX3_numberOfToken, rfl⟩
theorem SX3_142 : xLS RX3 142 mX3_isInRange 3 := ⟨tq348, tq349, okX3_isInRange, rfl⟩
theorem VX3_146 : xLV RX3 146 mX3_addStatement 1 := ⟨tq355, tq357, List.mem_append_left _ (List.mem_of_getElem? (i := 7) (by decide +kernel)), okX3_addStatement, rfl⟩
theorem VX3_150 : xLV RX3 150 mX1_clear 0 := ⟨tq237, tq238, tq239, okX1_clear, rfl⟩
theorem VX3_153 : xLV RX3 153 mX3_readStatement 0 := ⟨tq249, tq251, List.mem_append_left _ (List.mem_of_getElem? (i := 0) (by decide +kernel)), okX3_readStatement, rfl⟩
theorem VX4_31 : xLV RX4 31 mX4_get 2 := ⟨tq679, tq570, tq571, okX4_get, rfl⟩
theorem VX4_34 : xLV RX4 34 mX4_set 3 := ⟨tq202, tq203, tq204, okX4_set, rfl⟩
theorem VX4_38 : xLV RX4 38 mX4_isFull 0 := ⟨tq198, tq199, tq200, okX4_isFull, rfl⟩
theorem VX4_42 : xLV RX4 42 mX4_hasRow 1 := ⟨tq633, tq549, tq550, okX4_hasRow, rfl⟩
theorem IX5_11 : xLI RX5 11 mX0_init 0 := ⟨Or.inr ⟨_, tq34⟩, tq35, rfl, okX0_init, rfl, rfl⟩
theorem IX5_14 : xLI RX5 14 mX1_init 1 := ⟨Or.inl tq57, tq58, rfl, okX1_init, rfl, rfl⟩
theorem IX5_23 : xLI RX5 23 mX3_init 1 := ⟨Or.inl tq135, tq136, rfl, okX3_init, rfl, rfl⟩
theorem IX5_32 : xLI RX5 32 mX2_init 1 := ⟨Or.inl tq165, tq166, rfl, okX2_init, rfl, rfl⟩
theorem VX5_37 : xLV RX5 37 mX1_addWall 3 := ⟨tq190, tq191, tq192, okX1_addWall, rfl⟩
theorem VX5_41 : xLV RX5 41 mX1_addHarness 2 := ⟨tq207, tq208, tq209, okX1_addHarness, rfl⟩
theorem VX5_45 : xLV RX5 45 mX1_addMember 2 := ⟨tq211, tq212, tq213, okX1_addMember, rfl⟩
theorem VX5_48 : xLV RX5 48 mX1_addCourse 3 := ⟨tq215, tq216, tq217, okX1_addCourse, rfl⟩
theorem SX5_51 : xLS RX5 51 mX5_bytesIn 1 := ⟨tq397, tq398, okX5_bytesIn, rfl⟩
theorem VX5_66 : xLV RX5 66 mX3_addBytesOf 1 := ⟨tq470, tq471, tq472, okX3_addBytesOf, rfl⟩
theorem SX5_70 : xLS RX5 70 mX5_needBetween 3 := ⟨tq482, tq483, okX5_needBetween, rfl⟩
theorem VX5_73 : xLV RX5 73 mX3_readDraft 0 := ⟨tq233, tq234, tq235, okX3_readDraft, rfl⟩
theorem VX5_85 : xLV RX5 85 mX1_copyFrom 1 := ⟨tq509, tq378, tq379, okX1_copyFrom, rfl⟩
theorem VX5_88 : xLV RX5 88 mX2_forgetAll 0 := ⟨tq510, tq511, tq512, okX2_forgetAll, rfl⟩
theorem SX5_100 : xLS RX5 100 mX5_needRow 2 := ⟨tq545, tq546, okX5_needRow, rfl⟩
theorem VX5_104 : xLV RX5 104 mX1_isClosed 1 := ⟨tq565, tq566, tq567, okX1_isClosed, rfl⟩
theorem VX5_110 : xLV RX5 110 mX1_routesOn 1 := ⟨tq574, tq575, tq576, okX1_routesOn, rfl⟩
theorem VX5_116 : xLV RX5 116 mX4_isFull 0 := ⟨tq578, tq199, tq200, okX4_isFull, rfl⟩
theorem VX5_122 : xLV RX5 122 mX2_remember 1 := ⟨tq580, tq581, tq582, okX2_remember, rfl⟩
theorem VX5_125 : xLV RX5 125 mX1_addRoute 2 := ⟨tq589, tq590, tq591, okX1_addRoute, rfl⟩
theorem VX5_129 : xLV RX5 129 mX1_archiveRoute 1 := ⟨tq600, tq601, tq602, okX1_archiveRoute, rfl⟩
theorem VX5_135 : xLV RX5 135 mX1_mayClimb 2 := ⟨tq641, tq642, tq643, okX1_mayClimb, rfl⟩
theorem VX5_141 : xLV RX5 141 mX1_addClimb 2 := ⟨tq667, tq668, tq669, okX1_addClimb, rfl⟩
theorem VX5_144 : xLV RX5 144 mX1_hasClimbed 2 := ⟨tq687, tq688, tq689, okX1_hasClimbed, rfl⟩
theorem VX5_149 : xLV RX5 149 mX4_set 3 := ⟨tq692, tq203, tq204, okX4_set, rfl⟩
theorem VX5_152 : xLV RX5 152 mX1_gradeOf 1 := ⟨tq693, tq605, tq606, okX1_gradeOf, rfl⟩
theorem VX5_158 : xLV RX5 158 mX1_harnessOf 1 := ⟨tq701, tq646, tq647, okX1_harnessOf, rfl⟩
theorem VX5_163 : xLV RX5 163 mX4_get 2 := ⟨tq703, tq570, tq571, okX4_get, rfl⟩
theorem VX5_168 : xLV RX5 168 mX1_isLendable 1 := ⟨tq705, tq706, tq707, okX1_isLendable, rfl⟩
theorem VX5_173 : xLV RX5 173 mX1_lapseOf 1 := ⟨tq718, tq659, tq660, okX1_lapseOf, rfl⟩
theorem VX5_178 : xLV RX5 178 mX1_stateOf 1 := ⟨tq734, tq710, tq711, okX1_stateOf, rfl⟩
theorem VX5_183 : xLV RX5 183 mX1_addCheck 2 := ⟨tq736, tq737, tq738, okX1_addCheck, rfl⟩
theorem VX5_190 : xLV RX5 190 mX1_mayEnroll 2 := ⟨tq747, tq748, tq749, okX1_mayEnroll, rfl⟩
theorem VX5_195 : xLV RX5 195 mX1_membersIn 1 := ⟨tq762, tq752, tq753, okX1_membersIn, rfl⟩
theorem SX5_198 : xLS RX5 198 mJ6_bitCount_0f7a4 1 := ⟨tq763, tq756, okJ6_bitCount_0f7a4, rfl⟩
theorem VX5_205 : xLV RX5 205 mX1_endCourse 2 := ⟨tq779, tq780, tq781, okX1_endCourse, rfl⟩
theorem VX5_208 : xLV RX5 208 mX4_add 3 := ⟨tq790, tq676, tq677, okX4_add, rfl⟩
theorem VX5_214 : xLV RX5 214 mX1_endDay 0 := ⟨tq798, tq799, tq800, okX1_endDay, rfl⟩
theorem VX5_222 : xLV RX5 222 mX2_takeBack 1 := ⟨tq815, tq816, tq817, okX2_takeBack, rfl⟩
theorem VX5_225 : xLV RX5 225 mX2_keepCopy 1 := ⟨tq373, tq374, tq375, okX2_keepCopy, rfl⟩
theorem VX5_234 : xLV RX5 234 mX2_bringBackCopy 1 := ⟨tq828, tq829, tq830, okX2_bringBackCopy, rfl⟩
theorem VX5_249 : xLV RX5 249 mX1_votesFor 1 := ⟨tq853, tq854, tq855, okX1_votesFor, rfl⟩
theorem VX5_252 : xLV RX5 252 mX1_isWorn 1 := ⟨tq857, tq663, tq664, okX1_isWorn, rfl⟩
theorem VX5_255 : xLV RX5 255 mX1_isInForce 2 := ⟨tq879, tq651, tq652, okX1_isInForce, rfl⟩
theorem SX5_258 : xLS RX5 258 mX5_needInt 1 := ⟨tq908, tq909, okX5_needInt, rfl⟩
theorem VX5_262 : xLV RX5 262 mX1_meanOf 2 := ⟨tq928, tq929, tq930, okX1_meanOf, rfl⟩
theorem VX5_271 : xLV RX5 271 mX1_gradeWithMore 3 := ⟨tq963, tq964, tq965, okX1_gradeWithMore, rfl⟩
theorem VX5_277 : xLV RX5 277 mX1_mostDisputed 0 := ⟨tq982, tq983, tq984, okX1_mostDisputed, rfl⟩
theorem SX5_280 : xLS RX5 280 mX5_needFound 1 := ⟨tq993, tq994, okX5_needFound, rfl⟩
theorem VX5_283 : xLV RX5 283 mX1_hardestOn 1 := ⟨tq1004, tq1005, tq1006, okX1_hardestOn, rfl⟩
theorem VX5_286 : xLV RX5 286 mX1_climbsUntilWorn 1 := ⟨tq1015, tq1016, tq1017, okX1_climbsUntilWorn, rfl⟩
theorem VX5_291 : xLV RX5 291 mX1_openOn 1 := ⟨tq1034, tq1035, tq1036, okX1_openOn, rfl⟩
theorem VX5_294 : xLV RX5 294 mX1_dayWithFewestOpen 1 := ⟨tq1049, tq1050, tq1051, okX1_dayWithFewestOpen, rfl⟩
theorem VX5_297 : xLV RX5 297 mX1_leastShift 1 := ⟨tq1061, tq1062, tq1063, okX1_leastShift, rfl⟩
theorem VX5_300 : xLV RX5 300 mX1_lendableOf 1 := ⟨tq1076, tq1077, tq1078, okX1_lendableOf, rfl⟩
theorem VX5_303 : xLV RX5 303 mX1_lapsedOn 1 := ⟨tq1088, tq1089, tq1090, okX1_lapsedOn, rfl⟩
theorem VX5_306 : xLV RX5 306 mX1_longestValid 1 := ⟨tq1099, tq1100, tq1101, okX1_longestValid, rfl⟩
theorem VX5_309 : xLV RX5 309 mX1_checksBy 2 := ⟨tq1103, tq1104, tq1105, okX1_checksBy, rfl⟩
theorem VX5_312 : xLV RX5 312 mX1_routesFor 1 := ⟨tq1118, tq1119, tq1120, okX1_routesFor, rfl⟩
theorem VX5_315 : xLV RX5 315 mX1_leastClimbs 1 := ⟨tq1130, tq1131, tq1132, okX1_leastClimbs, rfl⟩
theorem VX5_323 : xLV RX5 323 mX4_hasRow 1 := ⟨tq548, tq549, tq550, okX4_hasRow, rfl⟩
theorem VX6_31 : xLV RX6 31 mX6_begin 0 := ⟨tq1141, tq1143, List.mem_append_left _ (List.mem_of_getElem? (i := 19) (by decide +kernel)), okX6_begin, rfl⟩
theorem VX6_34 : xLV RX6 34 mX6_readWall 3 := ⟨tq1145, tq1147, List.mem_append_left _ (List.mem_of_getElem? (i := 20) (by decide +kernel)), okX6_readWall, rfl⟩
theorem VX6_38 : xLV RX6 38 mX6_readHarness 2 := ⟨tq1149, tq1151, List.mem_append_left _ (List.mem_of_getElem? (i := 21) (by decide +kernel)), okX6_readHarness, rfl⟩
theorem VX6_42 : xLV RX6 42 mX6_readMember 2 := ⟨tq1153, tq1155, List.mem_append_left _ (List.mem_of_getElem? (i := 22) (by decide +kernel)), okX6_readMember, rfl⟩
theorem VX6_45 : xLV RX6 45 mX6_readCourse 3 := ⟨tq1157, tq1159, List.mem_append_left _ (List.mem_of_getElem? (i := 23) (by decide +kernel)), okX6_readCourse, rfl⟩
theorem VX6_48 : xLV RX6 48 mX6_takeRead 0 := ⟨tq1161, tq1163, List.mem_append_left _ (List.mem_of_getElem? (i := 24) (by decide +kernel)), okX6_takeRead, rfl⟩
theorem SX6_55 : xLS RX6 55 mX6_byteOf 6 := ⟨tq1234, tq1235, okX6_byteOf, rfl⟩
theorem VX6_62 : xLV RX6 62 mX6_fails 2 := ⟨tq1237, tq1239, List.mem_append_left _ (List.mem_of_getElem? (i := 25) (by decide +kernel)), okX6_fails, rfl⟩
theorem SX6_66 : xLS RX6 66 mX6_in 3 := ⟨tq1245, tq1246, okX6_in, rfl⟩
theorem VX6_73 : xLV RX6 73 mX6_peek 1 := ⟨tq1260, tq1262, List.mem_append_left _ (List.mem_of_getElem? (i := 28) (by decide +kernel)), okX6_peek, rfl⟩
theorem SX6_80 : xLS RX6 80 mX6_isLetter 1 := ⟨tq1264, tq1265, okX6_isLetter, rfl⟩
theorem SX6_84 : xLS RX6 84 mX6_isDigit 1 := ⟨tq1267, tq1268, okX6_isDigit, rfl⟩
theorem VX6_102 : xLV RX6 102 mX6_isGood 0 := ⟨tq1284, tq1286, List.mem_append_left _ (List.mem_of_getElem? (i := 32) (by decide +kernel)), okX6_isGood, rfl⟩
theorem VX6_106 : xLV RX6 106 mJ0_length_8abf5 0 := ⟨tq1288, tq284, tq285, okJ0_length_8abf5, rfl⟩
theorem VX6_111 : xLV RX6 111 mJ0_charAt_5068e 1 := ⟨tq1289, tq294, tq295, okJ0_charAt_5068e, rfl⟩
theorem VX6_115 : xLV RX6 115 mX6_fail 0 := ⟨tq1290, tq1292, List.mem_append_left _ (List.mem_of_getElem? (i := 33) (by decide +kernel)), okX6_fail, rfl⟩
theorem VX6_118 : xLV RX6 118 mX6_step 0 := ⟨tq1256, tq1258, List.mem_append_left _ (List.mem_of_getElem? (i := 27) (by decide +kernel)), okX6_step, rfl⟩
theorem VX6_125 : xLV RX6 125 mX6_isWord 1 := ⟨tq1280, tq1282, List.mem_append_left _ (List.mem_of_getElem? (i := 31) (by decide +kernel)), okX6_isWord, rfl⟩
theorem VX6_131 : xLV RX6 131 mX6_begins 2 := ⟨tq1276, tq1278, List.mem_append_left _ (List.mem_of_getElem? (i := 30) (by decide +kernel)), okX6_begins, rfl⟩
theorem VX6_135 : xLV RX6 135 mX6_takeNumber 2 := ⟨tq1294, tq1296, List.mem_append_left _ (List.mem_of_getElem? (i := 34) (by decide +kernel)), okX6_takeNumber, rfl⟩
theorem VX6_146 : xLV RX6 146 mX6_readStatement 0 := ⟨tq1271, tq1273, List.mem_append_left _ (List.mem_of_getElem? (i := 29) (by decide +kernel)), okX6_readStatement, rfl⟩
theorem VX6_149 : xLV RX6 149 mX6_parse 0 := ⟨tq1252, tq1254, List.mem_append_left _ (List.mem_of_getElem? (i := 26) (by decide +kernel)), okX6_parse, rfl⟩
theorem VX6_163 : xLV RX6 163 mX6_routePart 2 := ⟨tq1346, tq1348, List.mem_append_left _ (List.mem_of_getElem? (i := 39) (by decide +kernel)), okX6_routePart, rfl⟩
theorem VX6_166 : xLV RX6 166 mX6_cast 2 := ⟨tq1378, tq1380, List.mem_append_left _ (List.mem_of_getElem? (i := 46) (by decide +kernel)), okX6_cast, rfl⟩
theorem SX6_178 : xLS RX6 178 mX6_dropped 3 := ⟨tq1386, tq1387, okX6_dropped, rfl⟩
theorem VX6_182 : xLV RX6 182 mX6_layBallot 1 := ⟨tq1374, tq1376, List.mem_append_left _ (List.mem_of_getElem? (i := 45) (by decide +kernel)), okX6_layBallot, rfl⟩
theorem VX6_186 : xLV RX6 186 mX6_trim 0 := ⟨tq1382, tq1384, List.mem_append_left _ (List.mem_of_getElem? (i := 47) (by decide +kernel)), okX6_trim, rfl⟩
theorem VX6_189 : xLV RX6 189 mX6_gradeBy 3 := ⟨tq1366, tq1368, List.mem_append_left _ (List.mem_of_getElem? (i := 43) (by decide +kernel)), okX6_gradeBy, rfl⟩
theorem VX6_192 : xLV RX6 192 mX6_layMean 3 := ⟨tq1370, tq1372, List.mem_append_left _ (List.mem_of_getElem? (i := 44) (by decide +kernel)), okX6_layMean, rfl⟩
theorem VX6_195 : xLV RX6 195 mX6_wallPart 2 := ⟨tq1338, tq1340, List.mem_append_left _ (List.mem_of_getElem? (i := 37) (by decide +kernel)), okX6_wallPart, rfl⟩
theorem VX6_198 : xLV RX6 198 mX6_harnessPart 2 := ⟨tq1422, tq1424, List.mem_append_left _ (List.mem_of_getElem? (i := 55) (by decide +kernel)), okX6_harnessPart, rfl⟩
theorem VX6_201 : xLV RX6 201 mX6_isRetired 1 := ⟨tq1418, tq1420, List.mem_append_left _ (List.mem_of_getElem? (i := 54) (by decide +kernel)), okX6_isRetired, rfl⟩
theorem VX6_204 : xLV RX6 204 mX6_lapse 1 := ⟨tq1426, tq1428, List.mem_append_left _ (List.mem_of_getElem? (i := 56) (by decide +kernel)), okX6_lapse, rfl⟩
theorem VX6_207 : xLV RX6 207 mX6_memberPart 2 := ⟨tq1410, tq1412, List.mem_append_left _ (List.mem_of_getElem? (i := 52) (by decide +kernel)), okX6_memberPart, rfl⟩
theorem VX6_210 : xLV RX6 210 mX6_isInForce 2 := ⟨tq1414, tq1416, List.mem_append_left _ (List.mem_of_getElem? (i := 53) (by decide +kernel)), okX6_isInForce, rfl⟩
theorem VX6_214 : xLV RX6 214 mX6_isClosed 1 := ⟨tq1334, tq1336, List.mem_append_left _ (List.mem_of_getElem? (i := 36) (by decide +kernel)), okX6_isClosed, rfl⟩
theorem VX6_217 : xLV RX6 217 mX6_isWorn 1 := ⟨tq1430, tq1432, List.mem_append_left _ (List.mem_of_getElem? (i := 57) (by decide +kernel)), okX6_isWorn, rfl⟩
theorem VX6_220 : xLV RX6 220 mX6_isWall 1 := ⟨tq1326, tq1328, List.mem_append_left _ (List.mem_of_getElem? (i := 35) (by decide +kernel)), okX6_isWall, rfl⟩
theorem SX6_223 : xLS RX6 223 mX6_isGrade 1 := ⟨tq1330, tq1331, okX6_isGrade, rfl⟩
theorem VX6_226 : xLV RX6 226 mX6_onWall 1 := ⟨tq1342, tq1344, List.mem_append_left _ (List.mem_of_getElem? (i := 38) (by decide +kernel)), okX6_onWall, rfl⟩
theorem VX6_229 : xLV RX6 229 mX6_record 0 := ⟨tq1350, tq1352, List.mem_append_left _ (List.mem_of_getElem? (i := 40) (by decide +kernel)), okX6_record, rfl⟩
theorem VX6_232 : xLV RX6 232 mX6_gradeOf 1 := ⟨tq1362, tq1364, List.mem_append_left _ (List.mem_of_getElem? (i := 42) (by decide +kernel)), okX6_gradeOf, rfl⟩
theorem VX6_235 : xLV RX6 235 mX6_archive 1 := ⟨tq1394, tq1396, List.mem_append_left _ (List.mem_of_getElem? (i := 49) (by decide +kernel)), okX6_archive, rfl⟩
theorem VX6_238 : xLV RX6 238 mX6_isRoute 1 := ⟨tq1358, tq1360, List.mem_append_left _ (List.mem_of_getElem? (i := 41) (by decide +kernel)), okX6_isRoute, rfl⟩
theorem VX6_241 : xLV RX6 241 mX6_takeOff 1 := ⟨tq1390, tq1392, List.mem_append_left _ (List.mem_of_getElem? (i := 48) (by decide +kernel)), okX6_takeOff, rfl⟩
theorem VX6_244 : xLV RX6 244 mX6_isMember 1 := ⟨tq1402, tq1404, List.mem_append_left _ (List.mem_of_getElem? (i := 50) (by decide +kernel)), okX6_isMember, rfl⟩
theorem VX6_247 : xLV RX6 247 mX6_mayClimb 2 := ⟨tq1406, tq1408, List.mem_append_left _ (List.mem_of_getElem? (i := 51) (by decide +kernel)), okX6_mayClimb, rfl⟩
theorem VX6_250 : xLV RX6 250 mX6_setMember 3 := ⟨tq1434, tq1436, List.mem_append_left _ (List.mem_of_getElem? (i := 58) (by decide +kernel)), okX6_setMember, rfl⟩
theorem SX6_253 : xLS RX6 253 mX6_has 2 := ⟨tq1442, tq1443, okX6_has, rfl⟩
theorem VX6_256 : xLV RX6 256 mX6_isLent 1 := ⟨tq1457, tq1459, List.mem_append_left _ (List.mem_of_getElem? (i := 61) (by decide +kernel)), okX6_isLent, rfl⟩
theorem VX6_259 : xLV RX6 259 mX6_isHarness 1 := ⟨tq1449, tq1451, List.mem_append_left _ (List.mem_of_getElem? (i := 59) (by decide +kernel)), okX6_isHarness, rfl⟩
theorem VX6_262 : xLV RX6 262 mX6_mayLend 2 := ⟨tq1453, tq1455, List.mem_append_left _ (List.mem_of_getElem? (i := 60) (by decide +kernel)), okX6_mayLend, rfl⟩
theorem VX6_265 : xLV RX6 265 mX6_setHarness 3 := ⟨tq1461, tq1463, List.mem_append_left _ (List.mem_of_getElem? (i := 62) (by decide +kernel)), okX6_setHarness, rfl⟩
theorem VX6_268 : xLV RX6 268 mX6_coursePart 2 := ⟨tq1485, tq1487, List.mem_append_left _ (List.mem_of_getElem? (i := 65) (by decide +kernel)), okX6_coursePart, rfl⟩
theorem VX6_271 : xLV RX6 271 mX6_inCourse 1 := ⟨tq1489, tq1491, List.mem_append_left _ (List.mem_of_getElem? (i := 66) (by decide +kernel)), okX6_inCourse, rfl⟩
theorem SX6_274 : xLS RX6 274 mX6_bits 1 := ⟨tq1493, tq1494, okX6_bits, rfl⟩
theorem VX6_277 : xLV RX6 277 mX6_isCourse 1 := ⟨tq1477, tq1479, List.mem_append_left _ (List.mem_of_getElem? (i := 63) (by decide +kernel)), okX6_isCourse, rfl⟩
theorem VX6_280 : xLV RX6 280 mX6_mayEnroll 2 := ⟨tq1481, tq1483, List.mem_append_left _ (List.mem_of_getElem? (i := 64) (by decide +kernel)), okX6_mayEnroll, rfl⟩
theorem VX6_285 : xLV RX6 285 mX6_reset 1 := ⟨tq1518, tq1520, List.mem_append_left _ (List.mem_of_getElem? (i := 68) (by decide +kernel)), okX6_reset, rfl⟩
theorem VX6_290 : xLV RX6 290 mX6_endDay 0 := ⟨tq1514, tq1516, List.mem_append_left _ (List.mem_of_getElem? (i := 67) (by decide +kernel)), okX6_endDay, rfl⟩
theorem VX6_297 : xLV RX6 297 mX6_votesOf 1 := ⟨tq1536, tq1538, List.mem_append_left _ (List.mem_of_getElem? (i := 69) (by decide +kernel)), okX6_votesOf, rfl⟩
theorem SX6_308 : xLS RX6 308 mX6_isInt 1 := ⟨tq1561, tq1562, okX6_isInt, rfl⟩
theorem SX6_312 : xLS RX6 312 mX6_common 2 := ⟨tq1574, tq1575, okX6_common, rfl⟩
theorem VX6_317 : xLV RX6 317 mX6_spread 1 := ⟨tq1594, tq1596, List.mem_append_left _ (List.mem_of_getElem? (i := 70) (by decide +kernel)), okX6_spread, rfl⟩
theorem VX6_320 : xLV RX6 320 mX6_isClosedOn 2 := ⟨tq1619, tq1621, List.mem_append_left _ (List.mem_of_getElem? (i := 72) (by decide +kernel)), okX6_isClosedOn, rfl⟩
theorem VX6_325 : xLV RX6 325 mX6_openOn 1 := ⟨tq1615, tq1617, List.mem_append_left _ (List.mem_of_getElem? (i := 71) (by decide +kernel)), okX6_openOn, rfl⟩
theorem VX6_330 : xLV RX6 330 mX6_isAlone 2 := ⟨tq1632, tq1634, List.mem_append_left _ (List.mem_of_getElem? (i := 73) (by decide +kernel)), okX6_isAlone, rfl⟩
theorem VX6_333 : xLV RX6 333 mX6_isOfUse 2 := ⟨tq1652, tq1654, List.mem_append_left _ (List.mem_of_getElem? (i := 75) (by decide +kernel)), okX6_isOfUse, rfl⟩
theorem VX6_336 : xLV RX6 336 mX6_longest 1 := ⟨tq1648, tq1650, List.mem_append_left _ (List.mem_of_getElem? (i := 74) (by decide +kernel)), okX6_longest, rfl⟩
theorem VX6_339 : xLV RX6 339 mX6_isSome 2 := ⟨tq1656, tq1658, List.mem_append_left _ (List.mem_of_getElem? (i := 76) (by decide +kernel)), okX6_isSome, rfl⟩
theorem VX6_342 : xLV RX6 342 mX6_needOf 1 := ⟨tq1668, tq1670, List.mem_append_left _ (List.mem_of_getElem? (i := 77) (by decide +kernel)), okX6_needOf, rfl⟩
theorem VJ0_335 : xLV RJ0 335 mJ0_coder_7d493 0 := ⟨tq287, tq288, tq289, okJ0_coder_7d493, rfl⟩
theorem VJ0_492 : xLV RJ0 492 mJ0_isLatin1_aae02 0 := ⟨tq297, tq298, tq299, okJ0_isLatin1_aae02, rfl⟩
theorem SJ0_495 : xLS RJ0 495 mJ1_charAt_3b067 2 := ⟨tq301, tq302, okJ1_charAt_3b067, rfl⟩
theorem SJ0_498 : xLS RJ0 498 mJ2_charAt_3b067 2 := ⟨tq312, tq313, okJ2_charAt_3b067, rfl⟩
theorem SJ0_1059 : xLS RJ0 1059 mJ3_checkIndex_8e157 3 := ⟨tq309, tq310, okJ3_checkIndex_8e157, rfl⟩
theorem SJ1_9 : xLS RJ1 9 mJ0_checkIndex_df160 2 := ⟨tq304, tq305, okJ0_checkIndex_df160, rfl⟩
theorem SJ2_48 : xLS RJ2 48 mJ2_length_9d52b 1 := ⟨tq318, tq319, okJ2_length_9d52b, rfl⟩
theorem SJ2_67 : xLS RJ2 67 mJ2_checkIndex_2214a 2 := ⟨tq315, tq316, okJ2_checkIndex_2214a, rfl⟩
theorem SJ2_71 : xLS RJ2 71 mJ2_getChar_3b067 2 := ⟨tq322, tq323, okJ2_getChar_3b067, rfl⟩
theorem SJ2_414 : xLS RJ2 414 mJ0_checkIndex_df160 2 := ⟨tq321, tq305, okJ0_checkIndex_df160, rfl⟩
theorem VL_7 : xLV RL 7 mX5_append 5 := ⟨tq393, tq394, tq395, okX5_append, rfl⟩
theorem VL_15 : xLV RL 15 mX5_truncate 1 := ⟨tq478, tq479, tq480, okX5_truncate, rfl⟩
theorem VL_21 : xLV RL 21 mX5_load 0 := ⟨tq504, tq505, tq506, okX5_load, rfl⟩
theorem VL_25 : xLV RL 25 mX5_setRoute 2 := ⟨tq541, tq542, tq543, okX5_setRoute, rfl⟩
theorem VL_31 : xLV RL 31 mX5_removeRoute 1 := ⟨tq596, tq597, tq598, okX5_removeRoute, rfl⟩
theorem VL_34 : xLV RL 34 mX5_climb 2 := ⟨tq637, tq638, tq639, okX5_climb, rfl⟩
theorem VL_37 : xLV RL 37 mX5_vote 3 := ⟨tq683, tq684, tq685, okX5_vote, rfl⟩
theorem VL_41 : xLV RL 41 mX5_lend 2 := ⟨tq697, tq698, tq699, okX5_lend, rfl⟩
theorem VL_44 : xLV RL 44 mX5_giveBack 1 := ⟨tq722, tq723, tq724, okX5_giveBack, rfl⟩
theorem VL_47 : xLV RL 47 mX5_check 2 := ⟨tq730, tq731, tq732, okX5_check, rfl⟩
theorem VL_51 : xLV RL 51 mX5_enroll 2 := ⟨tq743, tq744, tq745, okX5_enroll, rfl⟩
theorem VL_54 : xLV RL 54 mX5_leaveCourse 1 := ⟨tq767, tq768, tq769, okX5_leaveCourse, rfl⟩
theorem VL_57 : xLV RL 57 mX5_finish 2 := ⟨tq775, tq776, tq777, okX5_finish, rfl⟩
theorem VL_60 : xLV RL 60 mX5_postpone 2 := ⟨tq786, tq787, tq788, okX5_postpone, rfl⟩
theorem VL_63 : xLV RL 63 mX5_endDays 1 := ⟨tq794, tq795, tq796, okX5_endDays, rfl⟩
theorem VL_66 : xLV RL 66 mX5_undo 0 := ⟨tq810, tq811, tq812, okX5_undo, rfl⟩
theorem VL_69 : xLV RL 69 mX5_restore 0 := ⟨tq823, tq824, tq825, okX5_restore, rfl⟩
theorem VL_72 : xLV RL 72 mX5_count 1 := ⟨tq835, tq836, tq837, okX5_count, rfl⟩
theorem VL_75 : xLV RL 75 mX5_wall 2 := ⟨tq842, tq843, tq844, okX5_wall, rfl⟩
theorem VL_78 : xLV RL 78 mX5_route 2 := ⟨tq849, tq850, tq851, okX5_route, rfl⟩
theorem VL_81 : xLV RL 81 mX5_archived 2 := ⟨tq861, tq862, tq863, okX5_archived, rfl⟩
theorem VL_84 : xLV RL 84 mX5_member 2 := ⟨tq868, tq869, tq870, okX5_member, rfl⟩
theorem VL_87 : xLV RL 87 mX5_harness 2 := ⟨tq875, tq876, tq877, okX5_harness, rfl⟩
theorem VL_90 : xLV RL 90 mX5_course 2 := ⟨tq883, tq884, tq885, okX5_course, rfl⟩
theorem VL_93 : xLV RL 93 mX5_bill 3 := ⟨tq904, tq905, tq906, okX5_bill, rfl⟩
theorem VL_98 : xLV RL 98 mX5_grade 1 := ⟨tq917, tq918, tq919, okX5_grade, rfl⟩
theorem VL_101 : xLV RL 101 mX5_meanGrade 2 := ⟨tq924, tq925, tq926, okX5_meanGrade, rfl⟩
theorem VL_104 : xLV RL 104 mX5_voteOf 2 := ⟨tq936, tq937, tq938, okX5_voteOf, rfl⟩
theorem VL_109 : xLV RL 109 mX5_gradeWith 3 := ⟨tq959, tq960, tq961, okX5_gradeWith, rfl⟩
theorem VL_112 : xLV RL 112 mX5_votesTo 2 := ⟨tq970, tq971, tq972, okX5_votesTo, rfl⟩
theorem VL_115 : xLV RL 115 mX5_disputed 0 := ⟨tq978, tq979, tq980, okX5_disputed, rfl⟩
theorem VL_118 : xLV RL 118 mX5_hardest 1 := ⟨tq1000, tq1001, tq1002, okX5_hardest, rfl⟩
theorem VL_121 : xLV RL 121 mX5_climbsLeft 1 := ⟨tq1011, tq1012, tq1013, okX5_climbsLeft, rfl⟩
theorem VL_124 : xLV RL 124 mX5_averageGrade 0 := ⟨tq1022, tq1023, tq1024, okX5_averageGrade, rfl⟩
theorem VL_128 : xLV RL 128 mX5_openWalls 1 := ⟨tq1030, tq1031, tq1032, okX5_openWalls, rfl⟩
theorem VL_131 : xLV RL 131 mX5_worstDay 1 := ⟨tq1045, tq1046, tq1047, okX5_worstDay, rfl⟩
theorem VL_134 : xLV RL 134 mX5_shiftFor 1 := ⟨tq1057, tq1058, tq1059, okX5_shiftFor, rfl⟩
theorem VL_137 : xLV RL 137 mX5_lendable 1 := ⟨tq1072, tq1073, tq1074, okX5_lendable, rfl⟩
theorem VL_140 : xLV RL 140 mX5_lapsing 1 := ⟨tq1084, tq1085, tq1086, okX5_lapsing, rfl⟩
theorem VL_143 : xLV RL 143 mX5_checksNeeded 2 := ⟨tq1095, tq1096, tq1097, okX5_checksNeeded, rfl⟩
theorem VL_146 : xLV RL 146 mX5_allowedRoutes 1 := ⟨tq1114, tq1115, tq1116, okX5_allowedRoutes, rfl⟩
theorem VL_149 : xLV RL 149 mX5_ladder 2 := ⟨tq1126, tq1127, tq1128, okX5_ladder, rfl⟩
theorem IL_152 : xLI RL 152 mX5_init 0 := ⟨Or.inl tq26, tq27, rfl, okX5_init, rfl, rfl⟩
theorem IL_155 : xLI RL 155 mX6_init 0 := ⟨Or.inl tq1137, tq1138, rfl, okX6_init, rfl, rfl⟩
theorem SL_156 : xLH RL 156 mL_append 7 := ⟨tq389, tq390, okL_append, rfl⟩
theorem VL_161 : xLV RL 161 mX6_append 5 := ⟨tq1230, tq1231, tq1232, okX6_append, rfl⟩
theorem VL_162 : xLV RL 162 mX6_thrown 0 := ⟨tq1226, tq1227, tq1228, okX6_thrown, rfl⟩
theorem SL_165 : xLH RL 165 mL_truncate 3 := ⟨tq474, tq475, okL_truncate, rfl⟩
theorem VL_168 : xLV RL 168 mX6_truncate 1 := ⟨tq1241, tq1242, tq1243, okX6_truncate, rfl⟩
theorem VL_169 : xLV RL 169 mX5_errorPosition 0 := ⟨tq229, tq230, tq231, okX5_errorPosition, rfl⟩
theorem VL_172 : xLV RL 172 mX6_errorPosition 0 := ⟨tq1248, tq1249, tq1250, okX6_errorPosition, rfl⟩
theorem SL_173 : xLH RL 173 mL_load 2 := ⟨tq501, tq502, okL_load, rfl⟩
theorem VL_176 : xLV RL 176 mX6_load 0 := ⟨tq1302, tq1303, tq1304, okX6_load, rfl⟩
theorem SL_177 : xLH RL 177 mL_setRoute 4 := ⟨tq514, tq515, okL_setRoute, rfl⟩
theorem VL_180 : xLV RL 180 mX6_setRoute 2 := ⟨tq1322, tq1323, tq1324, okX6_setRoute, rfl⟩
theorem SL_181 : xLH RL 181 mL_removeRoute 3 := ⟨tq593, tq594, okL_removeRoute, rfl⟩
theorem VL_183 : xLV RL 183 mX6_removeRoute 1 := ⟨tq1354, tq1355, tq1356, okX6_removeRoute, rfl⟩
theorem SL_184 : xLH RL 184 mL_climb 4 := ⟨tq634, tq635, okL_climb, rfl⟩
theorem VL_186 : xLV RL 186 mX6_climb 2 := ⟨tq1398, tq1399, tq1400, okX6_climb, rfl⟩
theorem SL_187 : xLH RL 187 mL_vote 5 := ⟨tq680, tq681, okL_vote, rfl⟩
theorem VL_190 : xLV RL 190 mX6_vote 3 := ⟨tq1438, tq1439, tq1440, okX6_vote, rfl⟩
theorem SL_191 : xLH RL 191 mL_lend 4 := ⟨tq694, tq695, okL_lend, rfl⟩
theorem VL_193 : xLV RL 193 mX6_lend 2 := ⟨tq1445, tq1446, tq1447, okX6_lend, rfl⟩
theorem SL_194 : xLH RL 194 mL_giveBack 3 := ⟨tq719, tq720, okL_giveBack, rfl⟩
theorem VL_196 : xLV RL 196 mX6_giveBack 1 := ⟨tq1465, tq1466, tq1467, okX6_giveBack, rfl⟩
theorem SL_197 : xLH RL 197 mL_check 4 := ⟨tq727, tq728, okL_check, rfl⟩
theorem VL_200 : xLV RL 200 mX6_check 2 := ⟨tq1469, tq1470, tq1471, okX6_check, rfl⟩
theorem SL_201 : xLH RL 201 mL_enroll 4 := ⟨tq740, tq741, okL_enroll, rfl⟩
theorem VL_203 : xLV RL 203 mX6_enroll 2 := ⟨tq1473, tq1474, tq1475, okX6_enroll, rfl⟩
theorem SL_204 : xLH RL 204 mL_leaveCourse 3 := ⟨tq764, tq765, okL_leaveCourse, rfl⟩
theorem VL_206 : xLV RL 206 mX6_leaveCourse 1 := ⟨tq1496, tq1497, tq1498, okX6_leaveCourse, rfl⟩
theorem SL_207 : xLH RL 207 mL_finish 4 := ⟨tq772, tq773, okL_finish, rfl⟩
theorem VL_209 : xLV RL 209 mX6_finish 2 := ⟨tq1500, tq1501, tq1502, okX6_finish, rfl⟩
theorem SL_210 : xLH RL 210 mL_postpone 4 := ⟨tq783, tq784, okL_postpone, rfl⟩
theorem VL_212 : xLV RL 212 mX6_postpone 2 := ⟨tq1504, tq1505, tq1506, okX6_postpone, rfl⟩
theorem SL_213 : xLH RL 213 mL_endDays 3 := ⟨tq791, tq792, okL_endDays, rfl⟩
theorem VL_215 : xLV RL 215 mX6_endDays 1 := ⟨tq1509, tq1510, tq1511, okX6_endDays, rfl⟩
theorem SL_216 : xLH RL 216 mL_undo 2 := ⟨tq807, tq808, okL_undo, rfl⟩
theorem VL_218 : xLV RL 218 mX6_undo 0 := ⟨tq1306, tq1307, tq1308, okX6_undo, rfl⟩
theorem VL_219 : xLV RL 219 mX5_undoCount 0 := ⟨tq365, tq366, tq367, okX5_undoCount, rfl⟩
theorem VL_222 : xLV RL 222 mX6_undoCount 0 := ⟨tq1310, tq1311, tq1312, okX6_undoCount, rfl⟩
theorem VL_223 : xLV RL 223 mX5_save 0 := ⟨tq369, tq370, tq371, okX5_save, rfl⟩
theorem VL_226 : xLV RL 226 mX6_save 0 := ⟨tq1314, tq1315, tq1316, okX6_save, rfl⟩
theorem SL_227 : xLH RL 227 mL_restore 2 := ⟨tq820, tq821, okL_restore, rfl⟩
theorem VL_229 : xLV RL 229 mX6_restore 0 := ⟨tq1318, tq1319, tq1320, okX6_restore, rfl⟩
theorem SL_230 : xLH RL 230 mL_count 3 := ⟨tq832, tq833, okL_count, rfl⟩
theorem VL_232 : xLV RL 232 mX6_count 1 := ⟨tq1522, tq1523, tq1524, okX6_count, rfl⟩
theorem SL_233 : xLH RL 233 mL_wall 4 := ⟨tq839, tq840, okL_wall, rfl⟩
theorem VL_235 : xLV RL 235 mX6_wall 2 := ⟨tq1526, tq1527, tq1528, okX6_wall, rfl⟩
theorem SL_236 : xLH RL 236 mL_route 4 := ⟨tq846, tq847, okL_route, rfl⟩
theorem VL_238 : xLV RL 238 mX6_route 2 := ⟨tq1531, tq1532, tq1533, okX6_route, rfl⟩
theorem SL_239 : xLH RL 239 mL_archived 4 := ⟨tq858, tq859, okL_archived, rfl⟩
theorem VL_241 : xLV RL 241 mX6_archived 2 := ⟨tq1540, tq1541, tq1542, okX6_archived, rfl⟩
theorem SL_242 : xLH RL 242 mL_member 4 := ⟨tq865, tq866, okL_member, rfl⟩
theorem VL_244 : xLV RL 244 mX6_member 2 := ⟨tq1545, tq1546, tq1547, okX6_member, rfl⟩
theorem SL_245 : xLH RL 245 mL_harness 4 := ⟨tq872, tq873, okL_harness, rfl⟩
theorem VL_247 : xLV RL 247 mX6_harness 2 := ⟨tq1549, tq1550, tq1551, okX6_harness, rfl⟩
theorem SL_248 : xLH RL 248 mL_course 4 := ⟨tq880, tq881, okL_course, rfl⟩
theorem VL_250 : xLV RL 250 mX6_course 2 := ⟨tq1553, tq1554, tq1555, okX6_course, rfl⟩
theorem SL_251 : xLH RL 251 mL_bill 5 := ⟨tq887, tq888, okL_bill, rfl⟩
theorem VL_253 : xLV RL 253 mX6_bill 3 := ⟨tq1557, tq1558, tq1559, okX6_bill, rfl⟩
theorem SL_254 : xLH RL 254 mL_grade 3 := ⟨tq914, tq915, okL_grade, rfl⟩
theorem VL_256 : xLV RL 256 mX6_grade 1 := ⟨tq1566, tq1567, tq1568, okX6_grade, rfl⟩
theorem SL_257 : xLH RL 257 mL_meanGrade 4 := ⟨tq921, tq922, okL_meanGrade, rfl⟩
theorem VL_259 : xLV RL 259 mX6_meanGrade 2 := ⟨tq1570, tq1571, tq1572, okX6_meanGrade, rfl⟩
theorem SL_260 : xLH RL 260 mL_voteOf 4 := ⟨tq932, tq933, okL_voteOf, rfl⟩
theorem VL_262 : xLV RL 262 mX6_voteOf 2 := ⟨tq1577, tq1578, tq1579, okX6_voteOf, rfl⟩
theorem SL_263 : xLH RL 263 mL_gradeWith 5 := ⟨tq956, tq957, okL_gradeWith, rfl⟩
theorem VL_265 : xLV RL 265 mX6_gradeWith 3 := ⟨tq1581, tq1582, tq1583, okX6_gradeWith, rfl⟩
theorem SL_266 : xLH RL 266 mL_votesTo 4 := ⟨tq967, tq968, okL_votesTo, rfl⟩
theorem VL_268 : xLV RL 268 mX6_votesTo 2 := ⟨tq1586, tq1587, tq1588, okX6_votesTo, rfl⟩
theorem SL_269 : xLH RL 269 mL_disputed 2 := ⟨tq975, tq976, okL_disputed, rfl⟩
theorem VL_271 : xLV RL 271 mX6_disputed 0 := ⟨tq1590, tq1591, tq1592, okX6_disputed, rfl⟩
theorem SL_272 : xLH RL 272 mL_hardest 3 := ⟨tq997, tq998, okL_hardest, rfl⟩
theorem VL_274 : xLV RL 274 mX6_hardest 1 := ⟨tq1598, tq1599, tq1600, okX6_hardest, rfl⟩
theorem SL_275 : xLH RL 275 mL_climbsLeft 3 := ⟨tq1008, tq1009, okL_climbsLeft, rfl⟩
theorem VL_277 : xLV RL 277 mX6_climbsLeft 1 := ⟨tq1602, tq1603, tq1604, okX6_climbsLeft, rfl⟩
theorem SL_278 : xLH RL 278 mL_averageGrade 2 := ⟨tq1019, tq1020, okL_averageGrade, rfl⟩
theorem VL_281 : xLV RL 281 mX6_averageGrade 0 := ⟨tq1606, tq1607, tq1608, okX6_averageGrade, rfl⟩
theorem SL_282 : xLH RL 282 mL_openWalls 3 := ⟨tq1027, tq1028, okL_openWalls, rfl⟩
theorem VL_284 : xLV RL 284 mX6_openWalls 1 := ⟨tq1610, tq1611, tq1612, okX6_openWalls, rfl⟩
theorem SL_285 : xLH RL 285 mL_worstDay 3 := ⟨tq1042, tq1043, okL_worstDay, rfl⟩
theorem VL_287 : xLV RL 287 mX6_worstDay 1 := ⟨tq1623, tq1624, tq1625, okX6_worstDay, rfl⟩
theorem SL_288 : xLH RL 288 mL_shiftFor 3 := ⟨tq1054, tq1055, okL_shiftFor, rfl⟩
theorem VL_290 : xLV RL 290 mX6_shiftFor 1 := ⟨tq1628, tq1629, tq1630, okX6_shiftFor, rfl⟩
theorem SL_291 : xLH RL 291 mL_lendable 3 := ⟨tq1069, tq1070, okL_lendable, rfl⟩
theorem VL_293 : xLV RL 293 mX6_lendable 1 := ⟨tq1636, tq1637, tq1638, okX6_lendable, rfl⟩
theorem SL_294 : xLH RL 294 mL_lapsing 3 := ⟨tq1081, tq1082, okL_lapsing, rfl⟩
theorem VL_296 : xLV RL 296 mX6_lapsing 1 := ⟨tq1640, tq1641, tq1642, okX6_lapsing, rfl⟩
theorem SL_297 : xLH RL 297 mL_checksNeeded 4 := ⟨tq1092, tq1093, okL_checksNeeded, rfl⟩
theorem VL_299 : xLV RL 299 mX6_checksNeeded 2 := ⟨tq1644, tq1645, tq1646, okX6_checksNeeded, rfl⟩
theorem SL_300 : xLH RL 300 mL_allowedRoutes 3 := ⟨tq1111, tq1112, okL_allowedRoutes, rfl⟩
theorem VL_302 : xLV RL 302 mX6_allowedRoutes 1 := ⟨tq1660, tq1661, tq1662, okX6_allowedRoutes, rfl⟩
theorem SL_303 : xLH RL 303 mL_ladder 4 := ⟨tq1123, tq1124, okL_ladder, rfl⟩
theorem VL_305 : xLV RL 305 mX6_ladder 2 := ⟨tq1664, tq1665, tq1666, okX6_ladder, rfl⟩
theorem FX0_9 : xFl RX0 9 0 0 := ⟨(RX0, TX0, 4), rfl, by decide +kernel, Or.inl tq38⟩
theorem FX0_15 : xFl RX0 15 0 1 := ⟨(RX0, TX0, 4), rfl, by decide +kernel, Or.inl tq39⟩
theorem FX1_118 : xFl RX1 118 0 1 := ⟨(RX0, TX0, 4), rfl, by decide +kernel, Or.inr ⟨_, tq40⟩⟩
theorem FX0_19 : xFl RX0 19 0 2 := ⟨(RX0, TX0, 4), rfl, by decide +kernel, Or.inl tq41⟩
theorem FX1_133 : xFl RX1 133 0 2 := ⟨(RX0, TX0, 4), rfl, by decide +kernel, Or.inr ⟨_, tq42⟩⟩
theorem FX0_22 : xFl RX0 22 0 3 := ⟨(RX0, TX0, 4), rfl, by decide +kernel, Or.inl tq43⟩
theorem FX1_130 : xFl RX1 130 0 3 := ⟨(RX0, TX0, 4), rfl, by decide +kernel, Or.inr ⟨_, tq44⟩⟩
theorem FX4_15 : xFl RX4 15 4 0 := ⟨(RX4, TX4, 4), rfl, by decide +kernel, Or.inl tq70⟩
theorem FX4_18 : xFl RX4 18 4 1 := ⟨(RX4, TX4, 4), rfl, by decide +kernel, Or.inl tq71⟩
theorem FX4_27 : xFl RX4 27 4 2 := ⟨(RX4, TX4, 4), rfl, by decide +kernel, Or.inl tq72⟩
theorem FX4_9 : xFl RX4 9 4 3 := ⟨(RX4, TX4, 4), rfl, by decide +kernel, Or.inl tq73⟩
theorem FX5_95 : xFl RX5 95 4 3 := ⟨(RX4, TX4, 4), rfl, by decide +kernel, Or.inr ⟨_, tq74⟩⟩
theorem FX1_70 : xFl RX1 70 4 3 := ⟨(RX4, TX4, 4), rfl, by decide +kernel, Or.inr ⟨_, tq75⟩⟩
theorem FX1_14 : xFl RX1 14 1 0 := ⟨(RX1, TX1, 11), rfl, by decide +kernel, Or.inl tq85⟩
theorem FX5_91 : xFl RX5 91 1 0 := ⟨(RX1, TX1, 11), rfl, by decide +kernel, Or.inr ⟨_, tq86⟩⟩
theorem FX3_74 : xFl RX3 74 1 0 := ⟨(RX1, TX1, 11), rfl, by decide +kernel, Or.inr ⟨_, tq87⟩⟩
theorem FX1_20 : xFl RX1 20 1 1 := ⟨(RX1, TX1, 11), rfl, by decide +kernel, Or.inl tq88⟩
theorem FX5_113 : xFl RX5 113 1 1 := ⟨(RX1, TX1, 11), rfl, by decide +kernel, Or.inr ⟨_, tq89⟩⟩
theorem FX1_23 : xFl RX1 23 1 2 := ⟨(RX1, TX1, 11), rfl, by decide +kernel, Or.inl tq90⟩
theorem FX5_237 : xFl RX5 237 1 2 := ⟨(RX1, TX1, 11), rfl, by decide +kernel, Or.inr ⟨_, tq91⟩⟩
theorem FX1_26 : xFl RX1 26 1 3 := ⟨(RX1, TX1, 11), rfl, by decide +kernel, Or.inl tq92⟩
theorem FX5_155 : xFl RX5 155 1 3 := ⟨(RX1, TX1, 11), rfl, by decide +kernel, Or.inr ⟨_, tq93⟩⟩
theorem FX3_86 : xFl RX3 86 1 3 := ⟨(RX1, TX1, 11), rfl, by decide +kernel, Or.inr ⟨_, tq94⟩⟩
theorem FX1_29 : xFl RX1 29 1 4 := ⟨(RX1, TX1, 11), rfl, by decide +kernel, Or.inl tq95⟩
theorem FX5_132 : xFl RX5 132 1 4 := ⟨(RX1, TX1, 11), rfl, by decide +kernel, Or.inr ⟨_, tq96⟩⟩
theorem FX3_89 : xFl RX3 89 1 4 := ⟨(RX1, TX1, 11), rfl, by decide +kernel, Or.inr ⟨_, tq97⟩⟩
theorem FX1_32 : xFl RX1 32 1 5 := ⟨(RX1, TX1, 11), rfl, by decide +kernel, Or.inl tq98⟩
theorem FX3_92 : xFl RX3 92 1 5 := ⟨(RX1, TX1, 11), rfl, by decide +kernel, Or.inr ⟨_, tq99⟩⟩
theorem FX5_187 : xFl RX5 187 1 5 := ⟨(RX1, TX1, 11), rfl, by decide +kernel, Or.inr ⟨_, tq100⟩⟩
theorem FX1_48 : xFl RX1 48 1 6 := ⟨(RX1, TX1, 11), rfl, by decide +kernel, Or.inl tq101⟩
theorem FX1_35 : xFl RX1 35 1 7 := ⟨(RX1, TX1, 11), rfl, by decide +kernel, Or.inl tq102⟩
theorem FX5_211 : xFl RX5 211 1 7 := ⟨(RX1, TX1, 11), rfl, by decide +kernel, Or.inr ⟨_, tq103⟩⟩
theorem FX1_39 : xFl RX1 39 1 8 := ⟨(RX1, TX1, 11), rfl, by decide +kernel, Or.inl tq104⟩
theorem FX5_240 : xFl RX5 240 1 8 := ⟨(RX1, TX1, 11), rfl, by decide +kernel, Or.inr ⟨_, tq105⟩⟩
theorem FX1_42 : xFl RX1 42 1 9 := ⟨(RX1, TX1, 11), rfl, by decide +kernel, Or.inl tq106⟩
theorem FX5_243 : xFl RX5 243 1 9 := ⟨(RX1, TX1, 11), rfl, by decide +kernel, Or.inr ⟨_, tq107⟩⟩
theorem FX1_45 : xFl RX1 45 1 10 := ⟨(RX1, TX1, 11), rfl, by decide +kernel, Or.inl tq108⟩
theorem FX5_246 : xFl RX5 246 1 10 := ⟨(RX1, TX1, 11), rfl, by decide +kernel, Or.inr ⟨_, tq109⟩⟩
theorem FX3_9 : xFl RX3 9 3 0 := ⟨(RX3, TX3, 7), rfl, by decide +kernel, Or.inl tq139⟩
theorem FX3_15 : xFl RX3 15 3 1 := ⟨(RX3, TX3, 7), rfl, by decide +kernel, Or.inl tq140⟩
theorem FX5_55 : xFl RX5 55 3 1 := ⟨(RX3, TX3, 7), rfl, by decide +kernel, Or.inr ⟨_, tq141⟩⟩
theorem FX3_32 : xFl RX3 32 3 2 := ⟨(RX3, TX3, 7), rfl, by decide +kernel, Or.inl tq142⟩
theorem FX5_82 : xFl RX5 82 3 2 := ⟨(RX3, TX3, 7), rfl, by decide +kernel, Or.inr ⟨_, tq143⟩⟩
theorem FX3_19 : xFl RX3 19 3 3 := ⟨(RX3, TX3, 7), rfl, by decide +kernel, Or.inl tq144⟩
theorem FX3_22 : xFl RX3 22 3 4 := ⟨(RX3, TX3, 7), rfl, by decide +kernel, Or.inl tq145⟩
theorem FX3_26 : xFl RX3 26 3 5 := ⟨(RX3, TX3, 7), rfl, by decide +kernel, Or.inl tq146⟩
theorem FX3_29 : xFl RX3 29 3 6 := ⟨(RX3, TX3, 7), rfl, by decide +kernel, Or.inl tq147⟩
theorem FX2_11 : xFl RX2 11 2 0 := ⟨(RX2, TX2, 5), rfl, by decide +kernel, Or.inl tq172⟩
theorem FX2_17 : xFl RX2 17 2 1 := ⟨(RX2, TX2, 5), rfl, by decide +kernel, Or.inl tq173⟩
theorem FX5_217 : xFl RX5 217 2 1 := ⟨(RX2, TX2, 5), rfl, by decide +kernel, Or.inr ⟨_, tq174⟩⟩
theorem FX2_21 : xFl RX2 21 2 2 := ⟨(RX2, TX2, 5), rfl, by decide +kernel, Or.inl tq175⟩
theorem FX2_31 : xFl RX2 31 2 3 := ⟨(RX2, TX2, 5), rfl, by decide +kernel, Or.inl tq176⟩
theorem FX2_24 : xFl RX2 24 2 4 := ⟨(RX2, TX2, 5), rfl, by decide +kernel, Or.inl tq177⟩
theorem FX5_228 : xFl RX5 228 2 4 := ⟨(RX2, TX2, 5), rfl, by decide +kernel, Or.inr ⟨_, tq178⟩⟩
theorem FX5_17 : xFl RX5 17 5 0 := ⟨(RX5, TX5, 3), rfl, by decide +kernel, Or.inl tq219⟩
theorem FX5_26 : xFl RX5 26 5 1 := ⟨(RX5, TX5, 3), rfl, by decide +kernel, Or.inl tq220⟩
theorem FX5_33 : xFl RX5 33 5 2 := ⟨(RX5, TX5, 3), rfl, by decide +kernel, Or.inl tq221⟩
theorem FX6_51 : xFl RX6 51 6 0 := ⟨(RX6, TX6, 20), rfl, by decide +kernel, Or.inl tq1165⟩
theorem FX6_9 : xFl RX6 9 6 1 := ⟨(RX6, TX6, 20), rfl, by decide +kernel, Or.inl tq1166⟩
theorem FX6_59 : xFl RX6 59 6 2 := ⟨(RX6, TX6, 20), rfl, by decide +kernel, Or.inl tq1167⟩
theorem FX6_70 : xFl RX6 70 6 3 := ⟨(RX6, TX6, 20), rfl, by decide +kernel, Or.inl tq1168⟩
theorem FX6_77 : xFl RX6 77 6 4 := ⟨(RX6, TX6, 20), rfl, by decide +kernel, Or.inl tq1169⟩
theorem FX6_87 : xFl RX6 87 6 5 := ⟨(RX6, TX6, 20), rfl, by decide +kernel, Or.inl tq1170⟩
theorem FX6_90 : xFl RX6 90 6 6 := ⟨(RX6, TX6, 20), rfl, by decide +kernel, Or.inl tq1171⟩
theorem FX6_99 : xFl RX6 99 6 7 := ⟨(RX6, TX6, 20), rfl, by decide +kernel, Or.inl tq1172⟩
theorem FX6_13 : xFl RX6 13 6 8 := ⟨(RX6, TX6, 20), rfl, by decide +kernel, Or.inl tq1173⟩
theorem FX6_16 : xFl RX6 16 6 9 := ⟨(RX6, TX6, 20), rfl, by decide +kernel, Or.inl tq1174⟩
theorem FX6_19 : xFl RX6 19 6 10 := ⟨(RX6, TX6, 20), rfl, by decide +kernel, Or.inl tq1175⟩
theorem FX6_22 : xFl RX6 22 6 11 := ⟨(RX6, TX6, 20), rfl, by decide +kernel, Or.inl tq1176⟩
theorem FX6_152 : xFl RX6 152 6 12 := ⟨(RX6, TX6, 20), rfl, by decide +kernel, Or.inl tq1177⟩
theorem FX6_155 : xFl RX6 155 6 13 := ⟨(RX6, TX6, 20), rfl, by decide +kernel, Or.inl tq1178⟩
theorem FX6_121 : xFl RX6 121 6 14 := ⟨(RX6, TX6, 20), rfl, by decide +kernel, Or.inl tq1179⟩
theorem FX6_25 : xFl RX6 25 6 15 := ⟨(RX6, TX6, 20), rfl, by decide +kernel, Or.inl tq1180⟩
theorem FX6_160 : xFl RX6 160 6 16 := ⟨(RX6, TX6, 20), rfl, by decide +kernel, Or.inl tq1181⟩
theorem FX6_172 : xFl RX6 172 6 17 := ⟨(RX6, TX6, 20), rfl, by decide +kernel, Or.inl tq1182⟩
theorem FX6_175 : xFl RX6 175 6 18 := ⟨(RX6, TX6, 20), rfl, by decide +kernel, Or.inl tq1183⟩
theorem FX6_28 : xFl RX6 28 6 19 := ⟨(RX6, TX6, 20), rfl, by decide +kernel, Or.inl tq1184⟩
theorem ThX5_2 : xTh RX5 2 59 63 := ⟨by decide +kernel, tq400, tq12, by decide +kernel⟩
theorem ThX5_3 : xTh RX5 3 266 270 := ⟨by decide +kernel, tq940, tq23, by decide +kernel⟩
theorem ThX5_1 : xTh RX5 1 77 81 := ⟨by decide +kernel, tq485, tq13, by decide +kernel⟩
theorem ThX5_4 : xTh RX5 4 333 337 := ⟨by decide +kernel, tq911, tq22, by decide +kernel⟩
theorem ThX5_0 : xTh RX5 0 326 330 := ⟨by decide +kernel, tq552, tq19, by decide +kernel⟩
theorem strX3_56 : (RX3, 56, "rules", 1000100) ∈ xstr := List.mem_of_getElem? (i := 0) rfl
theorem strX3_58 : (RX3, 58, "wall", 1000101) ∈ xstr := List.mem_of_getElem? (i := 1) rfl
theorem strX3_60 : (RX3, 60, "harness", 1000102) ∈ xstr := List.mem_of_getElem? (i := 2) rfl
theorem strX3_62 : (RX3, 62, "member", 1000103) ∈ xstr := List.mem_of_getElem? (i := 3) rfl
theorem strX3_64 : (RX3, 64, "course", 1000104) ∈ xstr := List.mem_of_getElem? (i := 4) rfl
theorem strX5_61 : (RX5, 61, "the input buffer would have more than 600 bytes", 1000105) ∈ xstr := List.mem_of_getElem? (i := 5) rfl
theorem strX5_331 : (RX5, 331, "the number is out of its range", 1000106) ∈ xstr := List.mem_of_getElem? (i := 6) rfl
theorem strX5_79 : (RX5, 79, "the setup text is not valid", 1000107) ∈ xstr := List.mem_of_getElem? (i := 7) rfl
theorem strX5_328 : (RX5, 328, "there is none of this number", 1000108) ∈ xstr := List.mem_of_getElem? (i := 8) rfl
theorem strX5_108 : (RX5, 108, "the wall is closed today", 1000109) ∈ xstr := List.mem_of_getElem? (i := 9) rfl
theorem strX5_120 : (RX5, 120, "there is no room for a route", 1000110) ∈ xstr := List.mem_of_getElem? (i := 10) rfl
theorem strX5_139 : (RX5, 139, "the member may not climb this route", 1000111) ∈ xstr := List.mem_of_getElem? (i := 11) rfl
theorem strX5_147 : (RX5, 147, "the member has not climbed this route", 1000112) ∈ xstr := List.mem_of_getElem? (i := 12) rfl
theorem strX5_161 : (RX5, 161, "the member has a harness", 1000113) ∈ xstr := List.mem_of_getElem? (i := 13) rfl
theorem strX5_166 : (RX5, 166, "the sizes are different", 1000114) ∈ xstr := List.mem_of_getElem? (i := 14) rfl
theorem strX5_171 : (RX5, 171, "the harness is lent or has no check in force", 1000115) ∈ xstr := List.mem_of_getElem? (i := 15) rfl
theorem strX5_176 : (RX5, 176, "the member has no harness", 1000116) ∈ xstr := List.mem_of_getElem? (i := 16) rfl
theorem strX5_181 : (RX5, 181, "the harness is lent or retired", 1000117) ∈ xstr := List.mem_of_getElem? (i := 17) rfl
theorem strX5_193 : (RX5, 193, "the member may not enroll in this course", 1000118) ∈ xstr := List.mem_of_getElem? (i := 18) rfl
theorem strX5_203 : (RX5, 203, "the member is in no course", 1000119) ∈ xstr := List.mem_of_getElem? (i := 19) rfl
theorem strX5_220 : (RX5, 220, "there is no change to undo", 1000120) ∈ xstr := List.mem_of_getElem? (i := 20) rfl
theorem strX5_232 : (RX5, 232, "there is no saved copy", 1000121) ∈ xstr := List.mem_of_getElem? (i := 21) rfl
theorem strX5_335 : (RX5, 335, "the amount is not an int", 1000122) ∈ xstr := List.mem_of_getElem? (i := 22) rfl
theorem strX5_268 : (RX5, 268, "the member has not voted for this route", 1000123) ∈ xstr := List.mem_of_getElem? (i := 23) rfl
theorem strX5_275 : (RX5, 275, "20 votes do not suffice", 1000124) ∈ xstr := List.mem_of_getElem? (i := 24) rfl
theorem strX5_338 : (RX5, 338, "there is no such value", 1000125) ∈ xstr := List.mem_of_getElem? (i := 25) rfl
theorem strX5_289 : (RX5, 289, "there are no routes", 1000126) ∈ xstr := List.mem_of_getElem? (i := 26) rfl
theorem strX6_129 : (RX6, 129, "rules", 1000127) ∈ xstr := List.mem_of_getElem? (i := 27) rfl
theorem strX6_138 : (RX6, 138, "wall", 1000128) ∈ xstr := List.mem_of_getElem? (i := 28) rfl
theorem strX6_140 : (RX6, 140, "harness", 1000129) ∈ xstr := List.mem_of_getElem? (i := 29) rfl
theorem strX6_142 : (RX6, 142, "member", 1000130) ∈ xstr := List.mem_of_getElem? (i := 30) rfl
theorem strX6_144 : (RX6, 144, "course", 1000131) ∈ xstr := List.mem_of_getElem? (i := 31) rfl
