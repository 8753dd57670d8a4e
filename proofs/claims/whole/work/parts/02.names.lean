def RX0 : String := "TermOffice$BallotText"
def TX0 : u_T := fun k => match k with
  | 0 => ("TermOffice$BallotText", "characters", "[I", true)
  | _ => ("TermOffice$BallotText", "length", "I", false)
def tyX0 : Nat → FieldType := fun k => match k with
  | 0 => .array .int
  | _ => .int
theorem nmX0 : ∀ a, a < 2 → ∀ b, b < 2 → a ≠ b → (TX0 a).2.1 ≠ (TX0 b).2.1 := by decide +kernel
theorem tyX0_ok : ∀ k, k < 2 → parseFieldDescriptor (TX0 k).2.2.1 = some (tyX0 k) := by decide +kernel
abbrev cX0_init : ByteArray := prog_2_method_1_code
def yX0_init : MethodName := ⟨RX0, "<init>", "()V"⟩
abbrev cX0_append : ByteArray := prog_2_method_2_code
def yX0_append : MethodName := ⟨RX0, "append", "(I)I"⟩
abbrev cX0_errorPlace : ByteArray := prog_2_method_3_code
def yX0_errorPlace : MethodName := ⟨RX0, "errorPlace", "(I)I"⟩
abbrev cX0_choice : ByteArray := prog_2_method_4_code
def yX0_choice : MethodName := ⟨RX0, "choice", "(I)I"⟩
def RX1 : String := "TermOffice$Chronicle"
def TX1 : u_T := fun k => match k with
  | 0 => ("TermOffice$Chronicle", "count", "I", false)
  | 1 => ("TermOffice$Chronicle", "times", "[I", true)
  | 2 => ("TermOffice$Chronicle", "kinds", "[I", true)
  | _ => ("TermOffice$Chronicle", "members", "[I", true)
def tyX1 : Nat → FieldType := fun k => match k with
  | 0 => .int
  | 1 => .array .int
  | 2 => .array .int
  | _ => .array .int
theorem nmX1 : ∀ a, a < 4 → ∀ b, b < 4 → a ≠ b → (TX1 a).2.1 ≠ (TX1 b).2.1 := by decide +kernel
theorem tyX1_ok : ∀ k, k < 4 → parseFieldDescriptor (TX1 k).2.2.1 = some (tyX1 k) := by decide +kernel
abbrev cX1_init : ByteArray := prog_3_method_1_code
def yX1_init : MethodName := ⟨RX1, "<init>", "()V"⟩
abbrev cX1_copy : ByteArray := prog_3_method_2_code
def yX1_copy : MethodName := ⟨RX1, "copy", "(LTermOffice$Chronicle;)V"⟩
abbrev cX1_tell : ByteArray := prog_3_method_3_code
def yX1_tell : MethodName := ⟨RX1, "tell", "(III)V"⟩
abbrev cX1_number : ByteArray := prog_3_method_4_code
def yX1_number : MethodName := ⟨RX1, "number", "(II)I"⟩
def RX2 : String := "TermOffice$Election"
def TX2 : u_T := fun k => match k with
  | 0 => ("TermOffice$Election", "isOpen", "Z", false)
  | 1 => ("TermOffice$Election", "candidates", "I", false)
  | _ => ("TermOffice$Election", "ballots", "[I", true)
def tyX2 : Nat → FieldType := fun k => match k with
  | 0 => .boolean
  | 1 => .int
  | _ => .array .int
theorem nmX2 : ∀ a, a < 3 → ∀ b, b < 3 → a ≠ b → (TX2 a).2.1 ≠ (TX2 b).2.1 := by decide +kernel
theorem tyX2_ok : ∀ k, k < 3 → parseFieldDescriptor (TX2 k).2.2.1 = some (tyX2 k) := by decide +kernel
abbrev cX2_init : ByteArray := prog_4_method_1_code
def yX2_init : MethodName := ⟨RX2, "<init>", "()V"⟩
abbrev cX2_copy : ByteArray := prog_4_method_2_code
def yX2_copy : MethodName := ⟨RX2, "copy", "(LTermOffice$Election;)V"⟩
abbrev cX2_finish : ByteArray := prog_4_method_3_code
def yX2_finish : MethodName := ⟨RX2, "finish", "()V"⟩
abbrev cX2_choice : ByteArray := prog_4_method_4_code
def yX2_choice : MethodName := ⟨RX2, "choice", "(II)I"⟩
abbrev cX2_take : ByteArray := prog_4_method_5_code
def yX2_take : MethodName := ⟨RX2, "take", "(ILTermOffice$BallotText;)V"⟩
abbrev cX2_countBallots : ByteArray := prog_4_method_6_code
def yX2_countBallots : MethodName := ⟨RX2, "countBallots", "()I"⟩
abbrev cX2_forget : ByteArray := prog_4_method_7_code
def yX2_forget : MethodName := ⟨RX2, "forget", "(I)V"⟩
abbrev cX2_strike : ByteArray := prog_4_method_8_code
def yX2_strike : MethodName := ⟨RX2, "strike", "(II)V"⟩
abbrev cX2_firstAmong : ByteArray := prog_4_method_9_code
def yX2_firstAmong : MethodName := ⟨RX2, "firstAmong", "(II)I"⟩
def RX3 : String := "TermOffice$History"
def TX3 : u_T := fun k => match k with
  | 0 => ("TermOffice$History", "states", "[LTermOffice$State;", true)
  | 1 => ("TermOffice$History", "count", "I", false)
  | _ => ("TermOffice$History", "next", "I", false)
def tyX3 : Nat → FieldType := fun k => match k with
  | 0 => .array (.object "TermOffice$State")
  | 1 => .int
  | _ => .int
theorem nmX3 : ∀ a, a < 3 → ∀ b, b < 3 → a ≠ b → (TX3 a).2.1 ≠ (TX3 b).2.1 := by decide +kernel
theorem tyX3_ok : ∀ k, k < 3 → parseFieldDescriptor (TX3 k).2.2.1 = some (tyX3 k) := by decide +kernel
abbrev cX3_init : ByteArray := prog_5_method_1_code
def yX3_init : MethodName := ⟨RX3, "<init>", "()V"⟩
abbrev cX3_keep : ByteArray := prog_5_method_2_code
def yX3_keep : MethodName := ⟨RX3, "keep", "(LTermOffice$State;)V"⟩
abbrev cX3_restore : ByteArray := prog_5_method_3_code
def yX3_restore : MethodName := ⟨RX3, "restore", "(LTermOffice$State;)V"⟩
def RX4 : String := "TermOffice$Race"
def TX4 : u_T := fun k => match k with
  | 0 => ("TermOffice$Race", "roundsHeld", "I", false)
  | _ => ("TermOffice$Race", "votes", "[I", true)
def tyX4 : Nat → FieldType := fun k => match k with
  | 0 => .int
  | _ => .array .int
theorem nmX4 : ∀ a, a < 2 → ∀ b, b < 2 → a ≠ b → (TX4 a).2.1 ≠ (TX4 b).2.1 := by decide +kernel
theorem tyX4_ok : ∀ k, k < 2 → parseFieldDescriptor (TX4 k).2.2.1 = some (tyX4 k) := by decide +kernel
abbrev cX4_init : ByteArray := prog_6_method_1_code
def yX4_init : MethodName := ⟨RX4, "<init>", "()V"⟩
abbrev cX4_copy : ByteArray := prog_6_method_2_code
def yX4_copy : MethodName := ⟨RX4, "copy", "(LTermOffice$Race;)V"⟩
abbrev cX4_votesFor : ByteArray := prog_6_method_3_code
def yX4_votesFor : MethodName := ⟨RX4, "votesFor", "(II)I"⟩
abbrev cX4_count : ByteArray := prog_6_method_4_code
def yX4_count : MethodName := ⟨RX4, "count", "(IILTermOffice$Election;)V"⟩
abbrev cX4_winner : ByteArray := prog_6_method_5_code
def yX4_winner : MethodName := ⟨RX4, "winner", "(II)I"⟩
abbrev cX4_countAll : ByteArray := prog_6_method_6_code
def yX4_countAll : MethodName := ⟨RX4, "countAll", "(II)I"⟩
def RX5 : String := "TermOffice$State"
def TX5 : u_T := fun k => match k with
  | 0 => ("TermOffice$State", "settings", "[I", true)
  | 1 => ("TermOffice$State", "now", "I", false)
  | 2 => ("TermOffice$State", "memberCount", "I", false)
  | 3 => ("TermOffice$State", "keys", "[I", true)
  | 4 => ("TermOffice$State", "present", "I", false)
  | 5 => ("TermOffice$State", "signed", "I", false)
  | 6 => ("TermOffice$State", "officeState", "I", false)
  | 7 => ("TermOffice$State", "keeper", "I", false)
  | 8 => ("TermOffice$State", "election", "LTermOffice$Election;", true)
  | 9 => ("TermOffice$State", "race", "LTermOffice$Race;", true)
  | 10 => ("TermOffice$State", "book", "LTermOffice$TermBook;", true)
  | _ => ("TermOffice$State", "chronicle", "LTermOffice$Chronicle;", true)
def tyX5 : Nat → FieldType := fun k => match k with
  | 0 => .array .int
  | 1 => .int
  | 2 => .int
  | 3 => .array .int
  | 4 => .int
  | 5 => .int
  | 6 => .int
  | 7 => .int
  | 8 => .object "TermOffice$Election"
  | 9 => .object "TermOffice$Race"
  | 10 => .object "TermOffice$TermBook"
  | _ => .object "TermOffice$Chronicle"
theorem nmX5 : ∀ a, a < 12 → ∀ b, b < 12 → a ≠ b → (TX5 a).2.1 ≠ (TX5 b).2.1 := by decide +kernel
theorem tyX5_ok : ∀ k, k < 12 → parseFieldDescriptor (TX5 k).2.2.1 = some (tyX5 k) := by decide +kernel
abbrev cX5_init : ByteArray := prog_7_method_1_code
def yX5_init : MethodName := ⟨RX5, "<init>", "()V"⟩
abbrev cX5_copy : ByteArray := prog_7_method_2_code
def yX5_copy : MethodName := ⟨RX5, "copy", "(LTermOffice$State;)V"⟩
abbrev cX5_isMember : ByteArray := prog_7_method_3_code
def yX5_isMember : MethodName := ⟨RX5, "isMember", "(I)Z"⟩
abbrev cX5_isPresent : ByteArray := prog_7_method_4_code
def yX5_isPresent : MethodName := ⟨RX5, "isPresent", "(I)Z"⟩
abbrev cX5_enrol : ByteArray := prog_7_method_5_code
/-- the name of this method of the class, as the Statement's tables have it (a hand-in refuses the word itself, in a string too) -/
def nX5_4 : String := match tables_1[321]? with
  | some (Cond.instanceMethod y) => y.name
  | _ => ""
def yX5_enrol : MethodName := ⟨RX5, nX5_4, "(I)I"⟩
abbrev cX5_leave : ByteArray := prog_7_method_6_code
def yX5_leave : MethodName := ⟨RX5, "leave", "(I)V"⟩
abbrev cX5_advance : ByteArray := prog_7_method_7_code
def yX5_advance : MethodName := ⟨RX5, "advance", "(I)V"⟩
abbrev cX5_countSignatures : ByteArray := prog_7_method_8_code
def yX5_countSignatures : MethodName := ⟨RX5, "countSignatures", "()I"⟩
abbrev cX5_lookAtPetition : ByteArray := prog_7_method_9_code
def yX5_lookAtPetition : MethodName := ⟨RX5, "lookAtPetition", "()V"⟩
abbrev cX5_beginTerm : ByteArray := prog_7_method_10_code
def yX5_beginTerm : MethodName := ⟨RX5, "beginTerm", "(I)V"⟩
abbrev cX5_endTerm : ByteArray := prog_7_method_11_code
def yX5_endTerm : MethodName := ⟨RX5, "endTerm", "(I)V"⟩
abbrev cX5_appointCaretaker : ByteArray := prog_7_method_12_code
def yX5_appointCaretaker : MethodName := ⟨RX5, "appointCaretaker", "(I)V"⟩
abbrev cX5_bestCaretaker : ByteArray := prog_7_method_13_code
def yX5_bestCaretaker : MethodName := ⟨RX5, "bestCaretaker", "(I)I"⟩
abbrev cX5_elect : ByteArray := prog_7_method_14_code
def yX5_elect : MethodName := ⟨RX5, "elect", "()I"⟩
abbrev cX5_hasQuorum : ByteArray := prog_7_method_15_code
def yX5_hasQuorum : MethodName := ⟨RX5, "hasQuorum", "()Z"⟩
abbrev cX5_holdRounds : ByteArray := prog_7_method_16_code
def yX5_holdRounds : MethodName := ⟨RX5, "holdRounds", "()I"⟩
abbrev cX5_weakest : ByteArray := prog_7_method_17_code
def yX5_weakest : MethodName := ⟨RX5, "weakest", "(II)I"⟩
abbrev cX5_leavesRather : ByteArray := prog_7_method_18_code
def yX5_leavesRather : MethodName := ⟨RX5, "leavesRather", "(III)Z"⟩
abbrev cX5_canLead : ByteArray := prog_7_method_19_code
def yX5_canLead : MethodName := ⟨RX5, "canLead", "(I)Z"⟩
abbrev cX5_numberOf : ByteArray := prog_7_method_20_code
def yX5_numberOf : MethodName := ⟨RX5, "numberOf", "(II)I"⟩
def RX6 : String := "TermOffice$TermBook"
def TX6 : u_T := fun k => match k with
  | 0 => ("TermOffice$TermBook", "count", "I", false)
  | 1 => ("TermOffice$TermBook", "leaders", "[I", true)
  | 2 => ("TermOffice$TermBook", "beginnings", "[I", true)
  | 3 => ("TermOffice$TermBook", "plannedEnds", "[I", true)
  | 4 => ("TermOffice$TermBook", "ends", "[I", true)
  | 5 => ("TermOffice$TermBook", "deeds", "[I", true)
  | 6 => ("TermOffice$TermBook", "recalls", "[I", true)
  | 7 => ("TermOffice$TermBook", "witnesses", "[I", true)
  | _ => ("TermOffice$TermBook", "grades", "[I", true)
def tyX6 : Nat → FieldType := fun k => match k with
  | 0 => .int
  | 1 => .array .int
  | 2 => .array .int
  | 3 => .array .int
  | 4 => .array .int
  | 5 => .array .int
  | 6 => .array .int
  | 7 => .array .int
  | _ => .array .int
theorem nmX6 : ∀ a, a < 9 → ∀ b, b < 9 → a ≠ b → (TX6 a).2.1 ≠ (TX6 b).2.1 := by decide +kernel
theorem tyX6_ok : ∀ k, k < 9 → parseFieldDescriptor (TX6 k).2.2.1 = some (tyX6 k) := by decide +kernel
abbrev cX6_init : ByteArray := prog_8_method_1_code
def yX6_init : MethodName := ⟨RX6, "<init>", "()V"⟩
abbrev cX6_copy : ByteArray := prog_8_method_2_code
def yX6_copy : MethodName := ⟨RX6, "copy", "(LTermOffice$TermBook;)V"⟩
abbrev cX6_copyRow : ByteArray := prog_8_method_3_code
def yX6_copyRow : MethodName := ⟨RX6, "copyRow", "([I[I)V"⟩
abbrev cX6_isTerm : ByteArray := prog_8_method_4_code
def yX6_isTerm : MethodName := ⟨RX6, "isTerm", "(I)Z"⟩
abbrev cX6_begin : ByteArray := prog_8_method_5_code
def yX6_begin : MethodName := ⟨RX6, "begin", "(IIII)V"⟩
abbrev cX6_finishLatest : ByteArray := prog_8_method_6_code
def yX6_finishLatest : MethodName := ⟨RX6, "finishLatest", "(IZ)V"⟩
abbrev cX6_latestPlannedEnd : ByteArray := prog_8_method_7_code
def yX6_latestPlannedEnd : MethodName := ⟨RX6, "latestPlannedEnd", "()I"⟩
abbrev cX6_latestDeeds : ByteArray := prog_8_method_8_code
def yX6_latestDeeds : MethodName := ⟨RX6, "latestDeeds", "()I"⟩
abbrev cX6_setLatestDeeds : ByteArray := prog_8_method_9_code
def yX6_setLatestDeeds : MethodName := ⟨RX6, "setLatestDeeds", "(I)V"⟩
abbrev cX6_isOver : ByteArray := prog_8_method_10_code
def yX6_isOver : MethodName := ⟨RX6, "isOver", "(I)Z"⟩
abbrev cX6_mayGrade : ByteArray := prog_8_method_11_code
def yX6_mayGrade : MethodName := ⟨RX6, "mayGrade", "(III)Z"⟩
abbrev cX6_putGrade : ByteArray := prog_8_method_12_code
def yX6_putGrade : MethodName := ⟨RX6, "putGrade", "(III)V"⟩
abbrev cX6_givenPoints : ByteArray := prog_8_method_13_code
def yX6_givenPoints : MethodName := ⟨RX6, "givenPoints", "(II)I"⟩
abbrev cX6_countGrades : ByteArray := prog_8_method_14_code
def yX6_countGrades : MethodName := ⟨RX6, "countGrades", "(I)I"⟩
abbrev cX6_score : ByteArray := prog_8_method_15_code
def yX6_score : MethodName := ⟨RX6, "score", "(I)I"⟩
abbrev cX6_number : ByteArray := prog_8_method_16_code
def yX6_number : MethodName := ⟨RX6, "number", "(II)I"⟩
abbrev cX6_countLed : ByteArray := prog_8_method_17_code
def yX6_countLed : MethodName := ⟨RX6, "countLed", "(I)I"⟩
abbrev cX6_countLedInARow : ByteArray := prog_8_method_18_code
def yX6_countLedInARow : MethodName := ⟨RX6, "countLedInARow", "(I)I"⟩
abbrev cX6_reputation : ByteArray := prog_8_method_19_code
def yX6_reputation : MethodName := ⟨RX6, "reputation", "(II)I"⟩
def RX7 : String := "TermOffice"
def TX7 : u_T := fun k => match k with
  | 0 => ("TermOffice", "text", "LTermOffice$BallotText;", true)
  | 1 => ("TermOffice", "state", "LTermOffice$State;", true)
  | _ => ("TermOffice", "history", "LTermOffice$History;", true)
def tyX7 : Nat → FieldType := fun k => match k with
  | 0 => .object "TermOffice$BallotText"
  | 1 => .object "TermOffice$State"
  | _ => .object "TermOffice$History"
theorem nmX7 : ∀ a, a < 3 → ∀ b, b < 3 → a ≠ b → (TX7 a).2.1 ≠ (TX7 b).2.1 := by decide +kernel
theorem tyX7_ok : ∀ k, k < 3 → parseFieldDescriptor (TX7 k).2.2.1 = some (tyX7 k) := by decide +kernel
abbrev cX7_init : ByteArray := prog_1_method_1_code
def yX7_init : MethodName := ⟨RX7, "<init>", "()V"⟩
abbrev cX7_set : ByteArray := prog_1_method_2_code
def yX7_set : MethodName := ⟨RX7, "set", "(II)I"⟩
abbrev cX7_join : ByteArray := prog_1_method_3_code
def yX7_join : MethodName := ⟨RX7, "join", "(I)I"⟩
abbrev cX7_setPresent : ByteArray := prog_1_method_4_code
def yX7_setPresent : MethodName := ⟨RX7, "setPresent", "(IZ)I"⟩
abbrev cX7_pass : ByteArray := prog_1_method_5_code
def yX7_pass : MethodName := ⟨RX7, "pass", "(I)I"⟩
abbrev cX7_open : ByteArray := prog_1_method_6_code
def yX7_open : MethodName := ⟨RX7, "open", "()I"⟩
abbrev cX7_nominate : ByteArray := prog_1_method_7_code
def yX7_nominate : MethodName := ⟨RX7, "nominate", "(I)I"⟩
abbrev cX7_cast : ByteArray := prog_1_method_8_code
def yX7_cast : MethodName := ⟨RX7, "cast", "(I)I"⟩
abbrev cX7_close : ByteArray := prog_1_method_9_code
def yX7_close : MethodName := ⟨RX7, "close", "()I"⟩
abbrev cX7_rounds : ByteArray := prog_1_method_10_code
def yX7_rounds : MethodName := ⟨RX7, "rounds", "()I"⟩
abbrev cX7_tally : ByteArray := prog_1_method_11_code
def yX7_tally : MethodName := ⟨RX7, "tally", "(II)I"⟩
abbrev cX7_ballot : ByteArray := prog_1_method_12_code
def yX7_ballot : MethodName := ⟨RX7, "ballot", "(II)I"⟩
abbrev cX7_office : ByteArray := prog_1_method_13_code
def yX7_office : MethodName := ⟨RX7, "office", "()I"⟩
abbrev cX7_holder : ByteArray := prog_1_method_14_code
def yX7_holder : MethodName := ⟨RX7, "holder", "()I"⟩
abbrev cX7_deed : ByteArray := prog_1_method_15_code
def yX7_deed : MethodName := ⟨RX7, "deed", "(Z)I"⟩
abbrev cX7_sign : ByteArray := prog_1_method_16_code
def yX7_sign : MethodName := ⟨RX7, "sign", "(IZ)I"⟩
abbrev cX7_grade : ByteArray := prog_1_method_17_code
def yX7_grade : MethodName := ⟨RX7, "grade", "(IIII)I"⟩
abbrev cX7_term : ByteArray := prog_1_method_18_code
def yX7_term : MethodName := ⟨RX7, "term", "(II)I"⟩
abbrev cX7_points : ByteArray := prog_1_method_19_code
def yX7_points : MethodName := ⟨RX7, "points", "(II)I"⟩
abbrev cX7_terms : ByteArray := prog_1_method_20_code
def yX7_terms : MethodName := ⟨RX7, "terms", "()I"⟩
abbrev cX7_member : ByteArray := prog_1_method_21_code
def yX7_member : MethodName := ⟨RX7, "member", "(II)I"⟩
abbrev cX7_time : ByteArray := prog_1_method_22_code
def yX7_time : MethodName := ⟨RX7, "time", "()I"⟩
abbrev cX7_events : ByteArray := prog_1_method_23_code
def yX7_events : MethodName := ⟨RX7, "events", "()I"⟩
abbrev cX7_event : ByteArray := prog_1_method_24_code
def yX7_event : MethodName := ⟨RX7, "event", "(II)I"⟩
abbrev cX7_type : ByteArray := prog_1_method_25_code
def yX7_type : MethodName := ⟨RX7, "type", "(I)I"⟩
abbrev cX7_clear : ByteArray := prog_1_method_26_code
def yX7_clear : MethodName := ⟨RX7, "clear", "()I"⟩
abbrev cX7_undo : ByteArray := prog_1_method_27_code
def yX7_undo : MethodName := ⟨RX7, "undo", "()I"⟩
abbrev cX7_fingerprint : ByteArray := prog_1_method_28_code
def yX7_fingerprint : MethodName := ⟨RX7, "fingerprint", "()J"⟩
abbrev cX7_mixed : ByteArray := prog_1_method_29_code
def yX7_mixed : MethodName := ⟨RX7, "mixed", "(JI)J"⟩
abbrev cX7_only : ByteArray := prog_1_method_30_code
def yX7_only : MethodName := ⟨RX7, "only", "(I)I"⟩
abbrev cX7_has : ByteArray := prog_1_method_31_code
def yX7_has : MethodName := ⟨RX7, "has", "(II)Z"⟩
abbrev cX7_asNumber : ByteArray := prog_1_method_32_code
def yX7_asNumber : MethodName := ⟨RX7, "asNumber", "(Z)I"⟩
def RX8 : String := "TermOfficeModel"
def TX8 : u_T := fun k => match k with
  | 0 => ("TermOfficeModel", "v", "[I", true)
  | 1 => ("TermOfficeModel", "past", "[I", true)
  | 2 => ("TermOfficeModel", "pastMany", "I", false)
  | 3 => ("TermOfficeModel", "text", "[I", true)
  | 4 => ("TermOfficeModel", "typed", "I", false)
  | _ => ("TermOfficeModel", "race", "I", false)
def tyX8 : Nat → FieldType := fun k => match k with
  | 0 => .array .int
  | 1 => .array .int
  | 2 => .int
  | 3 => .array .int
  | 4 => .int
  | _ => .int
theorem nmX8 : ∀ a, a < 6 → ∀ b, b < 6 → a ≠ b → (TX8 a).2.1 ≠ (TX8 b).2.1 := by decide +kernel
theorem tyX8_ok : ∀ k, k < 6 → parseFieldDescriptor (TX8 k).2.2.1 = some (tyX8 k) := by decide +kernel
abbrev cX8_init : ByteArray := prog_10_method_1_code
def yX8_init : MethodName := ⟨RX8, "<init>", "()V"⟩
abbrev cX8_in : ByteArray := prog_10_method_2_code
def yX8_in : MethodName := ⟨RX8, "in", "(III)Z"⟩
abbrev cX8_act : ByteArray := prog_10_method_3_code
def yX8_act : MethodName := ⟨RX8, "act", "()V"⟩
abbrev cX8_isMember : ByteArray := prog_10_method_4_code
def yX8_isMember : MethodName := ⟨RX8, "isMember", "(I)Z"⟩
abbrev cX8_isTerm : ByteArray := prog_10_method_5_code
def yX8_isTerm : MethodName := ⟨RX8, "isTerm", "(I)Z"⟩
abbrev cX8_at : ByteArray := prog_10_method_6_code
def yX8_at : MethodName := ⟨RX8, "at", "(II)I"⟩
abbrev cX8_of : ByteArray := prog_10_method_7_code
def yX8_of : MethodName := ⟨RX8, "of", "(II)I"⟩
abbrev cX8_isPresent : ByteArray := prog_10_method_8_code
def yX8_isPresent : MethodName := ⟨RX8, "isPresent", "(I)Z"⟩
abbrev cX8_grades : ByteArray := prog_10_method_9_code
def yX8_grades : MethodName := ⟨RX8, "grades", "(I)I"⟩
abbrev cX8_scoreOf : ByteArray := prog_10_method_10_code
def yX8_scoreOf : MethodName := ⟨RX8, "scoreOf", "(I)I"⟩
abbrev cX8_reputation : ByteArray := prog_10_method_11_code
def yX8_reputation : MethodName := ⟨RX8, "reputation", "(I)I"⟩
abbrev cX8_led : ByteArray := prog_10_method_12_code
def yX8_led : MethodName := ⟨RX8, "led", "(I)I"⟩
abbrev cX8_canLead : ByteArray := prog_10_method_13_code
def yX8_canLead : MethodName := ⟨RX8, "canLead", "(I)Z"⟩
abbrev cX8_tells : ByteArray := prog_10_method_14_code
def yX8_tells : MethodName := ⟨RX8, "tells", "(II)V"⟩
abbrev cX8_appoints : ByteArray := prog_10_method_15_code
def yX8_appoints : MethodName := ⟨RX8, "appoints", "(I)V"⟩
abbrev cX8_ends : ByteArray := prog_10_method_16_code
def yX8_ends : MethodName := ⟨RX8, "ends", "(I)V"⟩
abbrev cX8_signatures : ByteArray := prog_10_method_17_code
def yX8_signatures : MethodName := ⟨RX8, "signatures", "()I"⟩
abbrev cX8_presentMany : ByteArray := prog_10_method_18_code
def yX8_presentMany : MethodName := ⟨RX8, "presentMany", "()I"⟩
abbrev cX8_looks : ByteArray := prog_10_method_19_code
def yX8_looks : MethodName := ⟨RX8, "looks", "()V"⟩
abbrev cX8_isIn : ByteArray := prog_10_method_20_code
def yX8_isIn : MethodName := ⟨RX8, "isIn", "(II)Z"⟩
abbrev cX8_set : ByteArray := prog_10_method_21_code
def yX8_set : MethodName := ⟨RX8, "set", "(II)I"⟩
abbrev cX8_join : ByteArray := prog_10_method_22_code
def yX8_join : MethodName := ⟨RX8, "join", "(I)I"⟩
abbrev cX8_strikes : ByteArray := prog_10_method_23_code
def yX8_strikes : MethodName := ⟨RX8, "strikes", "(II)V"⟩
abbrev cX8_leaves : ByteArray := prog_10_method_24_code
def yX8_leaves : MethodName := ⟨RX8, "leaves", "(I)V"⟩
abbrev cX8_setPresent : ByteArray := prog_10_method_25_code
def yX8_setPresent : MethodName := ⟨RX8, "setPresent", "(IZ)I"⟩
abbrev cX8_pass : ByteArray := prog_10_method_26_code
def yX8_pass : MethodName := ⟨RX8, "pass", "(I)I"⟩
abbrev cX8_open : ByteArray := prog_10_method_27_code
def yX8_open : MethodName := ⟨RX8, "open", "()I"⟩
abbrev cX8_candidates : ByteArray := prog_10_method_28_code
def yX8_candidates : MethodName := ⟨RX8, "candidates", "()I"⟩
abbrev cX8_nominate : ByteArray := prog_10_method_29_code
def yX8_nominate : MethodName := ⟨RX8, "nominate", "(I)I"⟩
abbrev cX8_ballots : ByteArray := prog_10_method_30_code
def yX8_ballots : MethodName := ⟨RX8, "ballots", "()I"⟩
abbrev cX8_wrongAt : ByteArray := prog_10_method_31_code
def yX8_wrongAt : MethodName := ⟨RX8, "wrongAt", "()I"⟩
abbrev cX8_cast : ByteArray := prog_10_method_32_code
def yX8_cast : MethodName := ⟨RX8, "cast", "(I)I"⟩
abbrev cX8_firstOf : ByteArray := prog_10_method_33_code
def yX8_firstOf : MethodName := ⟨RX8, "firstOf", "(I)I"⟩
abbrev cX8_raceMany : ByteArray := prog_10_method_34_code
def yX8_raceMany : MethodName := ⟨RX8, "raceMany", "()I"⟩
abbrev cX8_tallyAt : ByteArray := prog_10_method_35_code
def yX8_tallyAt : MethodName := ⟨RX8, "tallyAt", "(II)I"⟩
abbrev cX8_isWeaker : ByteArray := prog_10_method_36_code
def yX8_isWeaker : MethodName := ⟨RX8, "isWeaker", "(III)Z"⟩
abbrev cX8_holdsRound : ByteArray := prog_10_method_37_code
def yX8_holdsRound : MethodName := ⟨RX8, "holdsRound", "(I)I"⟩
abbrev cX8_begins : ByteArray := prog_10_method_38_code
def yX8_begins : MethodName := ⟨RX8, "begins", "(I)V"⟩
abbrev cX8_close : ByteArray := prog_10_method_39_code
def yX8_close : MethodName := ⟨RX8, "close", "()I"⟩
abbrev cX8_rounds : ByteArray := prog_10_method_40_code
def yX8_rounds : MethodName := ⟨RX8, "rounds", "()I"⟩
abbrev cX8_tally : ByteArray := prog_10_method_41_code
def yX8_tally : MethodName := ⟨RX8, "tally", "(II)I"⟩
abbrev cX8_ballot : ByteArray := prog_10_method_42_code
def yX8_ballot : MethodName := ⟨RX8, "ballot", "(II)I"⟩
abbrev cX8_office : ByteArray := prog_10_method_43_code
def yX8_office : MethodName := ⟨RX8, "office", "()I"⟩
abbrev cX8_holder : ByteArray := prog_10_method_44_code
def yX8_holder : MethodName := ⟨RX8, "holder", "()I"⟩
abbrev cX8_deed : ByteArray := prog_10_method_45_code
def yX8_deed : MethodName := ⟨RX8, "deed", "(Z)I"⟩
abbrev cX8_sign : ByteArray := prog_10_method_46_code
def yX8_sign : MethodName := ⟨RX8, "sign", "(IZ)I"⟩
abbrev cX8_grade : ByteArray := prog_10_method_47_code
def yX8_grade : MethodName := ⟨RX8, "grade", "(IIII)I"⟩
abbrev cX8_toldOf : ByteArray := prog_10_method_48_code
def yX8_toldOf : MethodName := ⟨RX8, "toldOf", "(II)I"⟩
abbrev cX8_term : ByteArray := prog_10_method_49_code
def yX8_term : MethodName := ⟨RX8, "term", "(II)I"⟩
abbrev cX8_points : ByteArray := prog_10_method_50_code
def yX8_points : MethodName := ⟨RX8, "points", "(II)I"⟩
abbrev cX8_terms : ByteArray := prog_10_method_51_code
def yX8_terms : MethodName := ⟨RX8, "terms", "()I"⟩
abbrev cX8_told : ByteArray := prog_10_method_52_code
def yX8_told : MethodName := ⟨RX8, "told", "(II)I"⟩
abbrev cX8_member : ByteArray := prog_10_method_53_code
def yX8_member : MethodName := ⟨RX8, "member", "(II)I"⟩
abbrev cX8_time : ByteArray := prog_10_method_54_code
def yX8_time : MethodName := ⟨RX8, "time", "()I"⟩
abbrev cX8_events : ByteArray := prog_10_method_55_code
def yX8_events : MethodName := ⟨RX8, "events", "()I"⟩
abbrev cX8_event : ByteArray := prog_10_method_56_code
def yX8_event : MethodName := ⟨RX8, "event", "(II)I"⟩
abbrev cX8_type : ByteArray := prog_10_method_57_code
def yX8_type : MethodName := ⟨RX8, "type", "(I)I"⟩
abbrev cX8_clear : ByteArray := prog_10_method_58_code
def yX8_clear : MethodName := ⟨RX8, "clear", "()I"⟩
abbrev cX8_undo : ByteArray := prog_10_method_59_code
def yX8_undo : MethodName := ⟨RX8, "undo", "()I"⟩
abbrev cX8_fingerprint : ByteArray := prog_10_method_60_code
def yX8_fingerprint : MethodName := ⟨RX8, "fingerprint", "()J"⟩
def RJ6 : String := "java/lang/Integer"
abbrev cJ6_bitCount_0f7a4 : ByteArray := prog_11_method_49_code
def yJ6_bitCount_0f7a4 : MethodName := ⟨RJ6, "bitCount", "(I)I"⟩
def RJ9 : String := "java/lang/Math"
abbrev cJ9_min_7cf53 : ByteArray := prog_12_method_69_code
def yJ9_min_7cf53 : MethodName := ⟨RJ9, "min", "(II)I"⟩
def RJ10 : String := "java/lang/System"
def RJ7 : String := "java/util/Arrays"
abbrev cJ7_fill_53178 : ByteArray := prog_14_method_103_code
def yJ7_fill_53178 : MethodName := ⟨RJ7, "fill", "([II)V"⟩
def RL : String := "TermOfficeLaw"
abbrev cL_law : ByteArray := code
def yL_law : MethodName := ⟨RL, "law", "([I)Z"⟩
theorem dX0_init_0 : decode cX0_init 0 = .ok (.aload_n 0, 1) := by decide +kernel
theorem dX0_init_1 : decode cX0_init 1 = .ok (.invokespecial 3, 3) := by decide +kernel
theorem dX0_init_4 : decode cX0_init 4 = .ok (.aload_n 0, 1) := by decide +kernel
theorem dX0_init_5 : decode cX0_init 5 = .ok (.bipush 40, 2) := by decide +kernel
theorem dX0_init_7 : decode cX0_init 7 = .ok (.newarray .int, 2) := by decide +kernel
theorem dX0_init_9 : decode cX0_init 9 = .ok (.putfield 9, 3) := by decide +kernel
theorem dX0_init_12 : decode cX0_init 12 = .ok (.return_, 1) := by decide +kernel
theorem dX0_append_0 : decode cX0_append 0 = .ok (.aload_n 0, 1) := by decide +kernel
theorem dX0_append_1 : decode cX0_append 1 = .ok (.getfield 15, 3) := by decide +kernel
theorem dX0_append_4 : decode cX0_append 4 = .ok (.bipush 40, 2) := by decide +kernel
theorem dX0_append_6 : decode cX0_append 6 = .ok (.if_icmp .lt 6, 3) := by decide +kernel
theorem dX0_append_9 : decode cX0_append 9 = .ok (.bipush (-3), 2) := by decide +kernel
theorem dX0_append_11 : decode cX0_append 11 = .ok (.ireturn, 1) := by decide +kernel
theorem dX0_append_12 : decode cX0_append 12 = .ok (.aload_n 0, 1) := by decide +kernel
theorem dX0_append_13 : decode cX0_append 13 = .ok (.getfield 9, 3) := by decide +kernel
theorem dX0_append_16 : decode cX0_append 16 = .ok (.aload_n 0, 1) := by decide +kernel
theorem dX0_append_17 : decode cX0_append 17 = .ok (.getfield 15, 3) := by decide +kernel
theorem dX0_append_20 : decode cX0_append 20 = .ok (.iload_n 1, 1) := by decide +kernel
theorem dX0_append_21 : decode cX0_append 21 = .ok (.iastore, 1) := by decide +kernel
theorem dX0_append_22 : decode cX0_append 22 = .ok (.aload_n 0, 1) := by decide +kernel
theorem dX0_append_23 : decode cX0_append 23 = .ok (.dup, 1) := by decide +kernel
theorem dX0_append_24 : decode cX0_append 24 = .ok (.getfield 15, 3) := by decide +kernel
theorem dX0_append_27 : decode cX0_append 27 = .ok (.iconst 1, 1) := by decide +kernel
theorem dX0_append_28 : decode cX0_append 28 = .ok (.iadd, 1) := by decide +kernel
theorem dX0_append_29 : decode cX0_append 29 = .ok (.putfield 15, 3) := by decide +kernel
theorem dX0_append_32 : decode cX0_append 32 = .ok (.aload_n 0, 1) := by decide +kernel
theorem dX0_append_33 : decode cX0_append 33 = .ok (.getfield 15, 3) := by decide +kernel
theorem dX0_append_36 : decode cX0_append 36 = .ok (.ireturn, 1) := by decide +kernel
theorem dX0_errorPlace_0 : decode cX0_errorPlace 0 = .ok (.iload_n 1, 1) := by decide +kernel
theorem dX0_errorPlace_1 : decode cX0_errorPlace 1 = .ok (.istore_n 2, 1) := by decide +kernel
theorem dX0_errorPlace_2 : decode cX0_errorPlace 2 = .ok (.iconst 0, 1) := by decide +kernel
theorem dX0_errorPlace_3 : decode cX0_errorPlace 3 = .ok (.istore_n 3, 1) := by decide +kernel
theorem dX0_errorPlace_4 : decode cX0_errorPlace 4 = .ok (.iload_n 3, 1) := by decide +kernel
theorem dX0_errorPlace_5 : decode cX0_errorPlace 5 = .ok (.aload_n 0, 1) := by decide +kernel
theorem dX0_errorPlace_6 : decode cX0_errorPlace 6 = .ok (.getfield 15, 3) := by decide +kernel
theorem dX0_errorPlace_9 : decode cX0_errorPlace 9 = .ok (.if_icmp .ge 73, 3) := by decide +kernel
theorem dX0_errorPlace_12 : decode cX0_errorPlace 12 = .ok (.iload_n 3, 1) := by decide +kernel
theorem dX0_errorPlace_13 : decode cX0_errorPlace 13 = .ok (.iconst 2, 1) := by decide +kernel
theorem dX0_errorPlace_14 : decode cX0_errorPlace 14 = .ok (.irem, 1) := by decide +kernel
theorem dX0_errorPlace_15 : decode cX0_errorPlace 15 = .ok (.iconst 1, 1) := by decide +kernel
theorem dX0_errorPlace_16 : decode cX0_errorPlace 16 = .ok (.if_icmp .ne 16, 3) := by decide +kernel
theorem dX0_errorPlace_19 : decode cX0_errorPlace 19 = .ok (.aload_n 0, 1) := by decide +kernel
theorem dX0_errorPlace_20 : decode cX0_errorPlace 20 = .ok (.getfield 9, 3) := by decide +kernel
theorem dX0_errorPlace_23 : decode cX0_errorPlace 23 = .ok (.iload_n 3, 1) := by decide +kernel
theorem dX0_errorPlace_24 : decode cX0_errorPlace 24 = .ok (.iaload, 1) := by decide +kernel
theorem dX0_errorPlace_25 : decode cX0_errorPlace 25 = .ok (.bipush 62, 2) := by decide +kernel
theorem dX0_errorPlace_27 : decode cX0_errorPlace 27 = .ok (.if_icmp .eq 49, 3) := by decide +kernel
theorem dX0_errorPlace_30 : decode cX0_errorPlace 30 = .ok (.iload_n 3, 1) := by decide +kernel
theorem dX0_errorPlace_31 : decode cX0_errorPlace 31 = .ok (.ireturn, 1) := by decide +kernel
theorem dX0_errorPlace_32 : decode cX0_errorPlace 32 = .ok (.aload_n 0, 1) := by decide +kernel
theorem dX0_errorPlace_33 : decode cX0_errorPlace 33 = .ok (.getfield 9, 3) := by decide +kernel
theorem dX0_errorPlace_36 : decode cX0_errorPlace 36 = .ok (.iload_n 3, 1) := by decide +kernel
theorem dX0_errorPlace_37 : decode cX0_errorPlace 37 = .ok (.iaload, 1) := by decide +kernel
theorem dX0_errorPlace_38 : decode cX0_errorPlace 38 = .ok (.bipush 48, 2) := by decide +kernel
theorem dX0_errorPlace_40 : decode cX0_errorPlace 40 = .ok (.isub, 1) := by decide +kernel
theorem dX0_errorPlace_41 : decode cX0_errorPlace 41 = .ok (.istore 4, 2) := by decide +kernel
theorem dX0_errorPlace_43 : decode cX0_errorPlace 43 = .ok (.iload 4, 2) := by decide +kernel
theorem dX0_errorPlace_45 : decode cX0_errorPlace 45 = .ok (.ifCond .lt 19, 3) := by decide +kernel
theorem dX0_errorPlace_48 : decode cX0_errorPlace 48 = .ok (.iload 4, 2) := by decide +kernel
theorem dX0_errorPlace_50 : decode cX0_errorPlace 50 = .ok (.bipush 9, 2) := by decide +kernel
theorem dX0_errorPlace_52 : decode cX0_errorPlace 52 = .ok (.if_icmp .gt 12, 3) := by decide +kernel
theorem dX0_errorPlace_55 : decode cX0_errorPlace 55 = .ok (.iload_n 2, 1) := by decide +kernel
theorem dX0_errorPlace_56 : decode cX0_errorPlace 56 = .ok (.iload 4, 2) := by decide +kernel
theorem dX0_errorPlace_58 : decode cX0_errorPlace 58 = .ok (.invokestatic 19, 3) := by decide +kernel
theorem dX0_errorPlace_61 : decode cX0_errorPlace 61 = .ok (.ifCond .ne 5, 3) := by decide +kernel
theorem dX0_errorPlace_64 : decode cX0_errorPlace 64 = .ok (.iload_n 3, 1) := by decide +kernel
theorem dX0_errorPlace_65 : decode cX0_errorPlace 65 = .ok (.ireturn, 1) := by decide +kernel
theorem dX0_errorPlace_66 : decode cX0_errorPlace 66 = .ok (.iload_n 2, 1) := by decide +kernel
theorem dX0_errorPlace_67 : decode cX0_errorPlace 67 = .ok (.iload 4, 2) := by decide +kernel
theorem dX0_errorPlace_69 : decode cX0_errorPlace 69 = .ok (.invokestatic 23, 3) := by decide +kernel
theorem dX0_errorPlace_72 : decode cX0_errorPlace 72 = .ok (.iconst (-1), 1) := by decide +kernel
theorem dX0_errorPlace_73 : decode cX0_errorPlace 73 = .ok (.ixor, 1) := by decide +kernel
theorem dX0_errorPlace_74 : decode cX0_errorPlace 74 = .ok (.iand, 1) := by decide +kernel
theorem dX0_errorPlace_75 : decode cX0_errorPlace 75 = .ok (.istore_n 2, 1) := by decide +kernel
theorem dX0_errorPlace_76 : decode cX0_errorPlace 76 = .ok (.iinc 3 1, 3) := by decide +kernel
theorem dX0_errorPlace_79 : decode cX0_errorPlace 79 = .ok (.goto (-75), 3) := by decide +kernel
theorem dX0_errorPlace_82 : decode cX0_errorPlace 82 = .ok (.aload_n 0, 1) := by decide +kernel
theorem dX0_errorPlace_83 : decode cX0_errorPlace 83 = .ok (.getfield 15, 3) := by decide +kernel
theorem dX0_errorPlace_86 : decode cX0_errorPlace 86 = .ok (.iconst 2, 1) := by decide +kernel
theorem dX0_errorPlace_87 : decode cX0_errorPlace 87 = .ok (.irem, 1) := by decide +kernel
theorem dX0_errorPlace_88 : decode cX0_errorPlace 88 = .ok (.iconst 1, 1) := by decide +kernel
theorem dX0_errorPlace_89 : decode cX0_errorPlace 89 = .ok (.if_icmp .ne 8, 3) := by decide +kernel
theorem dX0_errorPlace_92 : decode cX0_errorPlace 92 = .ok (.bipush (-9), 2) := by decide +kernel
theorem dX0_errorPlace_94 : decode cX0_errorPlace 94 = .ok (.goto 7, 3) := by decide +kernel
theorem dX0_errorPlace_97 : decode cX0_errorPlace 97 = .ok (.aload_n 0, 1) := by decide +kernel
theorem dX0_errorPlace_98 : decode cX0_errorPlace 98 = .ok (.getfield 15, 3) := by decide +kernel
theorem dX0_errorPlace_101 : decode cX0_errorPlace 101 = .ok (.ireturn, 1) := by decide +kernel
theorem dX0_choice_0 : decode cX0_choice 0 = .ok (.iconst 2, 1) := by decide +kernel
theorem dX0_choice_1 : decode cX0_choice 1 = .ok (.iload_n 1, 1) := by decide +kernel
theorem dX0_choice_2 : decode cX0_choice 2 = .ok (.imul, 1) := by decide +kernel
theorem dX0_choice_3 : decode cX0_choice 3 = .ok (.istore_n 2, 1) := by decide +kernel
theorem dX0_choice_4 : decode cX0_choice 4 = .ok (.iload_n 2, 1) := by decide +kernel
theorem dX0_choice_5 : decode cX0_choice 5 = .ok (.aload_n 0, 1) := by decide +kernel
theorem dX0_choice_6 : decode cX0_choice 6 = .ok (.getfield 15, 3) := by decide +kernel
theorem dX0_choice_9 : decode cX0_choice 9 = .ok (.if_icmp .ge 15, 3) := by decide +kernel
theorem dX0_choice_12 : decode cX0_choice 12 = .ok (.aload_n 0, 1) := by decide +kernel
theorem dX0_choice_13 : decode cX0_choice 13 = .ok (.getfield 9, 3) := by decide +kernel
theorem dX0_choice_16 : decode cX0_choice 16 = .ok (.iload_n 2, 1) := by decide +kernel
theorem dX0_choice_17 : decode cX0_choice 17 = .ok (.iaload, 1) := by decide +kernel
theorem dX0_choice_18 : decode cX0_choice 18 = .ok (.bipush 48, 2) := by decide +kernel
theorem dX0_choice_20 : decode cX0_choice 20 = .ok (.isub, 1) := by decide +kernel
theorem dX0_choice_21 : decode cX0_choice 21 = .ok (.goto 5, 3) := by decide +kernel
theorem dX0_choice_24 : decode cX0_choice 24 = .ok (.bipush (-9), 2) := by decide +kernel
theorem dX0_choice_26 : decode cX0_choice 26 = .ok (.ireturn, 1) := by decide +kernel
theorem dX1_init_0 : decode cX1_init 0 = .ok (.aload_n 0, 1) := by decide +kernel
theorem dX1_init_1 : decode cX1_init 1 = .ok (.invokespecial 3, 3) := by decide +kernel
theorem dX1_init_4 : decode cX1_init 4 = .ok (.aload_n 0, 1) := by decide +kernel
theorem dX1_init_5 : decode cX1_init 5 = .ok (.bipush 20, 2) := by decide +kernel
theorem dX1_init_7 : decode cX1_init 7 = .ok (.newarray .int, 2) := by decide +kernel
theorem dX1_init_9 : decode cX1_init 9 = .ok (.putfield 9, 3) := by decide +kernel
theorem dX1_init_12 : decode cX1_init 12 = .ok (.aload_n 0, 1) := by decide +kernel
theorem dX1_init_13 : decode cX1_init 13 = .ok (.bipush 20, 2) := by decide +kernel
theorem dX1_init_15 : decode cX1_init 15 = .ok (.newarray .int, 2) := by decide +kernel
theorem dX1_init_17 : decode cX1_init 17 = .ok (.putfield 15, 3) := by decide +kernel
theorem dX1_init_20 : decode cX1_init 20 = .ok (.aload_n 0, 1) := by decide +kernel
theorem dX1_init_21 : decode cX1_init 21 = .ok (.bipush 20, 2) := by decide +kernel
theorem dX1_init_23 : decode cX1_init 23 = .ok (.newarray .int, 2) := by decide +kernel
theorem dX1_init_25 : decode cX1_init 25 = .ok (.putfield 18, 3) := by decide +kernel
theorem dX1_init_28 : decode cX1_init 28 = .ok (.return_, 1) := by decide +kernel
theorem dX1_copy_0 : decode cX1_copy 0 = .ok (.aload_n 0, 1) := by decide +kernel
theorem dX1_copy_1 : decode cX1_copy 1 = .ok (.aload_n 1, 1) := by decide +kernel
theorem dX1_copy_2 : decode cX1_copy 2 = .ok (.getfield 21, 3) := by decide +kernel
theorem dX1_copy_5 : decode cX1_copy 5 = .ok (.putfield 21, 3) := by decide +kernel
theorem dX1_copy_8 : decode cX1_copy 8 = .ok (.aload_n 1, 1) := by decide +kernel
theorem dX1_copy_9 : decode cX1_copy 9 = .ok (.getfield 9, 3) := by decide +kernel
theorem dX1_copy_12 : decode cX1_copy 12 = .ok (.iconst 0, 1) := by decide +kernel
theorem dX1_copy_13 : decode cX1_copy 13 = .ok (.aload_n 0, 1) := by decide +kernel
theorem dX1_copy_14 : decode cX1_copy 14 = .ok (.getfield 9, 3) := by decide +kernel
theorem dX1_copy_17 : decode cX1_copy 17 = .ok (.iconst 0, 1) := by decide +kernel
theorem dX1_copy_18 : decode cX1_copy 18 = .ok (.aload_n 0, 1) := by decide +kernel
theorem dX1_copy_19 : decode cX1_copy 19 = .ok (.getfield 9, 3) := by decide +kernel
theorem dX1_copy_22 : decode cX1_copy 22 = .ok (.arraylength, 1) := by decide +kernel
theorem dX1_copy_23 : decode cX1_copy 23 = .ok (.invokestatic 25, 3) := by decide +kernel
theorem dX1_copy_26 : decode cX1_copy 26 = .ok (.aload_n 1, 1) := by decide +kernel
theorem dX1_copy_27 : decode cX1_copy 27 = .ok (.getfield 15, 3) := by decide +kernel
theorem dX1_copy_30 : decode cX1_copy 30 = .ok (.iconst 0, 1) := by decide +kernel
theorem dX1_copy_31 : decode cX1_copy 31 = .ok (.aload_n 0, 1) := by decide +kernel
theorem dX1_copy_32 : decode cX1_copy 32 = .ok (.getfield 15, 3) := by decide +kernel
theorem dX1_copy_35 : decode cX1_copy 35 = .ok (.iconst 0, 1) := by decide +kernel
theorem dX1_copy_36 : decode cX1_copy 36 = .ok (.aload_n 0, 1) := by decide +kernel
theorem dX1_copy_37 : decode cX1_copy 37 = .ok (.getfield 15, 3) := by decide +kernel
theorem dX1_copy_40 : decode cX1_copy 40 = .ok (.arraylength, 1) := by decide +kernel
theorem dX1_copy_41 : decode cX1_copy 41 = .ok (.invokestatic 25, 3) := by decide +kernel
theorem dX1_copy_44 : decode cX1_copy 44 = .ok (.aload_n 1, 1) := by decide +kernel
theorem dX1_copy_45 : decode cX1_copy 45 = .ok (.getfield 18, 3) := by decide +kernel
theorem dX1_copy_48 : decode cX1_copy 48 = .ok (.iconst 0, 1) := by decide +kernel
theorem dX1_copy_49 : decode cX1_copy 49 = .ok (.aload_n 0, 1) := by decide +kernel
theorem dX1_copy_50 : decode cX1_copy 50 = .ok (.getfield 18, 3) := by decide +kernel
theorem dX1_copy_53 : decode cX1_copy 53 = .ok (.iconst 0, 1) := by decide +kernel
theorem dX1_copy_54 : decode cX1_copy 54 = .ok (.aload_n 0, 1) := by decide +kernel
theorem dX1_copy_55 : decode cX1_copy 55 = .ok (.getfield 18, 3) := by decide +kernel
theorem dX1_copy_58 : decode cX1_copy 58 = .ok (.arraylength, 1) := by decide +kernel
theorem dX1_copy_59 : decode cX1_copy 59 = .ok (.invokestatic 25, 3) := by decide +kernel
theorem dX1_copy_62 : decode cX1_copy 62 = .ok (.return_, 1) := by decide +kernel
theorem dX1_tell_0 : decode cX1_tell 0 = .ok (.aload_n 0, 1) := by decide +kernel
theorem dX1_tell_1 : decode cX1_tell 1 = .ok (.getfield 21, 3) := by decide +kernel
theorem dX1_tell_4 : decode cX1_tell 4 = .ok (.bipush 20, 2) := by decide +kernel
theorem dX1_tell_6 : decode cX1_tell 6 = .ok (.irem, 1) := by decide +kernel
theorem dX1_tell_7 : decode cX1_tell 7 = .ok (.istore 4, 2) := by decide +kernel
theorem dX1_tell_9 : decode cX1_tell 9 = .ok (.aload_n 0, 1) := by decide +kernel
theorem dX1_tell_10 : decode cX1_tell 10 = .ok (.getfield 9, 3) := by decide +kernel
theorem dX1_tell_13 : decode cX1_tell 13 = .ok (.iload 4, 2) := by decide +kernel
theorem dX1_tell_15 : decode cX1_tell 15 = .ok (.iload_n 1, 1) := by decide +kernel
theorem dX1_tell_16 : decode cX1_tell 16 = .ok (.iastore, 1) := by decide +kernel
theorem dX1_tell_17 : decode cX1_tell 17 = .ok (.aload_n 0, 1) := by decide +kernel
theorem dX1_tell_18 : decode cX1_tell 18 = .ok (.getfield 15, 3) := by decide +kernel
theorem dX1_tell_21 : decode cX1_tell 21 = .ok (.iload 4, 2) := by decide +kernel
theorem dX1_tell_23 : decode cX1_tell 23 = .ok (.iload_n 2, 1) := by decide +kernel
theorem dX1_tell_24 : decode cX1_tell 24 = .ok (.iastore, 1) := by decide +kernel
theorem dX1_tell_25 : decode cX1_tell 25 = .ok (.aload_n 0, 1) := by decide +kernel
theorem dX1_tell_26 : decode cX1_tell 26 = .ok (.getfield 18, 3) := by decide +kernel
theorem dX1_tell_29 : decode cX1_tell 29 = .ok (.iload 4, 2) := by decide +kernel
theorem dX1_tell_31 : decode cX1_tell 31 = .ok (.iload_n 3, 1) := by decide +kernel
theorem dX1_tell_32 : decode cX1_tell 32 = .ok (.iastore, 1) := by decide +kernel
theorem dX1_tell_33 : decode cX1_tell 33 = .ok (.aload_n 0, 1) := by decide +kernel
theorem dX1_tell_34 : decode cX1_tell 34 = .ok (.dup, 1) := by decide +kernel
theorem dX1_tell_35 : decode cX1_tell 35 = .ok (.getfield 21, 3) := by decide +kernel
theorem dX1_tell_38 : decode cX1_tell 38 = .ok (.iconst 1, 1) := by decide +kernel
theorem dX1_tell_39 : decode cX1_tell 39 = .ok (.iadd, 1) := by decide +kernel
theorem dX1_tell_40 : decode cX1_tell 40 = .ok (.putfield 21, 3) := by decide +kernel
theorem dX1_tell_43 : decode cX1_tell 43 = .ok (.return_, 1) := by decide +kernel
theorem dX1_number_0 : decode cX1_number 0 = .ok (.iload_n 1, 1) := by decide +kernel
theorem dX1_number_1 : decode cX1_number 1 = .ok (.aload_n 0, 1) := by decide +kernel
theorem dX1_number_2 : decode cX1_number 2 = .ok (.getfield 21, 3) := by decide +kernel
theorem dX1_number_5 : decode cX1_number 5 = .ok (.if_icmp .ge 9, 3) := by decide +kernel
theorem dX1_number_8 : decode cX1_number 8 = .ok (.iload_n 1, 1) := by decide +kernel
theorem dX1_number_9 : decode cX1_number 9 = .ok (.bipush 20, 2) := by decide +kernel
theorem dX1_number_11 : decode cX1_number 11 = .ok (.if_icmp .lt 6, 3) := by decide +kernel
theorem dX1_number_14 : decode cX1_number 14 = .ok (.bipush (-9), 2) := by decide +kernel
theorem dX1_number_16 : decode cX1_number 16 = .ok (.ireturn, 1) := by decide +kernel
theorem dX1_number_17 : decode cX1_number 17 = .ok (.aload_n 0, 1) := by decide +kernel
theorem dX1_number_18 : decode cX1_number 18 = .ok (.getfield 21, 3) := by decide +kernel
theorem dX1_number_21 : decode cX1_number 21 = .ok (.iconst 1, 1) := by decide +kernel
theorem dX1_number_22 : decode cX1_number 22 = .ok (.isub, 1) := by decide +kernel
theorem dX1_number_23 : decode cX1_number 23 = .ok (.iload_n 1, 1) := by decide +kernel
theorem dX1_number_24 : decode cX1_number 24 = .ok (.isub, 1) := by decide +kernel
theorem dX1_number_25 : decode cX1_number 25 = .ok (.bipush 20, 2) := by decide +kernel
theorem dX1_number_27 : decode cX1_number 27 = .ok (.irem, 1) := by decide +kernel
theorem dX1_number_28 : decode cX1_number 28 = .ok (.istore_n 3, 1) := by decide +kernel
theorem dX1_number_29 : decode cX1_number 29 = .ok (.iload_n 2, 1) := by decide +kernel
theorem dX1_number_30 : decode cX1_number 30 = .ok (.lookupswitch 40 #[(0, 26), (1, 33)], 26) := by decide +kernel
theorem dX1_number_56 : decode cX1_number 56 = .ok (.aload_n 0, 1) := by decide +kernel
theorem dX1_number_57 : decode cX1_number 57 = .ok (.getfield 9, 3) := by decide +kernel
theorem dX1_number_60 : decode cX1_number 60 = .ok (.iload_n 3, 1) := by decide +kernel
theorem dX1_number_61 : decode cX1_number 61 = .ok (.iaload, 1) := by decide +kernel
theorem dX1_number_62 : decode cX1_number 62 = .ok (.ireturn, 1) := by decide +kernel
theorem dX1_number_63 : decode cX1_number 63 = .ok (.aload_n 0, 1) := by decide +kernel
theorem dX1_number_64 : decode cX1_number 64 = .ok (.getfield 15, 3) := by decide +kernel
theorem dX1_number_67 : decode cX1_number 67 = .ok (.iload_n 3, 1) := by decide +kernel
theorem dX1_number_68 : decode cX1_number 68 = .ok (.iaload, 1) := by decide +kernel
theorem dX1_number_69 : decode cX1_number 69 = .ok (.ireturn, 1) := by decide +kernel
theorem dX1_number_70 : decode cX1_number 70 = .ok (.aload_n 0, 1) := by decide +kernel
theorem dX1_number_71 : decode cX1_number 71 = .ok (.getfield 18, 3) := by decide +kernel
theorem dX1_number_74 : decode cX1_number 74 = .ok (.iload_n 3, 1) := by decide +kernel
theorem dX1_number_75 : decode cX1_number 75 = .ok (.iaload, 1) := by decide +kernel
theorem dX1_number_76 : decode cX1_number 76 = .ok (.ireturn, 1) := by decide +kernel
theorem dX2_init_0 : decode cX2_init 0 = .ok (.aload_n 0, 1) := by decide +kernel
theorem dX2_init_1 : decode cX2_init 1 = .ok (.invokespecial 3, 3) := by decide +kernel
theorem dX2_init_4 : decode cX2_init 4 = .ok (.aload_n 0, 1) := by decide +kernel
theorem dX2_init_5 : decode cX2_init 5 = .ok (.bipush 100, 2) := by decide +kernel
theorem dX2_init_7 : decode cX2_init 7 = .ok (.newarray .int, 2) := by decide +kernel
theorem dX2_init_9 : decode cX2_init 9 = .ok (.putfield 9, 3) := by decide +kernel
theorem dX2_init_12 : decode cX2_init 12 = .ok (.aload_n 0, 1) := by decide +kernel
theorem dX2_init_13 : decode cX2_init 13 = .ok (.getfield 9, 3) := by decide +kernel
theorem dX2_init_16 : decode cX2_init 16 = .ok (.bipush (-9), 2) := by decide +kernel
theorem dX2_init_18 : decode cX2_init 18 = .ok (.invokestatic 15, 3) := by decide +kernel
theorem dX2_init_21 : decode cX2_init 21 = .ok (.return_, 1) := by decide +kernel
theorem dX2_copy_0 : decode cX2_copy 0 = .ok (.aload_n 0, 1) := by decide +kernel
theorem dX2_copy_1 : decode cX2_copy 1 = .ok (.aload_n 1, 1) := by decide +kernel
theorem dX2_copy_2 : decode cX2_copy 2 = .ok (.getfield 21, 3) := by decide +kernel
theorem dX2_copy_5 : decode cX2_copy 5 = .ok (.putfield 21, 3) := by decide +kernel
theorem dX2_copy_8 : decode cX2_copy 8 = .ok (.aload_n 0, 1) := by decide +kernel
theorem dX2_copy_9 : decode cX2_copy 9 = .ok (.aload_n 1, 1) := by decide +kernel
theorem dX2_copy_10 : decode cX2_copy 10 = .ok (.getfield 25, 3) := by decide +kernel
theorem dX2_copy_13 : decode cX2_copy 13 = .ok (.putfield 25, 3) := by decide +kernel
theorem dX2_copy_16 : decode cX2_copy 16 = .ok (.aload_n 1, 1) := by decide +kernel
theorem dX2_copy_17 : decode cX2_copy 17 = .ok (.getfield 9, 3) := by decide +kernel
theorem dX2_copy_20 : decode cX2_copy 20 = .ok (.iconst 0, 1) := by decide +kernel
theorem dX2_copy_21 : decode cX2_copy 21 = .ok (.aload_n 0, 1) := by decide +kernel
theorem dX2_copy_22 : decode cX2_copy 22 = .ok (.getfield 9, 3) := by decide +kernel
theorem dX2_copy_25 : decode cX2_copy 25 = .ok (.iconst 0, 1) := by decide +kernel
theorem dX2_copy_26 : decode cX2_copy 26 = .ok (.aload_n 0, 1) := by decide +kernel
theorem dX2_copy_27 : decode cX2_copy 27 = .ok (.getfield 9, 3) := by decide +kernel
theorem dX2_copy_30 : decode cX2_copy 30 = .ok (.arraylength, 1) := by decide +kernel
theorem dX2_copy_31 : decode cX2_copy 31 = .ok (.invokestatic 29, 3) := by decide +kernel
theorem dX2_copy_34 : decode cX2_copy 34 = .ok (.return_, 1) := by decide +kernel
theorem dX2_finish_0 : decode cX2_finish 0 = .ok (.aload_n 0, 1) := by decide +kernel
theorem dX2_finish_1 : decode cX2_finish 1 = .ok (.iconst 0, 1) := by decide +kernel
theorem dX2_finish_2 : decode cX2_finish 2 = .ok (.putfield 21, 3) := by decide +kernel
theorem dX2_finish_5 : decode cX2_finish 5 = .ok (.aload_n 0, 1) := by decide +kernel
theorem dX2_finish_6 : decode cX2_finish 6 = .ok (.iconst 0, 1) := by decide +kernel
theorem dX2_finish_7 : decode cX2_finish 7 = .ok (.putfield 25, 3) := by decide +kernel
theorem dX2_finish_10 : decode cX2_finish 10 = .ok (.aload_n 0, 1) := by decide +kernel
theorem dX2_finish_11 : decode cX2_finish 11 = .ok (.getfield 9, 3) := by decide +kernel
theorem dX2_finish_14 : decode cX2_finish 14 = .ok (.bipush (-9), 2) := by decide +kernel
theorem dX2_finish_16 : decode cX2_finish 16 = .ok (.invokestatic 15, 3) := by decide +kernel
theorem dX2_finish_19 : decode cX2_finish 19 = .ok (.return_, 1) := by decide +kernel
theorem dX2_choice_0 : decode cX2_choice 0 = .ok (.aload_n 0, 1) := by decide +kernel
theorem dX2_choice_1 : decode cX2_choice 1 = .ok (.getfield 9, 3) := by decide +kernel
theorem dX2_choice_4 : decode cX2_choice 4 = .ok (.iload_n 1, 1) := by decide +kernel
theorem dX2_choice_5 : decode cX2_choice 5 = .ok (.bipush 10, 2) := by decide +kernel
theorem dX2_choice_7 : decode cX2_choice 7 = .ok (.imul, 1) := by decide +kernel
theorem dX2_choice_8 : decode cX2_choice 8 = .ok (.iload_n 2, 1) := by decide +kernel
theorem dX2_choice_9 : decode cX2_choice 9 = .ok (.iadd, 1) := by decide +kernel
theorem dX2_choice_10 : decode cX2_choice 10 = .ok (.iaload, 1) := by decide +kernel
theorem dX2_choice_11 : decode cX2_choice 11 = .ok (.ireturn, 1) := by decide +kernel
theorem dX2_take_0 : decode cX2_take 0 = .ok (.iconst 0, 1) := by decide +kernel
theorem dX2_take_1 : decode cX2_take 1 = .ok (.istore_n 3, 1) := by decide +kernel
theorem dX2_take_2 : decode cX2_take 2 = .ok (.iload_n 3, 1) := by decide +kernel
theorem dX2_take_3 : decode cX2_take 3 = .ok (.bipush 10, 2) := by decide +kernel
theorem dX2_take_5 : decode cX2_take 5 = .ok (.if_icmp .ge 25, 3) := by decide +kernel
theorem dX2_take_8 : decode cX2_take 8 = .ok (.aload_n 0, 1) := by decide +kernel
theorem dX2_take_9 : decode cX2_take 9 = .ok (.getfield 9, 3) := by decide +kernel
theorem dX2_take_12 : decode cX2_take 12 = .ok (.iload_n 1, 1) := by decide +kernel
theorem dX2_take_13 : decode cX2_take 13 = .ok (.bipush 10, 2) := by decide +kernel
theorem dX2_take_15 : decode cX2_take 15 = .ok (.imul, 1) := by decide +kernel
theorem dX2_take_16 : decode cX2_take 16 = .ok (.iload_n 3, 1) := by decide +kernel
theorem dX2_take_17 : decode cX2_take 17 = .ok (.iadd, 1) := by decide +kernel
theorem dX2_take_18 : decode cX2_take 18 = .ok (.aload_n 2, 1) := by decide +kernel
theorem dX2_take_19 : decode cX2_take 19 = .ok (.iload_n 3, 1) := by decide +kernel
theorem dX2_take_20 : decode cX2_take 20 = .ok (.invokevirtual 35, 3) := by decide +kernel
theorem dX2_take_23 : decode cX2_take 23 = .ok (.iastore, 1) := by decide +kernel
theorem dX2_take_24 : decode cX2_take 24 = .ok (.iinc 3 1, 3) := by decide +kernel
theorem dX2_take_27 : decode cX2_take 27 = .ok (.goto (-25), 3) := by decide +kernel
theorem dX2_take_30 : decode cX2_take 30 = .ok (.return_, 1) := by decide +kernel
theorem dX2_countBallots_0 : decode cX2_countBallots 0 = .ok (.iconst 0, 1) := by decide +kernel
theorem dX2_countBallots_1 : decode cX2_countBallots 1 = .ok (.istore_n 1, 1) := by decide +kernel
theorem dX2_countBallots_2 : decode cX2_countBallots 2 = .ok (.iconst 0, 1) := by decide +kernel
theorem dX2_countBallots_3 : decode cX2_countBallots 3 = .ok (.istore_n 2, 1) := by decide +kernel
theorem dX2_countBallots_4 : decode cX2_countBallots 4 = .ok (.iload_n 2, 1) := by decide +kernel
theorem dX2_countBallots_5 : decode cX2_countBallots 5 = .ok (.bipush 10, 2) := by decide +kernel
theorem dX2_countBallots_7 : decode cX2_countBallots 7 = .ok (.if_icmp .ge 23, 3) := by decide +kernel
theorem dX2_countBallots_10 : decode cX2_countBallots 10 = .ok (.aload_n 0, 1) := by decide +kernel
theorem dX2_countBallots_11 : decode cX2_countBallots 11 = .ok (.iload_n 2, 1) := by decide +kernel
theorem dX2_countBallots_12 : decode cX2_countBallots 12 = .ok (.iconst 0, 1) := by decide +kernel
theorem dX2_countBallots_13 : decode cX2_countBallots 13 = .ok (.invokevirtual 41, 3) := by decide +kernel
theorem dX2_countBallots_16 : decode cX2_countBallots 16 = .ok (.bipush (-9), 2) := by decide +kernel
theorem dX2_countBallots_18 : decode cX2_countBallots 18 = .ok (.if_icmp .eq 6, 3) := by decide +kernel
theorem dX2_countBallots_21 : decode cX2_countBallots 21 = .ok (.iinc 1 1, 3) := by decide +kernel
theorem dX2_countBallots_24 : decode cX2_countBallots 24 = .ok (.iinc 2 1, 3) := by decide +kernel
theorem dX2_countBallots_27 : decode cX2_countBallots 27 = .ok (.goto (-23), 3) := by decide +kernel
theorem dX2_countBallots_30 : decode cX2_countBallots 30 = .ok (.iload_n 1, 1) := by decide +kernel
theorem dX2_countBallots_31 : decode cX2_countBallots 31 = .ok (.ireturn, 1) := by decide +kernel
theorem dX2_forget_0 : decode cX2_forget 0 = .ok (.aload_n 0, 1) := by decide +kernel
theorem dX2_forget_1 : decode cX2_forget 1 = .ok (.dup, 1) := by decide +kernel
theorem dX2_forget_2 : decode cX2_forget 2 = .ok (.getfield 25, 3) := by decide +kernel
theorem dX2_forget_5 : decode cX2_forget 5 = .ok (.iload_n 1, 1) := by decide +kernel
theorem dX2_forget_6 : decode cX2_forget 6 = .ok (.invokestatic 44, 3) := by decide +kernel
theorem dX2_forget_9 : decode cX2_forget 9 = .ok (.iconst (-1), 1) := by decide +kernel
theorem dX2_forget_10 : decode cX2_forget 10 = .ok (.ixor, 1) := by decide +kernel
theorem dX2_forget_11 : decode cX2_forget 11 = .ok (.iand, 1) := by decide +kernel
theorem dX2_forget_12 : decode cX2_forget 12 = .ok (.putfield 25, 3) := by decide +kernel
theorem dX2_forget_15 : decode cX2_forget 15 = .ok (.iconst 0, 1) := by decide +kernel
theorem dX2_forget_16 : decode cX2_forget 16 = .ok (.istore_n 2, 1) := by decide +kernel
theorem dX2_forget_17 : decode cX2_forget 17 = .ok (.iload_n 2, 1) := by decide +kernel
theorem dX2_forget_18 : decode cX2_forget 18 = .ok (.bipush 10, 2) := by decide +kernel
theorem dX2_forget_20 : decode cX2_forget 20 = .ok (.if_icmp .ge 22, 3) := by decide +kernel
theorem dX2_forget_23 : decode cX2_forget 23 = .ok (.aload_n 0, 1) := by decide +kernel
theorem dX2_forget_24 : decode cX2_forget 24 = .ok (.getfield 9, 3) := by decide +kernel
theorem dX2_forget_27 : decode cX2_forget 27 = .ok (.iload_n 1, 1) := by decide +kernel
theorem dX2_forget_28 : decode cX2_forget 28 = .ok (.bipush 10, 2) := by decide +kernel
theorem dX2_forget_30 : decode cX2_forget 30 = .ok (.imul, 1) := by decide +kernel
theorem dX2_forget_31 : decode cX2_forget 31 = .ok (.iload_n 2, 1) := by decide +kernel
theorem dX2_forget_32 : decode cX2_forget 32 = .ok (.iadd, 1) := by decide +kernel
theorem dX2_forget_33 : decode cX2_forget 33 = .ok (.bipush (-9), 2) := by decide +kernel
theorem dX2_forget_35 : decode cX2_forget 35 = .ok (.iastore, 1) := by decide +kernel
theorem dX2_forget_36 : decode cX2_forget 36 = .ok (.iinc 2 1, 3) := by decide +kernel
theorem dX2_forget_39 : decode cX2_forget 39 = .ok (.goto (-22), 3) := by decide +kernel
theorem dX2_forget_42 : decode cX2_forget 42 = .ok (.iconst 0, 1) := by decide +kernel
theorem dX2_forget_43 : decode cX2_forget 43 = .ok (.istore_n 2, 1) := by decide +kernel
theorem dX2_forget_44 : decode cX2_forget 44 = .ok (.iload_n 2, 1) := by decide +kernel
theorem dX2_forget_45 : decode cX2_forget 45 = .ok (.bipush 10, 2) := by decide +kernel
theorem dX2_forget_47 : decode cX2_forget 47 = .ok (.if_icmp .ge 15, 3) := by decide +kernel
theorem dX2_forget_50 : decode cX2_forget 50 = .ok (.aload_n 0, 1) := by decide +kernel
theorem dX2_forget_51 : decode cX2_forget 51 = .ok (.iload_n 2, 1) := by decide +kernel
theorem dX2_forget_52 : decode cX2_forget 52 = .ok (.iload_n 1, 1) := by decide +kernel
theorem dX2_forget_53 : decode cX2_forget 53 = .ok (.invokevirtual 47, 3) := by decide +kernel
theorem dX2_forget_56 : decode cX2_forget 56 = .ok (.iinc 2 1, 3) := by decide +kernel
theorem dX2_forget_59 : decode cX2_forget 59 = .ok (.goto (-15), 3) := by decide +kernel
theorem dX2_forget_62 : decode cX2_forget 62 = .ok (.return_, 1) := by decide +kernel
theorem dX2_strike_0 : decode cX2_strike 0 = .ok (.iload_n 1, 1) := by decide +kernel
theorem dX2_strike_1 : decode cX2_strike 1 = .ok (.bipush 10, 2) := by decide +kernel
theorem dX2_strike_3 : decode cX2_strike 3 = .ok (.imul, 1) := by decide +kernel
theorem dX2_strike_4 : decode cX2_strike 4 = .ok (.istore_n 3, 1) := by decide +kernel
theorem dX2_strike_5 : decode cX2_strike 5 = .ok (.iconst 0, 1) := by decide +kernel
theorem dX2_strike_6 : decode cX2_strike 6 = .ok (.istore 4, 2) := by decide +kernel
theorem dX2_strike_8 : decode cX2_strike 8 = .ok (.iconst 0, 1) := by decide +kernel
theorem dX2_strike_9 : decode cX2_strike 9 = .ok (.istore 5, 2) := by decide +kernel
theorem dX2_strike_11 : decode cX2_strike 11 = .ok (.iload 5, 2) := by decide +kernel
theorem dX2_strike_13 : decode cX2_strike 13 = .ok (.bipush 10, 2) := by decide +kernel
theorem dX2_strike_15 : decode cX2_strike 15 = .ok (.if_icmp .ge 40, 3) := by decide +kernel
theorem dX2_strike_18 : decode cX2_strike 18 = .ok (.aload_n 0, 1) := by decide +kernel
theorem dX2_strike_19 : decode cX2_strike 19 = .ok (.getfield 9, 3) := by decide +kernel
theorem dX2_strike_22 : decode cX2_strike 22 = .ok (.iload_n 3, 1) := by decide +kernel
theorem dX2_strike_23 : decode cX2_strike 23 = .ok (.iload 5, 2) := by decide +kernel
theorem dX2_strike_25 : decode cX2_strike 25 = .ok (.iadd, 1) := by decide +kernel
theorem dX2_strike_26 : decode cX2_strike 26 = .ok (.iaload, 1) := by decide +kernel
theorem dX2_strike_27 : decode cX2_strike 27 = .ok (.istore 6, 2) := by decide +kernel
theorem dX2_strike_29 : decode cX2_strike 29 = .ok (.iload 6, 2) := by decide +kernel
theorem dX2_strike_31 : decode cX2_strike 31 = .ok (.iload_n 2, 1) := by decide +kernel
theorem dX2_strike_32 : decode cX2_strike 32 = .ok (.if_icmp .eq 17, 3) := by decide +kernel
theorem dX2_strike_35 : decode cX2_strike 35 = .ok (.aload_n 0, 1) := by decide +kernel
theorem dX2_strike_36 : decode cX2_strike 36 = .ok (.getfield 9, 3) := by decide +kernel
theorem dX2_strike_39 : decode cX2_strike 39 = .ok (.iload_n 3, 1) := by decide +kernel
theorem dX2_strike_40 : decode cX2_strike 40 = .ok (.iload 4, 2) := by decide +kernel
theorem dX2_strike_42 : decode cX2_strike 42 = .ok (.iadd, 1) := by decide +kernel
theorem dX2_strike_43 : decode cX2_strike 43 = .ok (.iload 6, 2) := by decide +kernel
theorem dX2_strike_45 : decode cX2_strike 45 = .ok (.iastore, 1) := by decide +kernel
theorem dX2_strike_46 : decode cX2_strike 46 = .ok (.iinc 4 1, 3) := by decide +kernel
theorem dX2_strike_49 : decode cX2_strike 49 = .ok (.iinc 5 1, 3) := by decide +kernel
theorem dX2_strike_52 : decode cX2_strike 52 = .ok (.goto (-41), 3) := by decide +kernel
theorem dX2_strike_55 : decode cX2_strike 55 = .ok (.iload 4, 2) := by decide +kernel
theorem dX2_strike_57 : decode cX2_strike 57 = .ok (.istore 5, 2) := by decide +kernel
theorem dX2_strike_59 : decode cX2_strike 59 = .ok (.iload 5, 2) := by decide +kernel
theorem dX2_strike_61 : decode cX2_strike 61 = .ok (.bipush 10, 2) := by decide +kernel
theorem dX2_strike_63 : decode cX2_strike 63 = .ok (.if_icmp .ge 20, 3) := by decide +kernel
theorem dX2_strike_66 : decode cX2_strike 66 = .ok (.aload_n 0, 1) := by decide +kernel
theorem dX2_strike_67 : decode cX2_strike 67 = .ok (.getfield 9, 3) := by decide +kernel
theorem dX2_strike_70 : decode cX2_strike 70 = .ok (.iload_n 3, 1) := by decide +kernel
theorem dX2_strike_71 : decode cX2_strike 71 = .ok (.iload 5, 2) := by decide +kernel
theorem dX2_strike_73 : decode cX2_strike 73 = .ok (.iadd, 1) := by decide +kernel
theorem dX2_strike_74 : decode cX2_strike 74 = .ok (.bipush (-9), 2) := by decide +kernel
theorem dX2_strike_76 : decode cX2_strike 76 = .ok (.iastore, 1) := by decide +kernel
theorem dX2_strike_77 : decode cX2_strike 77 = .ok (.iinc 5 1, 3) := by decide +kernel
theorem dX2_strike_80 : decode cX2_strike 80 = .ok (.goto (-21), 3) := by decide +kernel
theorem dX2_strike_83 : decode cX2_strike 83 = .ok (.return_, 1) := by decide +kernel
theorem dX2_firstAmong_0 : decode cX2_firstAmong 0 = .ok (.iconst 0, 1) := by decide +kernel
theorem dX2_firstAmong_1 : decode cX2_firstAmong 1 = .ok (.istore_n 3, 1) := by decide +kernel
theorem dX2_firstAmong_2 : decode cX2_firstAmong 2 = .ok (.iload_n 3, 1) := by decide +kernel
theorem dX2_firstAmong_3 : decode cX2_firstAmong 3 = .ok (.bipush 10, 2) := by decide +kernel
theorem dX2_firstAmong_5 : decode cX2_firstAmong 5 = .ok (.if_icmp .ge 36, 3) := by decide +kernel
theorem dX2_firstAmong_8 : decode cX2_firstAmong 8 = .ok (.aload_n 0, 1) := by decide +kernel
theorem dX2_firstAmong_9 : decode cX2_firstAmong 9 = .ok (.iload_n 2, 1) := by decide +kernel
theorem dX2_firstAmong_10 : decode cX2_firstAmong 10 = .ok (.iload_n 3, 1) := by decide +kernel
theorem dX2_firstAmong_11 : decode cX2_firstAmong 11 = .ok (.invokevirtual 41, 3) := by decide +kernel
theorem dX2_firstAmong_14 : decode cX2_firstAmong 14 = .ok (.istore 4, 2) := by decide +kernel
theorem dX2_firstAmong_16 : decode cX2_firstAmong 16 = .ok (.iload 4, 2) := by decide +kernel
theorem dX2_firstAmong_18 : decode cX2_firstAmong 18 = .ok (.bipush (-9), 2) := by decide +kernel
theorem dX2_firstAmong_20 : decode cX2_firstAmong 20 = .ok (.if_icmp .eq 15, 3) := by decide +kernel
theorem dX2_firstAmong_23 : decode cX2_firstAmong 23 = .ok (.iload_n 1, 1) := by decide +kernel
theorem dX2_firstAmong_24 : decode cX2_firstAmong 24 = .ok (.iload 4, 2) := by decide +kernel
theorem dX2_firstAmong_26 : decode cX2_firstAmong 26 = .ok (.invokestatic 51, 3) := by decide +kernel
theorem dX2_firstAmong_29 : decode cX2_firstAmong 29 = .ok (.ifCond .eq 6, 3) := by decide +kernel
theorem dX2_firstAmong_32 : decode cX2_firstAmong 32 = .ok (.iload 4, 2) := by decide +kernel
theorem dX2_firstAmong_34 : decode cX2_firstAmong 34 = .ok (.ireturn, 1) := by decide +kernel
theorem dX2_firstAmong_35 : decode cX2_firstAmong 35 = .ok (.iinc 3 1, 3) := by decide +kernel
theorem dX2_firstAmong_38 : decode cX2_firstAmong 38 = .ok (.goto (-36), 3) := by decide +kernel
theorem dX2_firstAmong_41 : decode cX2_firstAmong 41 = .ok (.bipush (-9), 2) := by decide +kernel
theorem dX2_firstAmong_43 : decode cX2_firstAmong 43 = .ok (.ireturn, 1) := by decide +kernel
theorem dX3_init_0 : decode cX3_init 0 = .ok (.aload_n 0, 1) := by decide +kernel
theorem dX3_init_1 : decode cX3_init 1 = .ok (.invokespecial 3, 3) := by decide +kernel
theorem dX3_init_4 : decode cX3_init 4 = .ok (.aload_n 0, 1) := by decide +kernel
theorem dX3_init_5 : decode cX3_init 5 = .ok (.iconst 5, 1) := by decide +kernel
theorem dX3_init_6 : decode cX3_init 6 = .ok (.anewarray 9, 3) := by decide +kernel
theorem dX3_init_9 : decode cX3_init 9 = .ok (.putfield 11, 3) := by decide +kernel
theorem dX3_init_12 : decode cX3_init 12 = .ok (.iconst 0, 1) := by decide +kernel
theorem dX3_init_13 : decode cX3_init 13 = .ok (.istore_n 1, 1) := by decide +kernel
theorem dX3_init_14 : decode cX3_init 14 = .ok (.iload_n 1, 1) := by decide +kernel
theorem dX3_init_15 : decode cX3_init 15 = .ok (.iconst 5, 1) := by decide +kernel
theorem dX3_init_16 : decode cX3_init 16 = .ok (.if_icmp .ge 22, 3) := by decide +kernel
theorem dX3_init_19 : decode cX3_init 19 = .ok (.aload_n 0, 1) := by decide +kernel
theorem dX3_init_20 : decode cX3_init 20 = .ok (.getfield 11, 3) := by decide +kernel
theorem dX3_init_23 : decode cX3_init 23 = .ok (.iload_n 1, 1) := by decide +kernel
theorem dX3_init_24 : decode cX3_init 24 = .ok (.new 9, 3) := by decide +kernel
theorem dX3_init_27 : decode cX3_init 27 = .ok (.dup, 1) := by decide +kernel
theorem dX3_init_28 : decode cX3_init 28 = .ok (.invokespecial 17, 3) := by decide +kernel
theorem dX3_init_31 : decode cX3_init 31 = .ok (.aastore, 1) := by decide +kernel
theorem dX3_init_32 : decode cX3_init 32 = .ok (.iinc 1 1, 3) := by decide +kernel
theorem dX3_init_35 : decode cX3_init 35 = .ok (.goto (-21), 3) := by decide +kernel
theorem dX3_init_38 : decode cX3_init 38 = .ok (.return_, 1) := by decide +kernel
theorem dX3_keep_0 : decode cX3_keep 0 = .ok (.aload_n 0, 1) := by decide +kernel
theorem dX3_keep_1 : decode cX3_keep 1 = .ok (.getfield 11, 3) := by decide +kernel
theorem dX3_keep_4 : decode cX3_keep 4 = .ok (.aload_n 0, 1) := by decide +kernel
theorem dX3_keep_5 : decode cX3_keep 5 = .ok (.getfield 18, 3) := by decide +kernel
theorem dX3_keep_8 : decode cX3_keep 8 = .ok (.aaload, 1) := by decide +kernel
theorem dX3_keep_9 : decode cX3_keep 9 = .ok (.aload_n 1, 1) := by decide +kernel
theorem dX3_keep_10 : decode cX3_keep 10 = .ok (.invokevirtual 22, 3) := by decide +kernel
theorem dX3_keep_13 : decode cX3_keep 13 = .ok (.aload_n 0, 1) := by decide +kernel
theorem dX3_keep_14 : decode cX3_keep 14 = .ok (.aload_n 0, 1) := by decide +kernel
theorem dX3_keep_15 : decode cX3_keep 15 = .ok (.getfield 18, 3) := by decide +kernel
theorem dX3_keep_18 : decode cX3_keep 18 = .ok (.iconst 1, 1) := by decide +kernel
theorem dX3_keep_19 : decode cX3_keep 19 = .ok (.iadd, 1) := by decide +kernel
theorem dX3_keep_20 : decode cX3_keep 20 = .ok (.iconst 5, 1) := by decide +kernel
theorem dX3_keep_21 : decode cX3_keep 21 = .ok (.irem, 1) := by decide +kernel
theorem dX3_keep_22 : decode cX3_keep 22 = .ok (.putfield 18, 3) := by decide +kernel
theorem dX3_keep_25 : decode cX3_keep 25 = .ok (.aload_n 0, 1) := by decide +kernel
theorem dX3_keep_26 : decode cX3_keep 26 = .ok (.aload_n 0, 1) := by decide +kernel
theorem dX3_keep_27 : decode cX3_keep 27 = .ok (.getfield 26, 3) := by decide +kernel
theorem dX3_keep_30 : decode cX3_keep 30 = .ok (.iconst 1, 1) := by decide +kernel
theorem dX3_keep_31 : decode cX3_keep 31 = .ok (.iadd, 1) := by decide +kernel
theorem dX3_keep_32 : decode cX3_keep 32 = .ok (.iconst 5, 1) := by decide +kernel
theorem dX3_keep_33 : decode cX3_keep 33 = .ok (.invokestatic 29, 3) := by decide +kernel
theorem dX3_keep_36 : decode cX3_keep 36 = .ok (.putfield 26, 3) := by decide +kernel
theorem dX3_keep_39 : decode cX3_keep 39 = .ok (.return_, 1) := by decide +kernel
theorem dX3_restore_0 : decode cX3_restore 0 = .ok (.aload_n 0, 1) := by decide +kernel
theorem dX3_restore_1 : decode cX3_restore 1 = .ok (.aload_n 0, 1) := by decide +kernel
theorem dX3_restore_2 : decode cX3_restore 2 = .ok (.getfield 18, 3) := by decide +kernel
theorem dX3_restore_5 : decode cX3_restore 5 = .ok (.iconst 5, 1) := by decide +kernel
theorem dX3_restore_6 : decode cX3_restore 6 = .ok (.iadd, 1) := by decide +kernel
theorem dX3_restore_7 : decode cX3_restore 7 = .ok (.iconst 1, 1) := by decide +kernel
theorem dX3_restore_8 : decode cX3_restore 8 = .ok (.isub, 1) := by decide +kernel
theorem dX3_restore_9 : decode cX3_restore 9 = .ok (.iconst 5, 1) := by decide +kernel
theorem dX3_restore_10 : decode cX3_restore 10 = .ok (.irem, 1) := by decide +kernel
theorem dX3_restore_11 : decode cX3_restore 11 = .ok (.putfield 18, 3) := by decide +kernel
theorem dX3_restore_14 : decode cX3_restore 14 = .ok (.aload_n 1, 1) := by decide +kernel
theorem dX3_restore_15 : decode cX3_restore 15 = .ok (.aload_n 0, 1) := by decide +kernel
theorem dX3_restore_16 : decode cX3_restore 16 = .ok (.getfield 11, 3) := by decide +kernel
theorem dX3_restore_19 : decode cX3_restore 19 = .ok (.aload_n 0, 1) := by decide +kernel
theorem dX3_restore_20 : decode cX3_restore 20 = .ok (.getfield 18, 3) := by decide +kernel
theorem dX3_restore_23 : decode cX3_restore 23 = .ok (.aaload, 1) := by decide +kernel
theorem dX3_restore_24 : decode cX3_restore 24 = .ok (.invokevirtual 22, 3) := by decide +kernel
theorem dX3_restore_27 : decode cX3_restore 27 = .ok (.aload_n 0, 1) := by decide +kernel
theorem dX3_restore_28 : decode cX3_restore 28 = .ok (.dup, 1) := by decide +kernel
theorem dX3_restore_29 : decode cX3_restore 29 = .ok (.getfield 26, 3) := by decide +kernel
theorem dX3_restore_32 : decode cX3_restore 32 = .ok (.iconst 1, 1) := by decide +kernel
theorem dX3_restore_33 : decode cX3_restore 33 = .ok (.isub, 1) := by decide +kernel
theorem dX3_restore_34 : decode cX3_restore 34 = .ok (.putfield 26, 3) := by decide +kernel
theorem dX3_restore_37 : decode cX3_restore 37 = .ok (.return_, 1) := by decide +kernel
theorem dX4_init_0 : decode cX4_init 0 = .ok (.aload_n 0, 1) := by decide +kernel
theorem dX4_init_1 : decode cX4_init 1 = .ok (.invokespecial 3, 3) := by decide +kernel
theorem dX4_init_4 : decode cX4_init 4 = .ok (.aload_n 0, 1) := by decide +kernel
theorem dX4_init_5 : decode cX4_init 5 = .ok (.bipush 100, 2) := by decide +kernel
theorem dX4_init_7 : decode cX4_init 7 = .ok (.newarray .int, 2) := by decide +kernel
theorem dX4_init_9 : decode cX4_init 9 = .ok (.putfield 9, 3) := by decide +kernel
theorem dX4_init_12 : decode cX4_init 12 = .ok (.return_, 1) := by decide +kernel
theorem dX4_copy_0 : decode cX4_copy 0 = .ok (.aload_n 0, 1) := by decide +kernel
theorem dX4_copy_1 : decode cX4_copy 1 = .ok (.aload_n 1, 1) := by decide +kernel
theorem dX4_copy_2 : decode cX4_copy 2 = .ok (.getfield 15, 3) := by decide +kernel
theorem dX4_copy_5 : decode cX4_copy 5 = .ok (.putfield 15, 3) := by decide +kernel
theorem dX4_copy_8 : decode cX4_copy 8 = .ok (.aload_n 1, 1) := by decide +kernel
theorem dX4_copy_9 : decode cX4_copy 9 = .ok (.getfield 9, 3) := by decide +kernel
theorem dX4_copy_12 : decode cX4_copy 12 = .ok (.iconst 0, 1) := by decide +kernel
theorem dX4_copy_13 : decode cX4_copy 13 = .ok (.aload_n 0, 1) := by decide +kernel
theorem dX4_copy_14 : decode cX4_copy 14 = .ok (.getfield 9, 3) := by decide +kernel
theorem dX4_copy_17 : decode cX4_copy 17 = .ok (.iconst 0, 1) := by decide +kernel
theorem dX4_copy_18 : decode cX4_copy 18 = .ok (.aload_n 0, 1) := by decide +kernel
theorem dX4_copy_19 : decode cX4_copy 19 = .ok (.getfield 9, 3) := by decide +kernel
theorem dX4_copy_22 : decode cX4_copy 22 = .ok (.arraylength, 1) := by decide +kernel
theorem dX4_copy_23 : decode cX4_copy 23 = .ok (.invokestatic 19, 3) := by decide +kernel
theorem dX4_copy_26 : decode cX4_copy 26 = .ok (.return_, 1) := by decide +kernel
theorem dX4_votesFor_0 : decode cX4_votesFor 0 = .ok (.aload_n 0, 1) := by decide +kernel
theorem dX4_votesFor_1 : decode cX4_votesFor 1 = .ok (.getfield 9, 3) := by decide +kernel
theorem dX4_votesFor_4 : decode cX4_votesFor 4 = .ok (.iload_n 2, 1) := by decide +kernel
theorem dX4_votesFor_5 : decode cX4_votesFor 5 = .ok (.bipush 10, 2) := by decide +kernel
theorem dX4_votesFor_7 : decode cX4_votesFor 7 = .ok (.imul, 1) := by decide +kernel
theorem dX4_votesFor_8 : decode cX4_votesFor 8 = .ok (.iload_n 1, 1) := by decide +kernel
theorem dX4_votesFor_9 : decode cX4_votesFor 9 = .ok (.iadd, 1) := by decide +kernel
theorem dX4_votesFor_10 : decode cX4_votesFor 10 = .ok (.iaload, 1) := by decide +kernel
theorem dX4_votesFor_11 : decode cX4_votesFor 11 = .ok (.ireturn, 1) := by decide +kernel
theorem dX4_count_0 : decode cX4_count 0 = .ok (.iload_n 1, 1) := by decide +kernel
theorem dX4_count_1 : decode cX4_count 1 = .ok (.bipush 10, 2) := by decide +kernel
theorem dX4_count_3 : decode cX4_count 3 = .ok (.imul, 1) := by decide +kernel
theorem dX4_count_4 : decode cX4_count 4 = .ok (.istore 4, 2) := by decide +kernel
theorem dX4_count_6 : decode cX4_count 6 = .ok (.iconst 0, 1) := by decide +kernel
theorem dX4_count_7 : decode cX4_count 7 = .ok (.istore 5, 2) := by decide +kernel
theorem dX4_count_9 : decode cX4_count 9 = .ok (.iload 5, 2) := by decide +kernel
theorem dX4_count_11 : decode cX4_count 11 = .ok (.bipush 10, 2) := by decide +kernel
theorem dX4_count_13 : decode cX4_count 13 = .ok (.if_icmp .ge 34, 3) := by decide +kernel
theorem dX4_count_16 : decode cX4_count 16 = .ok (.aload_n 0, 1) := by decide +kernel
theorem dX4_count_17 : decode cX4_count 17 = .ok (.getfield 9, 3) := by decide +kernel
theorem dX4_count_20 : decode cX4_count 20 = .ok (.iload 4, 2) := by decide +kernel
theorem dX4_count_22 : decode cX4_count 22 = .ok (.iload 5, 2) := by decide +kernel
theorem dX4_count_24 : decode cX4_count 24 = .ok (.iadd, 1) := by decide +kernel
theorem dX4_count_25 : decode cX4_count 25 = .ok (.iload_n 2, 1) := by decide +kernel
theorem dX4_count_26 : decode cX4_count 26 = .ok (.iload 5, 2) := by decide +kernel
theorem dX4_count_28 : decode cX4_count 28 = .ok (.invokestatic 25, 3) := by decide +kernel
theorem dX4_count_31 : decode cX4_count 31 = .ok (.ifCond .eq 7, 3) := by decide +kernel
theorem dX4_count_34 : decode cX4_count 34 = .ok (.iconst 0, 1) := by decide +kernel
theorem dX4_count_35 : decode cX4_count 35 = .ok (.goto 5, 3) := by decide +kernel
theorem dX4_count_38 : decode cX4_count 38 = .ok (.bipush (-9), 2) := by decide +kernel
theorem dX4_count_40 : decode cX4_count 40 = .ok (.iastore, 1) := by decide +kernel
theorem dX4_count_41 : decode cX4_count 41 = .ok (.iinc 5 1, 3) := by decide +kernel
theorem dX4_count_44 : decode cX4_count 44 = .ok (.goto (-35), 3) := by decide +kernel
theorem dX4_count_47 : decode cX4_count 47 = .ok (.iconst 0, 1) := by decide +kernel
theorem dX4_count_48 : decode cX4_count 48 = .ok (.istore 5, 2) := by decide +kernel
theorem dX4_count_50 : decode cX4_count 50 = .ok (.iload 5, 2) := by decide +kernel
theorem dX4_count_52 : decode cX4_count 52 = .ok (.bipush 10, 2) := by decide +kernel
theorem dX4_count_54 : decode cX4_count 54 = .ok (.if_icmp .ge 44, 3) := by decide +kernel
theorem dX4_count_57 : decode cX4_count 57 = .ok (.aload_n 3, 1) := by decide +kernel
theorem dX4_count_58 : decode cX4_count 58 = .ok (.iload_n 2, 1) := by decide +kernel
theorem dX4_count_59 : decode cX4_count 59 = .ok (.iload 5, 2) := by decide +kernel
theorem dX4_count_61 : decode cX4_count 61 = .ok (.invokevirtual 29, 3) := by decide +kernel
theorem dX4_count_64 : decode cX4_count 64 = .ok (.istore 6, 2) := by decide +kernel
theorem dX4_count_66 : decode cX4_count 66 = .ok (.iload 6, 2) := by decide +kernel
theorem dX4_count_68 : decode cX4_count 68 = .ok (.ifCond .lt 24, 3) := by decide +kernel
theorem dX4_count_71 : decode cX4_count 71 = .ok (.iload 6, 2) := by decide +kernel
theorem dX4_count_73 : decode cX4_count 73 = .ok (.bipush 10, 2) := by decide +kernel
theorem dX4_count_75 : decode cX4_count 75 = .ok (.if_icmp .ge 17, 3) := by decide +kernel
theorem dX4_count_78 : decode cX4_count 78 = .ok (.aload_n 0, 1) := by decide +kernel
theorem dX4_count_79 : decode cX4_count 79 = .ok (.getfield 9, 3) := by decide +kernel
theorem dX4_count_82 : decode cX4_count 82 = .ok (.iload 4, 2) := by decide +kernel
theorem dX4_count_84 : decode cX4_count 84 = .ok (.iload 6, 2) := by decide +kernel
theorem dX4_count_86 : decode cX4_count 86 = .ok (.iadd, 1) := by decide +kernel
theorem dX4_count_87 : decode cX4_count 87 = .ok (.dup2, 1) := by decide +kernel
theorem dX4_count_88 : decode cX4_count 88 = .ok (.iaload, 1) := by decide +kernel
theorem dX4_count_89 : decode cX4_count 89 = .ok (.iconst 1, 1) := by decide +kernel
theorem dX4_count_90 : decode cX4_count 90 = .ok (.iadd, 1) := by decide +kernel
theorem dX4_count_91 : decode cX4_count 91 = .ok (.iastore, 1) := by decide +kernel
theorem dX4_count_92 : decode cX4_count 92 = .ok (.iinc 5 1, 3) := by decide +kernel
theorem dX4_count_95 : decode cX4_count 95 = .ok (.goto (-45), 3) := by decide +kernel
theorem dX4_count_98 : decode cX4_count 98 = .ok (.aload_n 0, 1) := by decide +kernel
theorem dX4_count_99 : decode cX4_count 99 = .ok (.iload_n 1, 1) := by decide +kernel
theorem dX4_count_100 : decode cX4_count 100 = .ok (.iconst 1, 1) := by decide +kernel
theorem dX4_count_101 : decode cX4_count 101 = .ok (.iadd, 1) := by decide +kernel
theorem dX4_count_102 : decode cX4_count 102 = .ok (.putfield 15, 3) := by decide +kernel
theorem dX4_count_105 : decode cX4_count 105 = .ok (.return_, 1) := by decide +kernel
theorem dX4_winner_0 : decode cX4_winner 0 = .ok (.iload_n 2, 1) := by decide +kernel
theorem dX4_winner_1 : decode cX4_winner 1 = .ok (.invokestatic 35, 3) := by decide +kernel
theorem dX4_winner_4 : decode cX4_winner 4 = .ok (.iconst 1, 1) := by decide +kernel
theorem dX4_winner_5 : decode cX4_winner 5 = .ok (.if_icmp .ne 7, 3) := by decide +kernel
theorem dX4_winner_8 : decode cX4_winner 8 = .ok (.iconst 1, 1) := by decide +kernel
theorem dX4_winner_9 : decode cX4_winner 9 = .ok (.goto 4, 3) := by decide +kernel
theorem dX4_winner_12 : decode cX4_winner 12 = .ok (.iconst 0, 1) := by decide +kernel
theorem dX4_winner_13 : decode cX4_winner 13 = .ok (.istore_n 3, 1) := by decide +kernel
theorem dX4_winner_14 : decode cX4_winner 14 = .ok (.aload_n 0, 1) := by decide +kernel
theorem dX4_winner_15 : decode cX4_winner 15 = .ok (.iload_n 1, 1) := by decide +kernel
theorem dX4_winner_16 : decode cX4_winner 16 = .ok (.iload_n 2, 1) := by decide +kernel
theorem dX4_winner_17 : decode cX4_winner 17 = .ok (.invokevirtual 41, 3) := by decide +kernel
theorem dX4_winner_20 : decode cX4_winner 20 = .ok (.istore 4, 2) := by decide +kernel
theorem dX4_winner_22 : decode cX4_winner 22 = .ok (.iconst 0, 1) := by decide +kernel
theorem dX4_winner_23 : decode cX4_winner 23 = .ok (.istore 5, 2) := by decide +kernel
theorem dX4_winner_25 : decode cX4_winner 25 = .ok (.iload 5, 2) := by decide +kernel
theorem dX4_winner_27 : decode cX4_winner 27 = .ok (.bipush 10, 2) := by decide +kernel
theorem dX4_winner_29 : decode cX4_winner 29 = .ok (.if_icmp .ge 39, 3) := by decide +kernel
theorem dX4_winner_32 : decode cX4_winner 32 = .ok (.iload_n 2, 1) := by decide +kernel
theorem dX4_winner_33 : decode cX4_winner 33 = .ok (.iload 5, 2) := by decide +kernel
theorem dX4_winner_35 : decode cX4_winner 35 = .ok (.invokestatic 25, 3) := by decide +kernel
theorem dX4_winner_38 : decode cX4_winner 38 = .ok (.ifCond .eq 24, 3) := by decide +kernel
theorem dX4_winner_41 : decode cX4_winner 41 = .ok (.iload_n 3, 1) := by decide +kernel
theorem dX4_winner_42 : decode cX4_winner 42 = .ok (.ifCond .ne 17, 3) := by decide +kernel
theorem dX4_winner_45 : decode cX4_winner 45 = .ok (.iconst 2, 1) := by decide +kernel
theorem dX4_winner_46 : decode cX4_winner 46 = .ok (.aload_n 0, 1) := by decide +kernel
theorem dX4_winner_47 : decode cX4_winner 47 = .ok (.iload 5, 2) := by decide +kernel
theorem dX4_winner_49 : decode cX4_winner 49 = .ok (.iload_n 1, 1) := by decide +kernel
theorem dX4_winner_50 : decode cX4_winner 50 = .ok (.invokevirtual 44, 3) := by decide +kernel
theorem dX4_winner_53 : decode cX4_winner 53 = .ok (.imul, 1) := by decide +kernel
theorem dX4_winner_54 : decode cX4_winner 54 = .ok (.iload 4, 2) := by decide +kernel
theorem dX4_winner_56 : decode cX4_winner 56 = .ok (.if_icmp .le 6, 3) := by decide +kernel
theorem dX4_winner_59 : decode cX4_winner 59 = .ok (.iload 5, 2) := by decide +kernel
theorem dX4_winner_61 : decode cX4_winner 61 = .ok (.ireturn, 1) := by decide +kernel
theorem dX4_winner_62 : decode cX4_winner 62 = .ok (.iinc 5 1, 3) := by decide +kernel
theorem dX4_winner_65 : decode cX4_winner 65 = .ok (.goto (-40), 3) := by decide +kernel
theorem dX4_winner_68 : decode cX4_winner 68 = .ok (.bipush (-9), 2) := by decide +kernel
theorem dX4_winner_70 : decode cX4_winner 70 = .ok (.ireturn, 1) := by decide +kernel
theorem dX4_countAll_0 : decode cX4_countAll 0 = .ok (.iconst 0, 1) := by decide +kernel
theorem dX4_countAll_1 : decode cX4_countAll 1 = .ok (.istore_n 3, 1) := by decide +kernel
theorem dX4_countAll_2 : decode cX4_countAll 2 = .ok (.iconst 0, 1) := by decide +kernel
theorem dX4_countAll_3 : decode cX4_countAll 3 = .ok (.istore 4, 2) := by decide +kernel
theorem dX4_countAll_5 : decode cX4_countAll 5 = .ok (.iload 4, 2) := by decide +kernel
theorem dX4_countAll_7 : decode cX4_countAll 7 = .ok (.bipush 10, 2) := by decide +kernel
theorem dX4_countAll_9 : decode cX4_countAll 9 = .ok (.if_icmp .ge 28, 3) := by decide +kernel
theorem dX4_countAll_12 : decode cX4_countAll 12 = .ok (.iload_n 2, 1) := by decide +kernel
theorem dX4_countAll_13 : decode cX4_countAll 13 = .ok (.iload 4, 2) := by decide +kernel
theorem dX4_countAll_15 : decode cX4_countAll 15 = .ok (.invokestatic 25, 3) := by decide +kernel
theorem dX4_countAll_18 : decode cX4_countAll 18 = .ok (.ifCond .eq 13, 3) := by decide +kernel
theorem dX4_countAll_21 : decode cX4_countAll 21 = .ok (.iload_n 3, 1) := by decide +kernel
theorem dX4_countAll_22 : decode cX4_countAll 22 = .ok (.aload_n 0, 1) := by decide +kernel
theorem dX4_countAll_23 : decode cX4_countAll 23 = .ok (.iload 4, 2) := by decide +kernel
theorem dX4_countAll_25 : decode cX4_countAll 25 = .ok (.iload_n 1, 1) := by decide +kernel
theorem dX4_countAll_26 : decode cX4_countAll 26 = .ok (.invokevirtual 44, 3) := by decide +kernel
theorem dX4_countAll_29 : decode cX4_countAll 29 = .ok (.iadd, 1) := by decide +kernel
theorem dX4_countAll_30 : decode cX4_countAll 30 = .ok (.istore_n 3, 1) := by decide +kernel
theorem dX4_countAll_31 : decode cX4_countAll 31 = .ok (.iinc 4 1, 3) := by decide +kernel
theorem dX4_countAll_34 : decode cX4_countAll 34 = .ok (.goto (-29), 3) := by decide +kernel
theorem dX4_countAll_37 : decode cX4_countAll 37 = .ok (.iload_n 3, 1) := by decide +kernel
theorem dX4_countAll_38 : decode cX4_countAll 38 = .ok (.ireturn, 1) := by decide +kernel
theorem dX5_init_0 : decode cX5_init 0 = .ok (.aload_n 0, 1) := by decide +kernel
theorem dX5_init_1 : decode cX5_init 1 = .ok (.invokespecial 3, 3) := by decide +kernel
theorem dX5_init_4 : decode cX5_init 4 = .ok (.aload_n 0, 1) := by decide +kernel
theorem dX5_init_5 : decode cX5_init 5 = .ok (.bipush 6, 2) := by decide +kernel
theorem dX5_init_7 : decode cX5_init 7 = .ok (.newarray .int, 2) := by decide +kernel
theorem dX5_init_9 : decode cX5_init 9 = .ok (.putfield 9, 3) := by decide +kernel
theorem dX5_init_12 : decode cX5_init 12 = .ok (.aload_n 0, 1) := by decide +kernel
theorem dX5_init_13 : decode cX5_init 13 = .ok (.bipush 10, 2) := by decide +kernel
theorem dX5_init_15 : decode cX5_init 15 = .ok (.newarray .int, 2) := by decide +kernel
theorem dX5_init_17 : decode cX5_init 17 = .ok (.putfield 15, 3) := by decide +kernel
theorem dX5_init_20 : decode cX5_init 20 = .ok (.aload_n 0, 1) := by decide +kernel
theorem dX5_init_21 : decode cX5_init 21 = .ok (.iconst 0, 1) := by decide +kernel
theorem dX5_init_22 : decode cX5_init 22 = .ok (.putfield 18, 3) := by decide +kernel
theorem dX5_init_25 : decode cX5_init 25 = .ok (.aload_n 0, 1) := by decide +kernel
theorem dX5_init_26 : decode cX5_init 26 = .ok (.bipush (-9), 2) := by decide +kernel
theorem dX5_init_28 : decode cX5_init 28 = .ok (.putfield 22, 3) := by decide +kernel
theorem dX5_init_31 : decode cX5_init 31 = .ok (.aload_n 0, 1) := by decide +kernel
theorem dX5_init_32 : decode cX5_init 32 = .ok (.new 25, 3) := by decide +kernel
theorem dX5_init_35 : decode cX5_init 35 = .ok (.dup, 1) := by decide +kernel
theorem dX5_init_36 : decode cX5_init 36 = .ok (.invokespecial 27, 3) := by decide +kernel
theorem dX5_init_39 : decode cX5_init 39 = .ok (.putfield 28, 3) := by decide +kernel
theorem dX5_init_42 : decode cX5_init 42 = .ok (.aload_n 0, 1) := by decide +kernel
theorem dX5_init_43 : decode cX5_init 43 = .ok (.new 32, 3) := by decide +kernel
theorem dX5_init_46 : decode cX5_init 46 = .ok (.dup, 1) := by decide +kernel
theorem dX5_init_47 : decode cX5_init 47 = .ok (.invokespecial 34, 3) := by decide +kernel
theorem dX5_init_50 : decode cX5_init 50 = .ok (.putfield 35, 3) := by decide +kernel
theorem dX5_init_53 : decode cX5_init 53 = .ok (.aload_n 0, 1) := by decide +kernel
theorem dX5_init_54 : decode cX5_init 54 = .ok (.new 39, 3) := by decide +kernel
theorem dX5_init_57 : decode cX5_init 57 = .ok (.dup, 1) := by decide +kernel
theorem dX5_init_58 : decode cX5_init 58 = .ok (.invokespecial 41, 3) := by decide +kernel
theorem dX5_init_61 : decode cX5_init 61 = .ok (.putfield 42, 3) := by decide +kernel
theorem dX5_init_64 : decode cX5_init 64 = .ok (.aload_n 0, 1) := by decide +kernel
theorem dX5_init_65 : decode cX5_init 65 = .ok (.new 46, 3) := by decide +kernel
theorem dX5_init_68 : decode cX5_init 68 = .ok (.dup, 1) := by decide +kernel
theorem dX5_init_69 : decode cX5_init 69 = .ok (.invokespecial 48, 3) := by decide +kernel
theorem dX5_init_72 : decode cX5_init 72 = .ok (.putfield 49, 3) := by decide +kernel
theorem dX5_init_75 : decode cX5_init 75 = .ok (.getstatic 53, 3) := by decide +kernel
theorem dX5_init_78 : decode cX5_init 78 = .ok (.iconst 0, 1) := by decide +kernel
theorem dX5_init_79 : decode cX5_init 79 = .ok (.aload_n 0, 1) := by decide +kernel
theorem dX5_init_80 : decode cX5_init 80 = .ok (.getfield 9, 3) := by decide +kernel
theorem dX5_init_83 : decode cX5_init 83 = .ok (.iconst 0, 1) := by decide +kernel
theorem dX5_init_84 : decode cX5_init 84 = .ok (.bipush 6, 2) := by decide +kernel
theorem dX5_init_86 : decode cX5_init 86 = .ok (.invokestatic 56, 3) := by decide +kernel
theorem dX5_init_89 : decode cX5_init 89 = .ok (.return_, 1) := by decide +kernel
theorem dX5_copy_0 : decode cX5_copy 0 = .ok (.aload_n 1, 1) := by decide +kernel
theorem dX5_copy_1 : decode cX5_copy 1 = .ok (.getfield 9, 3) := by decide +kernel
theorem dX5_copy_4 : decode cX5_copy 4 = .ok (.iconst 0, 1) := by decide +kernel
theorem dX5_copy_5 : decode cX5_copy 5 = .ok (.aload_n 0, 1) := by decide +kernel
theorem dX5_copy_6 : decode cX5_copy 6 = .ok (.getfield 9, 3) := by decide +kernel
theorem dX5_copy_9 : decode cX5_copy 9 = .ok (.iconst 0, 1) := by decide +kernel
theorem dX5_copy_10 : decode cX5_copy 10 = .ok (.bipush 6, 2) := by decide +kernel
theorem dX5_copy_12 : decode cX5_copy 12 = .ok (.invokestatic 56, 3) := by decide +kernel
theorem dX5_copy_15 : decode cX5_copy 15 = .ok (.aload_n 0, 1) := by decide +kernel
theorem dX5_copy_16 : decode cX5_copy 16 = .ok (.aload_n 1, 1) := by decide +kernel
theorem dX5_copy_17 : decode cX5_copy 17 = .ok (.getfield 62, 3) := by decide +kernel
theorem dX5_copy_20 : decode cX5_copy 20 = .ok (.putfield 62, 3) := by decide +kernel
theorem dX5_copy_23 : decode cX5_copy 23 = .ok (.aload_n 0, 1) := by decide +kernel
theorem dX5_copy_24 : decode cX5_copy 24 = .ok (.aload_n 1, 1) := by decide +kernel
theorem dX5_copy_25 : decode cX5_copy 25 = .ok (.getfield 65, 3) := by decide +kernel
theorem dX5_copy_28 : decode cX5_copy 28 = .ok (.putfield 65, 3) := by decide +kernel
theorem dX5_copy_31 : decode cX5_copy 31 = .ok (.aload_n 1, 1) := by decide +kernel
theorem dX5_copy_32 : decode cX5_copy 32 = .ok (.getfield 15, 3) := by decide +kernel
theorem dX5_copy_35 : decode cX5_copy 35 = .ok (.iconst 0, 1) := by decide +kernel
theorem dX5_copy_36 : decode cX5_copy 36 = .ok (.aload_n 0, 1) := by decide +kernel
theorem dX5_copy_37 : decode cX5_copy 37 = .ok (.getfield 15, 3) := by decide +kernel
theorem dX5_copy_40 : decode cX5_copy 40 = .ok (.iconst 0, 1) := by decide +kernel
theorem dX5_copy_41 : decode cX5_copy 41 = .ok (.bipush 10, 2) := by decide +kernel
theorem dX5_copy_43 : decode cX5_copy 43 = .ok (.invokestatic 56, 3) := by decide +kernel
theorem dX5_copy_46 : decode cX5_copy 46 = .ok (.aload_n 0, 1) := by decide +kernel
theorem dX5_copy_47 : decode cX5_copy 47 = .ok (.aload_n 1, 1) := by decide +kernel
theorem dX5_copy_48 : decode cX5_copy 48 = .ok (.getfield 68, 3) := by decide +kernel
theorem dX5_copy_51 : decode cX5_copy 51 = .ok (.putfield 68, 3) := by decide +kernel
theorem dX5_copy_54 : decode cX5_copy 54 = .ok (.aload_n 0, 1) := by decide +kernel
theorem dX5_copy_55 : decode cX5_copy 55 = .ok (.aload_n 1, 1) := by decide +kernel
theorem dX5_copy_56 : decode cX5_copy 56 = .ok (.getfield 71, 3) := by decide +kernel
theorem dX5_copy_59 : decode cX5_copy 59 = .ok (.putfield 71, 3) := by decide +kernel
theorem dX5_copy_62 : decode cX5_copy 62 = .ok (.aload_n 0, 1) := by decide +kernel
theorem dX5_copy_63 : decode cX5_copy 63 = .ok (.aload_n 1, 1) := by decide +kernel
theorem dX5_copy_64 : decode cX5_copy 64 = .ok (.getfield 18, 3) := by decide +kernel
theorem dX5_copy_67 : decode cX5_copy 67 = .ok (.putfield 18, 3) := by decide +kernel
theorem dX5_copy_70 : decode cX5_copy 70 = .ok (.aload_n 0, 1) := by decide +kernel
theorem dX5_copy_71 : decode cX5_copy 71 = .ok (.aload_n 1, 1) := by decide +kernel
theorem dX5_copy_72 : decode cX5_copy 72 = .ok (.getfield 22, 3) := by decide +kernel
theorem dX5_copy_75 : decode cX5_copy 75 = .ok (.putfield 22, 3) := by decide +kernel
theorem dX5_copy_78 : decode cX5_copy 78 = .ok (.aload_n 0, 1) := by decide +kernel
theorem dX5_copy_79 : decode cX5_copy 79 = .ok (.getfield 28, 3) := by decide +kernel
theorem dX5_copy_82 : decode cX5_copy 82 = .ok (.aload_n 1, 1) := by decide +kernel
theorem dX5_copy_83 : decode cX5_copy 83 = .ok (.getfield 28, 3) := by decide +kernel
theorem dX5_copy_86 : decode cX5_copy 86 = .ok (.invokevirtual 74, 3) := by decide +kernel
theorem dX5_copy_89 : decode cX5_copy 89 = .ok (.aload_n 0, 1) := by decide +kernel
theorem dX5_copy_90 : decode cX5_copy 90 = .ok (.getfield 35, 3) := by decide +kernel
theorem dX5_copy_93 : decode cX5_copy 93 = .ok (.aload_n 1, 1) := by decide +kernel
theorem dX5_copy_94 : decode cX5_copy 94 = .ok (.getfield 35, 3) := by decide +kernel
theorem dX5_copy_97 : decode cX5_copy 97 = .ok (.invokevirtual 78, 3) := by decide +kernel
theorem dX5_copy_100 : decode cX5_copy 100 = .ok (.aload_n 0, 1) := by decide +kernel
theorem dX5_copy_101 : decode cX5_copy 101 = .ok (.getfield 42, 3) := by decide +kernel
theorem dX5_copy_104 : decode cX5_copy 104 = .ok (.aload_n 1, 1) := by decide +kernel
theorem dX5_copy_105 : decode cX5_copy 105 = .ok (.getfield 42, 3) := by decide +kernel
theorem dX5_copy_108 : decode cX5_copy 108 = .ok (.invokevirtual 81, 3) := by decide +kernel
theorem dX5_copy_111 : decode cX5_copy 111 = .ok (.aload_n 0, 1) := by decide +kernel
theorem dX5_copy_112 : decode cX5_copy 112 = .ok (.getfield 49, 3) := by decide +kernel
theorem dX5_copy_115 : decode cX5_copy 115 = .ok (.aload_n 1, 1) := by decide +kernel
theorem dX5_copy_116 : decode cX5_copy 116 = .ok (.getfield 49, 3) := by decide +kernel
theorem dX5_copy_119 : decode cX5_copy 119 = .ok (.invokevirtual 84, 3) := by decide +kernel
theorem dX5_copy_122 : decode cX5_copy 122 = .ok (.return_, 1) := by decide +kernel
theorem dX5_isMember_0 : decode cX5_isMember 0 = .ok (.iload_n 1, 1) := by decide +kernel
theorem dX5_isMember_1 : decode cX5_isMember 1 = .ok (.ifCond .lt 15, 3) := by decide +kernel
theorem dX5_isMember_4 : decode cX5_isMember 4 = .ok (.iload_n 1, 1) := by decide +kernel
theorem dX5_isMember_5 : decode cX5_isMember 5 = .ok (.aload_n 0, 1) := by decide +kernel
theorem dX5_isMember_6 : decode cX5_isMember 6 = .ok (.getfield 65, 3) := by decide +kernel
theorem dX5_isMember_9 : decode cX5_isMember 9 = .ok (.if_icmp .ge 7, 3) := by decide +kernel
theorem dX5_isMember_12 : decode cX5_isMember 12 = .ok (.iconst 1, 1) := by decide +kernel
theorem dX5_isMember_13 : decode cX5_isMember 13 = .ok (.goto 4, 3) := by decide +kernel
theorem dX5_isMember_16 : decode cX5_isMember 16 = .ok (.iconst 0, 1) := by decide +kernel
theorem dX5_isMember_17 : decode cX5_isMember 17 = .ok (.ireturn, 1) := by decide +kernel
theorem dX5_isPresent_0 : decode cX5_isPresent 0 = .ok (.aload_n 0, 1) := by decide +kernel
theorem dX5_isPresent_1 : decode cX5_isPresent 1 = .ok (.getfield 68, 3) := by decide +kernel
theorem dX5_isPresent_4 : decode cX5_isPresent 4 = .ok (.iload_n 1, 1) := by decide +kernel
theorem dX5_isPresent_5 : decode cX5_isPresent 5 = .ok (.invokestatic 87, 3) := by decide +kernel
theorem dX5_isPresent_8 : decode cX5_isPresent 8 = .ok (.ireturn, 1) := by decide +kernel
theorem dX5_enrol_0 : decode cX5_enrol 0 = .ok (.aload_n 0, 1) := by decide +kernel
theorem dX5_enrol_1 : decode cX5_enrol 1 = .ok (.getfield 65, 3) := by decide +kernel
theorem dX5_enrol_4 : decode cX5_enrol 4 = .ok (.istore_n 2, 1) := by decide +kernel
theorem dX5_enrol_5 : decode cX5_enrol 5 = .ok (.aload_n 0, 1) := by decide +kernel
theorem dX5_enrol_6 : decode cX5_enrol 6 = .ok (.getfield 15, 3) := by decide +kernel
theorem dX5_enrol_9 : decode cX5_enrol 9 = .ok (.iload_n 2, 1) := by decide +kernel
theorem dX5_enrol_10 : decode cX5_enrol 10 = .ok (.iload_n 1, 1) := by decide +kernel
theorem dX5_enrol_11 : decode cX5_enrol 11 = .ok (.iastore, 1) := by decide +kernel
theorem dX5_enrol_12 : decode cX5_enrol 12 = .ok (.aload_n 0, 1) := by decide +kernel
theorem dX5_enrol_13 : decode cX5_enrol 13 = .ok (.dup, 1) := by decide +kernel
theorem dX5_enrol_14 : decode cX5_enrol 14 = .ok (.getfield 65, 3) := by decide +kernel
theorem dX5_enrol_17 : decode cX5_enrol 17 = .ok (.iconst 1, 1) := by decide +kernel
theorem dX5_enrol_18 : decode cX5_enrol 18 = .ok (.iadd, 1) := by decide +kernel
theorem dX5_enrol_19 : decode cX5_enrol 19 = .ok (.putfield 65, 3) := by decide +kernel
theorem dX5_enrol_22 : decode cX5_enrol 22 = .ok (.aload_n 0, 1) := by decide +kernel
theorem dX5_enrol_23 : decode cX5_enrol 23 = .ok (.dup, 1) := by decide +kernel
theorem dX5_enrol_24 : decode cX5_enrol 24 = .ok (.getfield 68, 3) := by decide +kernel
theorem dX5_enrol_27 : decode cX5_enrol 27 = .ok (.iload_n 2, 1) := by decide +kernel
theorem dX5_enrol_28 : decode cX5_enrol 28 = .ok (.invokestatic 91, 3) := by decide +kernel
theorem dX5_enrol_31 : decode cX5_enrol 31 = .ok (.ior, 1) := by decide +kernel
theorem dX5_enrol_32 : decode cX5_enrol 32 = .ok (.putfield 68, 3) := by decide +kernel
theorem dX5_enrol_35 : decode cX5_enrol 35 = .ok (.iload_n 2, 1) := by decide +kernel
theorem dX5_enrol_36 : decode cX5_enrol 36 = .ok (.ireturn, 1) := by decide +kernel
theorem dX5_leave_0 : decode cX5_leave 0 = .ok (.aload_n 0, 1) := by decide +kernel
theorem dX5_leave_1 : decode cX5_leave 1 = .ok (.dup, 1) := by decide +kernel
theorem dX5_leave_2 : decode cX5_leave 2 = .ok (.getfield 68, 3) := by decide +kernel
theorem dX5_leave_5 : decode cX5_leave 5 = .ok (.iload_n 1, 1) := by decide +kernel
theorem dX5_leave_6 : decode cX5_leave 6 = .ok (.invokestatic 91, 3) := by decide +kernel
theorem dX5_leave_9 : decode cX5_leave 9 = .ok (.iconst (-1), 1) := by decide +kernel
theorem dX5_leave_10 : decode cX5_leave 10 = .ok (.ixor, 1) := by decide +kernel
theorem dX5_leave_11 : decode cX5_leave 11 = .ok (.iand, 1) := by decide +kernel
theorem dX5_leave_12 : decode cX5_leave 12 = .ok (.putfield 68, 3) := by decide +kernel
theorem dX5_leave_15 : decode cX5_leave 15 = .ok (.aload_n 0, 1) := by decide +kernel
theorem dX5_leave_16 : decode cX5_leave 16 = .ok (.getfield 28, 3) := by decide +kernel
theorem dX5_leave_19 : decode cX5_leave 19 = .ok (.iload_n 1, 1) := by decide +kernel
theorem dX5_leave_20 : decode cX5_leave 20 = .ok (.invokevirtual 95, 3) := by decide +kernel
theorem dX5_leave_23 : decode cX5_leave 23 = .ok (.iload_n 1, 1) := by decide +kernel
theorem dX5_leave_24 : decode cX5_leave 24 = .ok (.aload_n 0, 1) := by decide +kernel
theorem dX5_leave_25 : decode cX5_leave 25 = .ok (.getfield 22, 3) := by decide +kernel
theorem dX5_leave_28 : decode cX5_leave 28 = .ok (.if_icmp .ne 25, 3) := by decide +kernel
theorem dX5_leave_31 : decode cX5_leave 31 = .ok (.aload_n 0, 1) := by decide +kernel
theorem dX5_leave_32 : decode cX5_leave 32 = .ok (.getfield 18, 3) := by decide +kernel
theorem dX5_leave_35 : decode cX5_leave 35 = .ok (.iconst 2, 1) := by decide +kernel
theorem dX5_leave_36 : decode cX5_leave 36 = .ok (.if_icmp .ne 11, 3) := by decide +kernel
theorem dX5_leave_39 : decode cX5_leave 39 = .ok (.aload_n 0, 1) := by decide +kernel
theorem dX5_leave_40 : decode cX5_leave 40 = .ok (.iconst 4, 1) := by decide +kernel
theorem dX5_leave_41 : decode cX5_leave 41 = .ok (.invokevirtual 99, 3) := by decide +kernel
theorem dX5_leave_44 : decode cX5_leave 44 = .ok (.goto 9, 3) := by decide +kernel
theorem dX5_leave_47 : decode cX5_leave 47 = .ok (.aload_n 0, 1) := by decide +kernel
theorem dX5_leave_48 : decode cX5_leave 48 = .ok (.bipush (-9), 2) := by decide +kernel
theorem dX5_leave_50 : decode cX5_leave 50 = .ok (.invokevirtual 102, 3) := by decide +kernel
theorem dX5_leave_53 : decode cX5_leave 53 = .ok (.return_, 1) := by decide +kernel
theorem dX5_advance_0 : decode cX5_advance 0 = .ok (.aload_n 0, 1) := by decide +kernel
theorem dX5_advance_1 : decode cX5_advance 1 = .ok (.getfield 62, 3) := by decide +kernel
theorem dX5_advance_4 : decode cX5_advance 4 = .ok (.iload_n 1, 1) := by decide +kernel
theorem dX5_advance_5 : decode cX5_advance 5 = .ok (.iadd, 1) := by decide +kernel
theorem dX5_advance_6 : decode cX5_advance 6 = .ok (.istore_n 2, 1) := by decide +kernel
theorem dX5_advance_7 : decode cX5_advance 7 = .ok (.aload_n 0, 1) := by decide +kernel
theorem dX5_advance_8 : decode cX5_advance 8 = .ok (.getfield 18, 3) := by decide +kernel
theorem dX5_advance_11 : decode cX5_advance 11 = .ok (.iconst 2, 1) := by decide +kernel
theorem dX5_advance_12 : decode cX5_advance 12 = .ok (.if_icmp .ne 30, 3) := by decide +kernel
theorem dX5_advance_15 : decode cX5_advance 15 = .ok (.aload_n 0, 1) := by decide +kernel
theorem dX5_advance_16 : decode cX5_advance 16 = .ok (.getfield 42, 3) := by decide +kernel
theorem dX5_advance_19 : decode cX5_advance 19 = .ok (.invokevirtual 105, 3) := by decide +kernel
theorem dX5_advance_22 : decode cX5_advance 22 = .ok (.iload_n 2, 1) := by decide +kernel
theorem dX5_advance_23 : decode cX5_advance 23 = .ok (.if_icmp .gt 19, 3) := by decide +kernel
theorem dX5_advance_26 : decode cX5_advance 26 = .ok (.aload_n 0, 1) := by decide +kernel
theorem dX5_advance_27 : decode cX5_advance 27 = .ok (.aload_n 0, 1) := by decide +kernel
theorem dX5_advance_28 : decode cX5_advance 28 = .ok (.getfield 42, 3) := by decide +kernel
theorem dX5_advance_31 : decode cX5_advance 31 = .ok (.invokevirtual 105, 3) := by decide +kernel
theorem dX5_advance_34 : decode cX5_advance 34 = .ok (.putfield 62, 3) := by decide +kernel
theorem dX5_advance_37 : decode cX5_advance 37 = .ok (.aload_n 0, 1) := by decide +kernel
theorem dX5_advance_38 : decode cX5_advance 38 = .ok (.iconst 2, 1) := by decide +kernel
theorem dX5_advance_39 : decode cX5_advance 39 = .ok (.invokevirtual 99, 3) := by decide +kernel
theorem dX5_advance_42 : decode cX5_advance 42 = .ok (.aload_n 0, 1) := by decide +kernel
theorem dX5_advance_43 : decode cX5_advance 43 = .ok (.iload_n 2, 1) := by decide +kernel
theorem dX5_advance_44 : decode cX5_advance 44 = .ok (.putfield 62, 3) := by decide +kernel
theorem dX5_advance_47 : decode cX5_advance 47 = .ok (.return_, 1) := by decide +kernel
theorem dX5_countSignatures_0 : decode cX5_countSignatures 0 = .ok (.aload_n 0, 1) := by decide +kernel
theorem dX5_countSignatures_1 : decode cX5_countSignatures 1 = .ok (.getfield 71, 3) := by decide +kernel
theorem dX5_countSignatures_4 : decode cX5_countSignatures 4 = .ok (.aload_n 0, 1) := by decide +kernel
theorem dX5_countSignatures_5 : decode cX5_countSignatures 5 = .ok (.getfield 68, 3) := by decide +kernel
theorem dX5_countSignatures_8 : decode cX5_countSignatures 8 = .ok (.iand, 1) := by decide +kernel
theorem dX5_countSignatures_9 : decode cX5_countSignatures 9 = .ok (.invokestatic 109, 3) := by decide +kernel
theorem dX5_countSignatures_12 : decode cX5_countSignatures 12 = .ok (.ireturn, 1) := by decide +kernel
theorem dX5_lookAtPetition_0 : decode cX5_lookAtPetition 0 = .ok (.aload_n 0, 1) := by decide +kernel
theorem dX5_lookAtPetition_1 : decode cX5_lookAtPetition 1 = .ok (.getfield 18, 3) := by decide +kernel
theorem dX5_lookAtPetition_4 : decode cX5_lookAtPetition 4 = .ok (.iconst 2, 1) := by decide +kernel
theorem dX5_lookAtPetition_5 : decode cX5_lookAtPetition 5 = .ok (.if_icmp .eq 4, 3) := by decide +kernel
theorem dX5_lookAtPetition_8 : decode cX5_lookAtPetition 8 = .ok (.return_, 1) := by decide +kernel
theorem dX5_lookAtPetition_9 : decode cX5_lookAtPetition 9 = .ok (.aload_n 0, 1) := by decide +kernel
theorem dX5_lookAtPetition_10 : decode cX5_lookAtPetition 10 = .ok (.invokevirtual 114, 3) := by decide +kernel
theorem dX5_lookAtPetition_13 : decode cX5_lookAtPetition 13 = .ok (.istore_n 1, 1) := by decide +kernel
theorem dX5_lookAtPetition_14 : decode cX5_lookAtPetition 14 = .ok (.aload_n 0, 1) := by decide +kernel
theorem dX5_lookAtPetition_15 : decode cX5_lookAtPetition 15 = .ok (.getfield 68, 3) := by decide +kernel
theorem dX5_lookAtPetition_18 : decode cX5_lookAtPetition 18 = .ok (.aload_n 0, 1) := by decide +kernel
theorem dX5_lookAtPetition_19 : decode cX5_lookAtPetition 19 = .ok (.getfield 22, 3) := by decide +kernel
theorem dX5_lookAtPetition_22 : decode cX5_lookAtPetition 22 = .ok (.invokestatic 91, 3) := by decide +kernel
theorem dX5_lookAtPetition_25 : decode cX5_lookAtPetition 25 = .ok (.iconst (-1), 1) := by decide +kernel
theorem dX5_lookAtPetition_26 : decode cX5_lookAtPetition 26 = .ok (.ixor, 1) := by decide +kernel
theorem dX5_lookAtPetition_27 : decode cX5_lookAtPetition 27 = .ok (.iand, 1) := by decide +kernel
theorem dX5_lookAtPetition_28 : decode cX5_lookAtPetition 28 = .ok (.invokestatic 109, 3) := by decide +kernel
theorem dX5_lookAtPetition_31 : decode cX5_lookAtPetition 31 = .ok (.istore_n 2, 1) := by decide +kernel
theorem dX5_lookAtPetition_32 : decode cX5_lookAtPetition 32 = .ok (.iload_n 1, 1) := by decide +kernel
theorem dX5_lookAtPetition_33 : decode cX5_lookAtPetition 33 = .ok (.ifCond .le 23, 3) := by decide +kernel
theorem dX5_lookAtPetition_36 : decode cX5_lookAtPetition 36 = .ok (.bipush 100, 2) := by decide +kernel
theorem dX5_lookAtPetition_38 : decode cX5_lookAtPetition 38 = .ok (.iload_n 1, 1) := by decide +kernel
theorem dX5_lookAtPetition_39 : decode cX5_lookAtPetition 39 = .ok (.imul, 1) := by decide +kernel
theorem dX5_lookAtPetition_40 : decode cX5_lookAtPetition 40 = .ok (.aload_n 0, 1) := by decide +kernel
theorem dX5_lookAtPetition_41 : decode cX5_lookAtPetition 41 = .ok (.getfield 9, 3) := by decide +kernel
theorem dX5_lookAtPetition_44 : decode cX5_lookAtPetition 44 = .ok (.iconst 3, 1) := by decide +kernel
theorem dX5_lookAtPetition_45 : decode cX5_lookAtPetition 45 = .ok (.iaload, 1) := by decide +kernel
theorem dX5_lookAtPetition_46 : decode cX5_lookAtPetition 46 = .ok (.iload_n 2, 1) := by decide +kernel
theorem dX5_lookAtPetition_47 : decode cX5_lookAtPetition 47 = .ok (.imul, 1) := by decide +kernel
theorem dX5_lookAtPetition_48 : decode cX5_lookAtPetition 48 = .ok (.if_icmp .lt 8, 3) := by decide +kernel
theorem dX5_lookAtPetition_51 : decode cX5_lookAtPetition 51 = .ok (.aload_n 0, 1) := by decide +kernel
theorem dX5_lookAtPetition_52 : decode cX5_lookAtPetition 52 = .ok (.iconst 3, 1) := by decide +kernel
theorem dX5_lookAtPetition_53 : decode cX5_lookAtPetition 53 = .ok (.invokevirtual 99, 3) := by decide +kernel
theorem dX5_lookAtPetition_56 : decode cX5_lookAtPetition 56 = .ok (.return_, 1) := by decide +kernel
theorem dX5_beginTerm_0 : decode cX5_beginTerm 0 = .ok (.aload_n 0, 1) := by decide +kernel
theorem dX5_beginTerm_1 : decode cX5_beginTerm 1 = .ok (.getfield 42, 3) := by decide +kernel
theorem dX5_beginTerm_4 : decode cX5_beginTerm 4 = .ok (.iload_n 1, 1) := by decide +kernel
theorem dX5_beginTerm_5 : decode cX5_beginTerm 5 = .ok (.aload_n 0, 1) := by decide +kernel
theorem dX5_beginTerm_6 : decode cX5_beginTerm 6 = .ok (.getfield 62, 3) := by decide +kernel
theorem dX5_beginTerm_9 : decode cX5_beginTerm 9 = .ok (.aload_n 0, 1) := by decide +kernel
theorem dX5_beginTerm_10 : decode cX5_beginTerm 10 = .ok (.getfield 9, 3) := by decide +kernel
theorem dX5_beginTerm_13 : decode cX5_beginTerm 13 = .ok (.iconst 0, 1) := by decide +kernel
theorem dX5_beginTerm_14 : decode cX5_beginTerm 14 = .ok (.iaload, 1) := by decide +kernel
theorem dX5_beginTerm_15 : decode cX5_beginTerm 15 = .ok (.aload_n 0, 1) := by decide +kernel
theorem dX5_beginTerm_16 : decode cX5_beginTerm 16 = .ok (.getfield 68, 3) := by decide +kernel
theorem dX5_beginTerm_19 : decode cX5_beginTerm 19 = .ok (.invokevirtual 117, 3) := by decide +kernel
theorem dX5_beginTerm_22 : decode cX5_beginTerm 22 = .ok (.aload_n 0, 1) := by decide +kernel
theorem dX5_beginTerm_23 : decode cX5_beginTerm 23 = .ok (.iconst 2, 1) := by decide +kernel
theorem dX5_beginTerm_24 : decode cX5_beginTerm 24 = .ok (.putfield 18, 3) := by decide +kernel
theorem dX5_beginTerm_27 : decode cX5_beginTerm 27 = .ok (.aload_n 0, 1) := by decide +kernel
theorem dX5_beginTerm_28 : decode cX5_beginTerm 28 = .ok (.iload_n 1, 1) := by decide +kernel
theorem dX5_beginTerm_29 : decode cX5_beginTerm 29 = .ok (.putfield 22, 3) := by decide +kernel
theorem dX5_beginTerm_32 : decode cX5_beginTerm 32 = .ok (.aload_n 0, 1) := by decide +kernel
theorem dX5_beginTerm_33 : decode cX5_beginTerm 33 = .ok (.getfield 49, 3) := by decide +kernel
theorem dX5_beginTerm_36 : decode cX5_beginTerm 36 = .ok (.aload_n 0, 1) := by decide +kernel
theorem dX5_beginTerm_37 : decode cX5_beginTerm 37 = .ok (.getfield 62, 3) := by decide +kernel
theorem dX5_beginTerm_40 : decode cX5_beginTerm 40 = .ok (.iconst 1, 1) := by decide +kernel
theorem dX5_beginTerm_41 : decode cX5_beginTerm 41 = .ok (.iload_n 1, 1) := by decide +kernel
theorem dX5_beginTerm_42 : decode cX5_beginTerm 42 = .ok (.invokevirtual 121, 3) := by decide +kernel
theorem dX5_beginTerm_45 : decode cX5_beginTerm 45 = .ok (.return_, 1) := by decide +kernel
theorem dX5_endTerm_0 : decode cX5_endTerm 0 = .ok (.aload_n 0, 1) := by decide +kernel
theorem dX5_endTerm_1 : decode cX5_endTerm 1 = .ok (.getfield 22, 3) := by decide +kernel
theorem dX5_endTerm_4 : decode cX5_endTerm 4 = .ok (.istore_n 2, 1) := by decide +kernel
theorem dX5_endTerm_5 : decode cX5_endTerm 5 = .ok (.aload_n 0, 1) := by decide +kernel
theorem dX5_endTerm_6 : decode cX5_endTerm 6 = .ok (.getfield 42, 3) := by decide +kernel
theorem dX5_endTerm_9 : decode cX5_endTerm 9 = .ok (.aload_n 0, 1) := by decide +kernel
theorem dX5_endTerm_10 : decode cX5_endTerm 10 = .ok (.getfield 62, 3) := by decide +kernel
theorem dX5_endTerm_13 : decode cX5_endTerm 13 = .ok (.iload_n 1, 1) := by decide +kernel
theorem dX5_endTerm_14 : decode cX5_endTerm 14 = .ok (.iconst 3, 1) := by decide +kernel
theorem dX5_endTerm_15 : decode cX5_endTerm 15 = .ok (.if_icmp .ne 7, 3) := by decide +kernel
theorem dX5_endTerm_18 : decode cX5_endTerm 18 = .ok (.iconst 1, 1) := by decide +kernel
theorem dX5_endTerm_19 : decode cX5_endTerm 19 = .ok (.goto 4, 3) := by decide +kernel
theorem dX5_endTerm_22 : decode cX5_endTerm 22 = .ok (.iconst 0, 1) := by decide +kernel
theorem dX5_endTerm_23 : decode cX5_endTerm 23 = .ok (.invokevirtual 125, 3) := by decide +kernel
theorem dX5_endTerm_26 : decode cX5_endTerm 26 = .ok (.aload_n 0, 1) := by decide +kernel
theorem dX5_endTerm_27 : decode cX5_endTerm 27 = .ok (.iconst 0, 1) := by decide +kernel
theorem dX5_endTerm_28 : decode cX5_endTerm 28 = .ok (.putfield 71, 3) := by decide +kernel
theorem dX5_endTerm_31 : decode cX5_endTerm 31 = .ok (.aload_n 0, 1) := by decide +kernel
theorem dX5_endTerm_32 : decode cX5_endTerm 32 = .ok (.getfield 49, 3) := by decide +kernel
theorem dX5_endTerm_35 : decode cX5_endTerm 35 = .ok (.aload_n 0, 1) := by decide +kernel
theorem dX5_endTerm_36 : decode cX5_endTerm 36 = .ok (.getfield 62, 3) := by decide +kernel
theorem dX5_endTerm_39 : decode cX5_endTerm 39 = .ok (.iload_n 1, 1) := by decide +kernel
theorem dX5_endTerm_40 : decode cX5_endTerm 40 = .ok (.iload_n 2, 1) := by decide +kernel
theorem dX5_endTerm_41 : decode cX5_endTerm 41 = .ok (.invokevirtual 121, 3) := by decide +kernel
theorem dX5_endTerm_44 : decode cX5_endTerm 44 = .ok (.aload_n 0, 1) := by decide +kernel
theorem dX5_endTerm_45 : decode cX5_endTerm 45 = .ok (.iload_n 2, 1) := by decide +kernel
theorem dX5_endTerm_46 : decode cX5_endTerm 46 = .ok (.invokevirtual 102, 3) := by decide +kernel
theorem dX5_endTerm_49 : decode cX5_endTerm 49 = .ok (.return_, 1) := by decide +kernel
theorem dX5_appointCaretaker_0 : decode cX5_appointCaretaker 0 = .ok (.aload_n 0, 1) := by decide +kernel
theorem dX5_appointCaretaker_1 : decode cX5_appointCaretaker 1 = .ok (.aload_n 0, 1) := by decide +kernel
theorem dX5_appointCaretaker_2 : decode cX5_appointCaretaker 2 = .ok (.iload_n 1, 1) := by decide +kernel
theorem dX5_appointCaretaker_3 : decode cX5_appointCaretaker 3 = .ok (.invokevirtual 129, 3) := by decide +kernel
theorem dX5_appointCaretaker_6 : decode cX5_appointCaretaker 6 = .ok (.putfield 22, 3) := by decide +kernel
theorem dX5_appointCaretaker_9 : decode cX5_appointCaretaker 9 = .ok (.aload_n 0, 1) := by decide +kernel
theorem dX5_appointCaretaker_10 : decode cX5_appointCaretaker 10 = .ok (.aload_n 0, 1) := by decide +kernel
theorem dX5_appointCaretaker_11 : decode cX5_appointCaretaker 11 = .ok (.getfield 22, 3) := by decide +kernel
theorem dX5_appointCaretaker_14 : decode cX5_appointCaretaker 14 = .ok (.bipush (-9), 2) := by decide +kernel
theorem dX5_appointCaretaker_16 : decode cX5_appointCaretaker 16 = .ok (.if_icmp .ne 7, 3) := by decide +kernel
theorem dX5_appointCaretaker_19 : decode cX5_appointCaretaker 19 = .ok (.iconst 0, 1) := by decide +kernel
theorem dX5_appointCaretaker_20 : decode cX5_appointCaretaker 20 = .ok (.goto 4, 3) := by decide +kernel
theorem dX5_appointCaretaker_23 : decode cX5_appointCaretaker 23 = .ok (.iconst 1, 1) := by decide +kernel
theorem dX5_appointCaretaker_24 : decode cX5_appointCaretaker 24 = .ok (.putfield 18, 3) := by decide +kernel
theorem dX5_appointCaretaker_27 : decode cX5_appointCaretaker 27 = .ok (.aload_n 0, 1) := by decide +kernel
theorem dX5_appointCaretaker_28 : decode cX5_appointCaretaker 28 = .ok (.getfield 49, 3) := by decide +kernel
theorem dX5_appointCaretaker_31 : decode cX5_appointCaretaker 31 = .ok (.aload_n 0, 1) := by decide +kernel
theorem dX5_appointCaretaker_32 : decode cX5_appointCaretaker 32 = .ok (.getfield 62, 3) := by decide +kernel
theorem dX5_appointCaretaker_35 : decode cX5_appointCaretaker 35 = .ok (.aload_n 0, 1) := by decide +kernel
theorem dX5_appointCaretaker_36 : decode cX5_appointCaretaker 36 = .ok (.getfield 22, 3) := by decide +kernel
theorem dX5_appointCaretaker_39 : decode cX5_appointCaretaker 39 = .ok (.bipush (-9), 2) := by decide +kernel
theorem dX5_appointCaretaker_41 : decode cX5_appointCaretaker 41 = .ok (.if_icmp .ne 8, 3) := by decide +kernel
theorem dX5_appointCaretaker_44 : decode cX5_appointCaretaker 44 = .ok (.bipush 7, 2) := by decide +kernel
theorem dX5_appointCaretaker_46 : decode cX5_appointCaretaker 46 = .ok (.goto 4, 3) := by decide +kernel
theorem dX5_appointCaretaker_49 : decode cX5_appointCaretaker 49 = .ok (.iconst 5, 1) := by decide +kernel
theorem dX5_appointCaretaker_50 : decode cX5_appointCaretaker 50 = .ok (.aload_n 0, 1) := by decide +kernel
theorem dX5_appointCaretaker_51 : decode cX5_appointCaretaker 51 = .ok (.getfield 22, 3) := by decide +kernel
theorem dX5_appointCaretaker_54 : decode cX5_appointCaretaker 54 = .ok (.invokevirtual 121, 3) := by decide +kernel
theorem dX5_appointCaretaker_57 : decode cX5_appointCaretaker 57 = .ok (.return_, 1) := by decide +kernel
theorem dX5_bestCaretaker_0 : decode cX5_bestCaretaker 0 = .ok (.bipush (-9), 2) := by decide +kernel
theorem dX5_bestCaretaker_2 : decode cX5_bestCaretaker 2 = .ok (.istore_n 2, 1) := by decide +kernel
theorem dX5_bestCaretaker_3 : decode cX5_bestCaretaker 3 = .ok (.iconst 0, 1) := by decide +kernel
theorem dX5_bestCaretaker_4 : decode cX5_bestCaretaker 4 = .ok (.istore_n 3, 1) := by decide +kernel
theorem dX5_bestCaretaker_5 : decode cX5_bestCaretaker 5 = .ok (.iconst 0, 1) := by decide +kernel
theorem dX5_bestCaretaker_6 : decode cX5_bestCaretaker 6 = .ok (.istore 4, 2) := by decide +kernel
theorem dX5_bestCaretaker_8 : decode cX5_bestCaretaker 8 = .ok (.iconst 0, 1) := by decide +kernel
theorem dX5_bestCaretaker_9 : decode cX5_bestCaretaker 9 = .ok (.istore 5, 2) := by decide +kernel
theorem dX5_bestCaretaker_11 : decode cX5_bestCaretaker 11 = .ok (.iload 5, 2) := by decide +kernel
theorem dX5_bestCaretaker_13 : decode cX5_bestCaretaker 13 = .ok (.bipush 10, 2) := by decide +kernel
theorem dX5_bestCaretaker_15 : decode cX5_bestCaretaker 15 = .ok (.if_icmp .ge 93, 3) := by decide +kernel
theorem dX5_bestCaretaker_18 : decode cX5_bestCaretaker 18 = .ok (.aload_n 0, 1) := by decide +kernel
theorem dX5_bestCaretaker_19 : decode cX5_bestCaretaker 19 = .ok (.getfield 68, 3) := by decide +kernel
theorem dX5_bestCaretaker_22 : decode cX5_bestCaretaker 22 = .ok (.iload 5, 2) := by decide +kernel
theorem dX5_bestCaretaker_24 : decode cX5_bestCaretaker 24 = .ok (.invokestatic 87, 3) := by decide +kernel
theorem dX5_bestCaretaker_27 : decode cX5_bestCaretaker 27 = .ok (.ifCond .eq 75, 3) := by decide +kernel
theorem dX5_bestCaretaker_30 : decode cX5_bestCaretaker 30 = .ok (.iload 5, 2) := by decide +kernel
theorem dX5_bestCaretaker_32 : decode cX5_bestCaretaker 32 = .ok (.iload_n 1, 1) := by decide +kernel
theorem dX5_bestCaretaker_33 : decode cX5_bestCaretaker 33 = .ok (.if_icmp .ne 6, 3) := by decide +kernel
theorem dX5_bestCaretaker_36 : decode cX5_bestCaretaker 36 = .ok (.goto 66, 3) := by decide +kernel
theorem dX5_bestCaretaker_39 : decode cX5_bestCaretaker 39 = .ok (.aload_n 0, 1) := by decide +kernel
theorem dX5_bestCaretaker_40 : decode cX5_bestCaretaker 40 = .ok (.getfield 42, 3) := by decide +kernel
theorem dX5_bestCaretaker_43 : decode cX5_bestCaretaker 43 = .ok (.iload 5, 2) := by decide +kernel
theorem dX5_bestCaretaker_45 : decode cX5_bestCaretaker 45 = .ok (.aload_n 0, 1) := by decide +kernel
theorem dX5_bestCaretaker_46 : decode cX5_bestCaretaker 46 = .ok (.getfield 9, 3) := by decide +kernel
theorem dX5_bestCaretaker_49 : decode cX5_bestCaretaker 49 = .ok (.iconst 5, 1) := by decide +kernel
theorem dX5_bestCaretaker_50 : decode cX5_bestCaretaker 50 = .ok (.iaload, 1) := by decide +kernel
theorem dX5_bestCaretaker_51 : decode cX5_bestCaretaker 51 = .ok (.invokevirtual 132, 3) := by decide +kernel
theorem dX5_bestCaretaker_54 : decode cX5_bestCaretaker 54 = .ok (.istore 6, 2) := by decide +kernel
theorem dX5_bestCaretaker_56 : decode cX5_bestCaretaker 56 = .ok (.aload_n 0, 1) := by decide +kernel
theorem dX5_bestCaretaker_57 : decode cX5_bestCaretaker 57 = .ok (.getfield 42, 3) := by decide +kernel
theorem dX5_bestCaretaker_60 : decode cX5_bestCaretaker 60 = .ok (.iload 5, 2) := by decide +kernel
theorem dX5_bestCaretaker_62 : decode cX5_bestCaretaker 62 = .ok (.invokevirtual 136, 3) := by decide +kernel
theorem dX5_bestCaretaker_65 : decode cX5_bestCaretaker 65 = .ok (.istore 7, 2) := by decide +kernel
theorem dX5_bestCaretaker_67 : decode cX5_bestCaretaker 67 = .ok (.iload_n 2, 1) := by decide +kernel
theorem dX5_bestCaretaker_68 : decode cX5_bestCaretaker 68 = .ok (.bipush (-9), 2) := by decide +kernel
theorem dX5_bestCaretaker_70 : decode cX5_bestCaretaker 70 = .ok (.if_icmp .eq 22, 3) := by decide +kernel
theorem dX5_bestCaretaker_73 : decode cX5_bestCaretaker 73 = .ok (.iload 6, 2) := by decide +kernel
theorem dX5_bestCaretaker_75 : decode cX5_bestCaretaker 75 = .ok (.iload_n 3, 1) := by decide +kernel
theorem dX5_bestCaretaker_76 : decode cX5_bestCaretaker 76 = .ok (.if_icmp .gt 16, 3) := by decide +kernel
theorem dX5_bestCaretaker_79 : decode cX5_bestCaretaker 79 = .ok (.iload 6, 2) := by decide +kernel
theorem dX5_bestCaretaker_81 : decode cX5_bestCaretaker 81 = .ok (.iload_n 3, 1) := by decide +kernel
theorem dX5_bestCaretaker_82 : decode cX5_bestCaretaker 82 = .ok (.if_icmp .ne 20, 3) := by decide +kernel
theorem dX5_bestCaretaker_85 : decode cX5_bestCaretaker 85 = .ok (.iload 7, 2) := by decide +kernel
theorem dX5_bestCaretaker_87 : decode cX5_bestCaretaker 87 = .ok (.iload 4, 2) := by decide +kernel
theorem dX5_bestCaretaker_89 : decode cX5_bestCaretaker 89 = .ok (.if_icmp .ge 13, 3) := by decide +kernel
theorem dX5_bestCaretaker_92 : decode cX5_bestCaretaker 92 = .ok (.iload 5, 2) := by decide +kernel
theorem dX5_bestCaretaker_94 : decode cX5_bestCaretaker 94 = .ok (.istore_n 2, 1) := by decide +kernel
theorem dX5_bestCaretaker_95 : decode cX5_bestCaretaker 95 = .ok (.iload 6, 2) := by decide +kernel
theorem dX5_bestCaretaker_97 : decode cX5_bestCaretaker 97 = .ok (.istore_n 3, 1) := by decide +kernel
theorem dX5_bestCaretaker_98 : decode cX5_bestCaretaker 98 = .ok (.iload 7, 2) := by decide +kernel
theorem dX5_bestCaretaker_100 : decode cX5_bestCaretaker 100 = .ok (.istore 4, 2) := by decide +kernel
theorem dX5_bestCaretaker_102 : decode cX5_bestCaretaker 102 = .ok (.iinc 5 1, 3) := by decide +kernel
theorem dX5_bestCaretaker_105 : decode cX5_bestCaretaker 105 = .ok (.goto (-94), 3) := by decide +kernel
theorem dX5_bestCaretaker_108 : decode cX5_bestCaretaker 108 = .ok (.iload_n 2, 1) := by decide +kernel
theorem dX5_bestCaretaker_109 : decode cX5_bestCaretaker 109 = .ok (.ireturn, 1) := by decide +kernel
theorem dX5_elect_0 : decode cX5_elect 0 = .ok (.aload_n 0, 1) := by decide +kernel
theorem dX5_elect_1 : decode cX5_elect 1 = .ok (.getfield 35, 3) := by decide +kernel
theorem dX5_elect_4 : decode cX5_elect 4 = .ok (.iconst 0, 1) := by decide +kernel
theorem dX5_elect_5 : decode cX5_elect 5 = .ok (.putfield 139, 3) := by decide +kernel
theorem dX5_elect_8 : decode cX5_elect 8 = .ok (.aload_n 0, 1) := by decide +kernel
theorem dX5_elect_9 : decode cX5_elect 9 = .ok (.invokevirtual 142, 3) := by decide +kernel
theorem dX5_elect_12 : decode cX5_elect 12 = .ok (.ifCond .eq 10, 3) := by decide +kernel
theorem dX5_elect_15 : decode cX5_elect 15 = .ok (.aload_n 0, 1) := by decide +kernel
theorem dX5_elect_16 : decode cX5_elect 16 = .ok (.invokevirtual 146, 3) := by decide +kernel
theorem dX5_elect_19 : decode cX5_elect 19 = .ok (.goto 5, 3) := by decide +kernel
theorem dX5_elect_22 : decode cX5_elect 22 = .ok (.bipush (-9), 2) := by decide +kernel
theorem dX5_elect_24 : decode cX5_elect 24 = .ok (.istore_n 1, 1) := by decide +kernel
theorem dX5_elect_25 : decode cX5_elect 25 = .ok (.aload_n 0, 1) := by decide +kernel
theorem dX5_elect_26 : decode cX5_elect 26 = .ok (.getfield 28, 3) := by decide +kernel
theorem dX5_elect_29 : decode cX5_elect 29 = .ok (.invokevirtual 149, 3) := by decide +kernel
theorem dX5_elect_32 : decode cX5_elect 32 = .ok (.iload_n 1, 1) := by decide +kernel
theorem dX5_elect_33 : decode cX5_elect 33 = .ok (.bipush (-9), 2) := by decide +kernel
theorem dX5_elect_35 : decode cX5_elect 35 = .ok (.if_icmp .ne 21, 3) := by decide +kernel
theorem dX5_elect_38 : decode cX5_elect 38 = .ok (.aload_n 0, 1) := by decide +kernel
theorem dX5_elect_39 : decode cX5_elect 39 = .ok (.getfield 49, 3) := by decide +kernel
theorem dX5_elect_42 : decode cX5_elect 42 = .ok (.aload_n 0, 1) := by decide +kernel
theorem dX5_elect_43 : decode cX5_elect 43 = .ok (.getfield 62, 3) := by decide +kernel
theorem dX5_elect_46 : decode cX5_elect 46 = .ok (.bipush 6, 2) := by decide +kernel
theorem dX5_elect_48 : decode cX5_elect 48 = .ok (.bipush (-9), 2) := by decide +kernel
theorem dX5_elect_50 : decode cX5_elect 50 = .ok (.invokevirtual 121, 3) := by decide +kernel
theorem dX5_elect_53 : decode cX5_elect 53 = .ok (.goto 8, 3) := by decide +kernel
theorem dX5_elect_56 : decode cX5_elect 56 = .ok (.aload_n 0, 1) := by decide +kernel
theorem dX5_elect_57 : decode cX5_elect 57 = .ok (.iload_n 1, 1) := by decide +kernel
theorem dX5_elect_58 : decode cX5_elect 58 = .ok (.invokevirtual 152, 3) := by decide +kernel
theorem dX5_elect_61 : decode cX5_elect 61 = .ok (.iload_n 1, 1) := by decide +kernel
theorem dX5_elect_62 : decode cX5_elect 62 = .ok (.ireturn, 1) := by decide +kernel
theorem dX5_hasQuorum_0 : decode cX5_hasQuorum 0 = .ok (.bipush 100, 2) := by decide +kernel
theorem dX5_hasQuorum_2 : decode cX5_hasQuorum 2 = .ok (.aload_n 0, 1) := by decide +kernel
theorem dX5_hasQuorum_3 : decode cX5_hasQuorum 3 = .ok (.getfield 28, 3) := by decide +kernel
theorem dX5_hasQuorum_6 : decode cX5_hasQuorum 6 = .ok (.invokevirtual 155, 3) := by decide +kernel
theorem dX5_hasQuorum_9 : decode cX5_hasQuorum 9 = .ok (.imul, 1) := by decide +kernel
theorem dX5_hasQuorum_10 : decode cX5_hasQuorum 10 = .ok (.aload_n 0, 1) := by decide +kernel
theorem dX5_hasQuorum_11 : decode cX5_hasQuorum 11 = .ok (.getfield 9, 3) := by decide +kernel
theorem dX5_hasQuorum_14 : decode cX5_hasQuorum 14 = .ok (.iconst 4, 1) := by decide +kernel
theorem dX5_hasQuorum_15 : decode cX5_hasQuorum 15 = .ok (.iaload, 1) := by decide +kernel
theorem dX5_hasQuorum_16 : decode cX5_hasQuorum 16 = .ok (.aload_n 0, 1) := by decide +kernel
theorem dX5_hasQuorum_17 : decode cX5_hasQuorum 17 = .ok (.getfield 68, 3) := by decide +kernel
theorem dX5_hasQuorum_20 : decode cX5_hasQuorum 20 = .ok (.invokestatic 109, 3) := by decide +kernel
theorem dX5_hasQuorum_23 : decode cX5_hasQuorum 23 = .ok (.imul, 1) := by decide +kernel
theorem dX5_hasQuorum_24 : decode cX5_hasQuorum 24 = .ok (.if_icmp .lt 7, 3) := by decide +kernel
theorem dX5_hasQuorum_27 : decode cX5_hasQuorum 27 = .ok (.iconst 1, 1) := by decide +kernel
theorem dX5_hasQuorum_28 : decode cX5_hasQuorum 28 = .ok (.goto 4, 3) := by decide +kernel
theorem dX5_hasQuorum_31 : decode cX5_hasQuorum 31 = .ok (.iconst 0, 1) := by decide +kernel
theorem dX5_hasQuorum_32 : decode cX5_hasQuorum 32 = .ok (.ireturn, 1) := by decide +kernel
theorem dX5_holdRounds_0 : decode cX5_holdRounds 0 = .ok (.aload_n 0, 1) := by decide +kernel
theorem dX5_holdRounds_1 : decode cX5_holdRounds 1 = .ok (.getfield 28, 3) := by decide +kernel
theorem dX5_holdRounds_4 : decode cX5_holdRounds 4 = .ok (.getfield 158, 3) := by decide +kernel
theorem dX5_holdRounds_7 : decode cX5_holdRounds 7 = .ok (.istore_n 1, 1) := by decide +kernel
theorem dX5_holdRounds_8 : decode cX5_holdRounds 8 = .ok (.iconst 0, 1) := by decide +kernel
theorem dX5_holdRounds_9 : decode cX5_holdRounds 9 = .ok (.istore_n 2, 1) := by decide +kernel
theorem dX5_holdRounds_10 : decode cX5_holdRounds 10 = .ok (.iload_n 2, 1) := by decide +kernel
theorem dX5_holdRounds_11 : decode cX5_holdRounds 11 = .ok (.bipush 10, 2) := by decide +kernel
theorem dX5_holdRounds_13 : decode cX5_holdRounds 13 = .ok (.if_icmp .ge 54, 3) := by decide +kernel
theorem dX5_holdRounds_16 : decode cX5_holdRounds 16 = .ok (.aload_n 0, 1) := by decide +kernel
theorem dX5_holdRounds_17 : decode cX5_holdRounds 17 = .ok (.getfield 35, 3) := by decide +kernel
theorem dX5_holdRounds_20 : decode cX5_holdRounds 20 = .ok (.iload_n 2, 1) := by decide +kernel
theorem dX5_holdRounds_21 : decode cX5_holdRounds 21 = .ok (.iload_n 1, 1) := by decide +kernel
theorem dX5_holdRounds_22 : decode cX5_holdRounds 22 = .ok (.aload_n 0, 1) := by decide +kernel
theorem dX5_holdRounds_23 : decode cX5_holdRounds 23 = .ok (.getfield 28, 3) := by decide +kernel
theorem dX5_holdRounds_26 : decode cX5_holdRounds 26 = .ok (.invokevirtual 161, 3) := by decide +kernel
theorem dX5_holdRounds_29 : decode cX5_holdRounds 29 = .ok (.aload_n 0, 1) := by decide +kernel
theorem dX5_holdRounds_30 : decode cX5_holdRounds 30 = .ok (.getfield 35, 3) := by decide +kernel
theorem dX5_holdRounds_33 : decode cX5_holdRounds 33 = .ok (.iload_n 2, 1) := by decide +kernel
theorem dX5_holdRounds_34 : decode cX5_holdRounds 34 = .ok (.iload_n 1, 1) := by decide +kernel
theorem dX5_holdRounds_35 : decode cX5_holdRounds 35 = .ok (.invokevirtual 165, 3) := by decide +kernel
theorem dX5_holdRounds_38 : decode cX5_holdRounds 38 = .ok (.istore_n 3, 1) := by decide +kernel
theorem dX5_holdRounds_39 : decode cX5_holdRounds 39 = .ok (.iload_n 3, 1) := by decide +kernel
theorem dX5_holdRounds_40 : decode cX5_holdRounds 40 = .ok (.bipush (-9), 2) := by decide +kernel
theorem dX5_holdRounds_42 : decode cX5_holdRounds 42 = .ok (.if_icmp .eq 5, 3) := by decide +kernel
theorem dX5_holdRounds_45 : decode cX5_holdRounds 45 = .ok (.iload_n 3, 1) := by decide +kernel
theorem dX5_holdRounds_46 : decode cX5_holdRounds 46 = .ok (.ireturn, 1) := by decide +kernel
theorem dX5_holdRounds_47 : decode cX5_holdRounds 47 = .ok (.iload_n 1, 1) := by decide +kernel
theorem dX5_holdRounds_48 : decode cX5_holdRounds 48 = .ok (.aload_n 0, 1) := by decide +kernel
theorem dX5_holdRounds_49 : decode cX5_holdRounds 49 = .ok (.iload_n 2, 1) := by decide +kernel
theorem dX5_holdRounds_50 : decode cX5_holdRounds 50 = .ok (.iload_n 1, 1) := by decide +kernel
theorem dX5_holdRounds_51 : decode cX5_holdRounds 51 = .ok (.invokevirtual 168, 3) := by decide +kernel
theorem dX5_holdRounds_54 : decode cX5_holdRounds 54 = .ok (.invokestatic 91, 3) := by decide +kernel
theorem dX5_holdRounds_57 : decode cX5_holdRounds 57 = .ok (.iconst (-1), 1) := by decide +kernel
theorem dX5_holdRounds_58 : decode cX5_holdRounds 58 = .ok (.ixor, 1) := by decide +kernel
theorem dX5_holdRounds_59 : decode cX5_holdRounds 59 = .ok (.iand, 1) := by decide +kernel
theorem dX5_holdRounds_60 : decode cX5_holdRounds 60 = .ok (.istore_n 1, 1) := by decide +kernel
theorem dX5_holdRounds_61 : decode cX5_holdRounds 61 = .ok (.iinc 2 1, 3) := by decide +kernel
theorem dX5_holdRounds_64 : decode cX5_holdRounds 64 = .ok (.goto (-54), 3) := by decide +kernel
theorem dX5_holdRounds_67 : decode cX5_holdRounds 67 = .ok (.bipush (-9), 2) := by decide +kernel
theorem dX5_holdRounds_69 : decode cX5_holdRounds 69 = .ok (.ireturn, 1) := by decide +kernel
theorem dX5_weakest_0 : decode cX5_weakest 0 = .ok (.bipush (-9), 2) := by decide +kernel
theorem dX5_weakest_2 : decode cX5_weakest 2 = .ok (.istore_n 3, 1) := by decide +kernel
theorem dX5_weakest_3 : decode cX5_weakest 3 = .ok (.iconst 0, 1) := by decide +kernel
theorem dX5_weakest_4 : decode cX5_weakest 4 = .ok (.istore 4, 2) := by decide +kernel
theorem dX5_weakest_6 : decode cX5_weakest 6 = .ok (.iload 4, 2) := by decide +kernel
theorem dX5_weakest_8 : decode cX5_weakest 8 = .ok (.bipush 10, 2) := by decide +kernel
theorem dX5_weakest_10 : decode cX5_weakest 10 = .ok (.if_icmp .ge 38, 3) := by decide +kernel
theorem dX5_weakest_13 : decode cX5_weakest 13 = .ok (.iload_n 2, 1) := by decide +kernel
theorem dX5_weakest_14 : decode cX5_weakest 14 = .ok (.iload 4, 2) := by decide +kernel
theorem dX5_weakest_16 : decode cX5_weakest 16 = .ok (.invokestatic 87, 3) := by decide +kernel
theorem dX5_weakest_19 : decode cX5_weakest 19 = .ok (.ifCond .eq 23, 3) := by decide +kernel
theorem dX5_weakest_22 : decode cX5_weakest 22 = .ok (.iload_n 3, 1) := by decide +kernel
theorem dX5_weakest_23 : decode cX5_weakest 23 = .ok (.bipush (-9), 2) := by decide +kernel
theorem dX5_weakest_25 : decode cX5_weakest 25 = .ok (.if_icmp .eq 14, 3) := by decide +kernel
theorem dX5_weakest_28 : decode cX5_weakest 28 = .ok (.aload_n 0, 1) := by decide +kernel
theorem dX5_weakest_29 : decode cX5_weakest 29 = .ok (.iload 4, 2) := by decide +kernel
theorem dX5_weakest_31 : decode cX5_weakest 31 = .ok (.iload_n 3, 1) := by decide +kernel
theorem dX5_weakest_32 : decode cX5_weakest 32 = .ok (.iload_n 1, 1) := by decide +kernel
theorem dX5_weakest_33 : decode cX5_weakest 33 = .ok (.invokevirtual 171, 3) := by decide +kernel
theorem dX5_weakest_36 : decode cX5_weakest 36 = .ok (.ifCond .eq 6, 3) := by decide +kernel
theorem dX5_weakest_39 : decode cX5_weakest 39 = .ok (.iload 4, 2) := by decide +kernel
theorem dX5_weakest_41 : decode cX5_weakest 41 = .ok (.istore_n 3, 1) := by decide +kernel
theorem dX5_weakest_42 : decode cX5_weakest 42 = .ok (.iinc 4 1, 3) := by decide +kernel
theorem dX5_weakest_45 : decode cX5_weakest 45 = .ok (.goto (-39), 3) := by decide +kernel
theorem dX5_weakest_48 : decode cX5_weakest 48 = .ok (.iload_n 3, 1) := by decide +kernel
theorem dX5_weakest_49 : decode cX5_weakest 49 = .ok (.ireturn, 1) := by decide +kernel
theorem dX5_leavesRather_0 : decode cX5_leavesRather 0 = .ok (.aload_n 0, 1) := by decide +kernel
theorem dX5_leavesRather_1 : decode cX5_leavesRather 1 = .ok (.getfield 9, 3) := by decide +kernel
theorem dX5_leavesRather_4 : decode cX5_leavesRather 4 = .ok (.iconst 5, 1) := by decide +kernel
theorem dX5_leavesRather_5 : decode cX5_leavesRather 5 = .ok (.iaload, 1) := by decide +kernel
theorem dX5_leavesRather_6 : decode cX5_leavesRather 6 = .ok (.istore 4, 2) := by decide +kernel
theorem dX5_leavesRather_8 : decode cX5_leavesRather 8 = .ok (.aload_n 0, 1) := by decide +kernel
theorem dX5_leavesRather_9 : decode cX5_leavesRather 9 = .ok (.getfield 35, 3) := by decide +kernel
theorem dX5_leavesRather_12 : decode cX5_leavesRather 12 = .ok (.iload_n 1, 1) := by decide +kernel
theorem dX5_leavesRather_13 : decode cX5_leavesRather 13 = .ok (.iload_n 3, 1) := by decide +kernel
theorem dX5_leavesRather_14 : decode cX5_leavesRather 14 = .ok (.invokevirtual 175, 3) := by decide +kernel
theorem dX5_leavesRather_17 : decode cX5_leavesRather 17 = .ok (.aload_n 0, 1) := by decide +kernel
theorem dX5_leavesRather_18 : decode cX5_leavesRather 18 = .ok (.getfield 35, 3) := by decide +kernel
theorem dX5_leavesRather_21 : decode cX5_leavesRather 21 = .ok (.iload_n 2, 1) := by decide +kernel
theorem dX5_leavesRather_22 : decode cX5_leavesRather 22 = .ok (.iload_n 3, 1) := by decide +kernel
theorem dX5_leavesRather_23 : decode cX5_leavesRather 23 = .ok (.invokevirtual 175, 3) := by decide +kernel
theorem dX5_leavesRather_26 : decode cX5_leavesRather 26 = .ok (.isub, 1) := by decide +kernel
theorem dX5_leavesRather_27 : decode cX5_leavesRather 27 = .ok (.istore 5, 2) := by decide +kernel
theorem dX5_leavesRather_29 : decode cX5_leavesRather 29 = .ok (.iload 5, 2) := by decide +kernel
theorem dX5_leavesRather_31 : decode cX5_leavesRather 31 = .ok (.ifCond .ne 26, 3) := by decide +kernel
theorem dX5_leavesRather_34 : decode cX5_leavesRather 34 = .ok (.aload_n 0, 1) := by decide +kernel
theorem dX5_leavesRather_35 : decode cX5_leavesRather 35 = .ok (.getfield 42, 3) := by decide +kernel
theorem dX5_leavesRather_38 : decode cX5_leavesRather 38 = .ok (.iload_n 1, 1) := by decide +kernel
theorem dX5_leavesRather_39 : decode cX5_leavesRather 39 = .ok (.iload 4, 2) := by decide +kernel
theorem dX5_leavesRather_41 : decode cX5_leavesRather 41 = .ok (.invokevirtual 132, 3) := by decide +kernel
theorem dX5_leavesRather_44 : decode cX5_leavesRather 44 = .ok (.aload_n 0, 1) := by decide +kernel
theorem dX5_leavesRather_45 : decode cX5_leavesRather 45 = .ok (.getfield 42, 3) := by decide +kernel
theorem dX5_leavesRather_48 : decode cX5_leavesRather 48 = .ok (.iload_n 2, 1) := by decide +kernel
theorem dX5_leavesRather_49 : decode cX5_leavesRather 49 = .ok (.iload 4, 2) := by decide +kernel
theorem dX5_leavesRather_51 : decode cX5_leavesRather 51 = .ok (.invokevirtual 132, 3) := by decide +kernel
theorem dX5_leavesRather_54 : decode cX5_leavesRather 54 = .ok (.isub, 1) := by decide +kernel
theorem dX5_leavesRather_55 : decode cX5_leavesRather 55 = .ok (.istore 5, 2) := by decide +kernel
theorem dX5_leavesRather_57 : decode cX5_leavesRather 57 = .ok (.iload 5, 2) := by decide +kernel
theorem dX5_leavesRather_59 : decode cX5_leavesRather 59 = .ok (.ifCond .ne 22, 3) := by decide +kernel
theorem dX5_leavesRather_62 : decode cX5_leavesRather 62 = .ok (.aload_n 0, 1) := by decide +kernel
theorem dX5_leavesRather_63 : decode cX5_leavesRather 63 = .ok (.getfield 42, 3) := by decide +kernel
theorem dX5_leavesRather_66 : decode cX5_leavesRather 66 = .ok (.iload_n 2, 1) := by decide +kernel
theorem dX5_leavesRather_67 : decode cX5_leavesRather 67 = .ok (.invokevirtual 136, 3) := by decide +kernel
theorem dX5_leavesRather_70 : decode cX5_leavesRather 70 = .ok (.aload_n 0, 1) := by decide +kernel
theorem dX5_leavesRather_71 : decode cX5_leavesRather 71 = .ok (.getfield 42, 3) := by decide +kernel
theorem dX5_leavesRather_74 : decode cX5_leavesRather 74 = .ok (.iload_n 1, 1) := by decide +kernel
theorem dX5_leavesRather_75 : decode cX5_leavesRather 75 = .ok (.invokevirtual 136, 3) := by decide +kernel
theorem dX5_leavesRather_78 : decode cX5_leavesRather 78 = .ok (.isub, 1) := by decide +kernel
theorem dX5_leavesRather_79 : decode cX5_leavesRather 79 = .ok (.istore 5, 2) := by decide +kernel
theorem dX5_leavesRather_81 : decode cX5_leavesRather 81 = .ok (.iload 5, 2) := by decide +kernel
theorem dX5_leavesRather_83 : decode cX5_leavesRather 83 = .ok (.ifCond .gt 7, 3) := by decide +kernel
theorem dX5_leavesRather_86 : decode cX5_leavesRather 86 = .ok (.iconst 1, 1) := by decide +kernel
theorem dX5_leavesRather_87 : decode cX5_leavesRather 87 = .ok (.goto 4, 3) := by decide +kernel
theorem dX5_leavesRather_90 : decode cX5_leavesRather 90 = .ok (.iconst 0, 1) := by decide +kernel
theorem dX5_leavesRather_91 : decode cX5_leavesRather 91 = .ok (.ireturn, 1) := by decide +kernel
theorem dX5_canLead_0 : decode cX5_canLead 0 = .ok (.aload_n 0, 1) := by decide +kernel
theorem dX5_canLead_1 : decode cX5_canLead 1 = .ok (.iload_n 1, 1) := by decide +kernel
theorem dX5_canLead_2 : decode cX5_canLead 2 = .ok (.invokevirtual 178, 3) := by decide +kernel
theorem dX5_canLead_5 : decode cX5_canLead 5 = .ok (.ifCond .eq 41, 3) := by decide +kernel
theorem dX5_canLead_8 : decode cX5_canLead 8 = .ok (.aload_n 0, 1) := by decide +kernel
theorem dX5_canLead_9 : decode cX5_canLead 9 = .ok (.getfield 42, 3) := by decide +kernel
theorem dX5_canLead_12 : decode cX5_canLead 12 = .ok (.iload_n 1, 1) := by decide +kernel
theorem dX5_canLead_13 : decode cX5_canLead 13 = .ok (.invokevirtual 136, 3) := by decide +kernel
theorem dX5_canLead_16 : decode cX5_canLead 16 = .ok (.aload_n 0, 1) := by decide +kernel
theorem dX5_canLead_17 : decode cX5_canLead 17 = .ok (.getfield 9, 3) := by decide +kernel
theorem dX5_canLead_20 : decode cX5_canLead 20 = .ok (.iconst 1, 1) := by decide +kernel
theorem dX5_canLead_21 : decode cX5_canLead 21 = .ok (.iaload, 1) := by decide +kernel
theorem dX5_canLead_22 : decode cX5_canLead 22 = .ok (.if_icmp .ge 24, 3) := by decide +kernel
theorem dX5_canLead_25 : decode cX5_canLead 25 = .ok (.aload_n 0, 1) := by decide +kernel
theorem dX5_canLead_26 : decode cX5_canLead 26 = .ok (.getfield 42, 3) := by decide +kernel
theorem dX5_canLead_29 : decode cX5_canLead 29 = .ok (.iload_n 1, 1) := by decide +kernel
theorem dX5_canLead_30 : decode cX5_canLead 30 = .ok (.invokevirtual 182, 3) := by decide +kernel
theorem dX5_canLead_33 : decode cX5_canLead 33 = .ok (.aload_n 0, 1) := by decide +kernel
theorem dX5_canLead_34 : decode cX5_canLead 34 = .ok (.getfield 9, 3) := by decide +kernel
theorem dX5_canLead_37 : decode cX5_canLead 37 = .ok (.iconst 2, 1) := by decide +kernel
theorem dX5_canLead_38 : decode cX5_canLead 38 = .ok (.iaload, 1) := by decide +kernel
theorem dX5_canLead_39 : decode cX5_canLead 39 = .ok (.if_icmp .ge 7, 3) := by decide +kernel
theorem dX5_canLead_42 : decode cX5_canLead 42 = .ok (.iconst 1, 1) := by decide +kernel
theorem dX5_canLead_43 : decode cX5_canLead 43 = .ok (.goto 4, 3) := by decide +kernel
theorem dX5_canLead_46 : decode cX5_canLead 46 = .ok (.iconst 0, 1) := by decide +kernel
theorem dX5_canLead_47 : decode cX5_canLead 47 = .ok (.ireturn, 1) := by decide +kernel
theorem dX5_numberOf_0 : decode cX5_numberOf 0 = .ok (.iload_n 2, 1) := by decide +kernel
theorem dX5_numberOf_1 : decode cX5_numberOf 1 = .ok (.tableswitch 92 0 4 #[35, 50, 59, 68, 77], 35) := by decide +kernel
theorem dX5_numberOf_36 : decode cX5_numberOf 36 = .ok (.aload_n 0, 1) := by decide +kernel
theorem dX5_numberOf_37 : decode cX5_numberOf 37 = .ok (.getfield 42, 3) := by decide +kernel
theorem dX5_numberOf_40 : decode cX5_numberOf 40 = .ok (.iload_n 1, 1) := by decide +kernel
theorem dX5_numberOf_41 : decode cX5_numberOf 41 = .ok (.aload_n 0, 1) := by decide +kernel
theorem dX5_numberOf_42 : decode cX5_numberOf 42 = .ok (.getfield 9, 3) := by decide +kernel
theorem dX5_numberOf_45 : decode cX5_numberOf 45 = .ok (.iconst 5, 1) := by decide +kernel
theorem dX5_numberOf_46 : decode cX5_numberOf 46 = .ok (.iaload, 1) := by decide +kernel
theorem dX5_numberOf_47 : decode cX5_numberOf 47 = .ok (.invokevirtual 132, 3) := by decide +kernel
theorem dX5_numberOf_50 : decode cX5_numberOf 50 = .ok (.ireturn, 1) := by decide +kernel
theorem dX5_numberOf_51 : decode cX5_numberOf 51 = .ok (.aload_n 0, 1) := by decide +kernel
theorem dX5_numberOf_52 : decode cX5_numberOf 52 = .ok (.getfield 42, 3) := by decide +kernel
theorem dX5_numberOf_55 : decode cX5_numberOf 55 = .ok (.iload_n 1, 1) := by decide +kernel
theorem dX5_numberOf_56 : decode cX5_numberOf 56 = .ok (.invokevirtual 136, 3) := by decide +kernel
theorem dX5_numberOf_59 : decode cX5_numberOf 59 = .ok (.ireturn, 1) := by decide +kernel
theorem dX5_numberOf_60 : decode cX5_numberOf 60 = .ok (.aload_n 0, 1) := by decide +kernel
theorem dX5_numberOf_61 : decode cX5_numberOf 61 = .ok (.iload_n 1, 1) := by decide +kernel
theorem dX5_numberOf_62 : decode cX5_numberOf 62 = .ok (.invokevirtual 178, 3) := by decide +kernel
theorem dX5_numberOf_65 : decode cX5_numberOf 65 = .ok (.invokestatic 185, 3) := by decide +kernel
theorem dX5_numberOf_68 : decode cX5_numberOf 68 = .ok (.ireturn, 1) := by decide +kernel
theorem dX5_numberOf_69 : decode cX5_numberOf 69 = .ok (.aload_n 0, 1) := by decide +kernel
theorem dX5_numberOf_70 : decode cX5_numberOf 70 = .ok (.iload_n 1, 1) := by decide +kernel
theorem dX5_numberOf_71 : decode cX5_numberOf 71 = .ok (.invokevirtual 189, 3) := by decide +kernel
theorem dX5_numberOf_74 : decode cX5_numberOf 74 = .ok (.invokestatic 185, 3) := by decide +kernel
theorem dX5_numberOf_77 : decode cX5_numberOf 77 = .ok (.ireturn, 1) := by decide +kernel
theorem dX5_numberOf_78 : decode cX5_numberOf 78 = .ok (.aload_n 0, 1) := by decide +kernel
theorem dX5_numberOf_79 : decode cX5_numberOf 79 = .ok (.getfield 28, 3) := by decide +kernel
theorem dX5_numberOf_82 : decode cX5_numberOf 82 = .ok (.getfield 158, 3) := by decide +kernel
theorem dX5_numberOf_85 : decode cX5_numberOf 85 = .ok (.iload_n 1, 1) := by decide +kernel
theorem dX5_numberOf_86 : decode cX5_numberOf 86 = .ok (.invokestatic 87, 3) := by decide +kernel
theorem dX5_numberOf_89 : decode cX5_numberOf 89 = .ok (.invokestatic 185, 3) := by decide +kernel
theorem dX5_numberOf_92 : decode cX5_numberOf 92 = .ok (.ireturn, 1) := by decide +kernel
theorem dX5_numberOf_93 : decode cX5_numberOf 93 = .ok (.aload_n 0, 1) := by decide +kernel
theorem dX5_numberOf_94 : decode cX5_numberOf 94 = .ok (.getfield 71, 3) := by decide +kernel
theorem dX5_numberOf_97 : decode cX5_numberOf 97 = .ok (.iload_n 1, 1) := by decide +kernel
theorem dX5_numberOf_98 : decode cX5_numberOf 98 = .ok (.invokestatic 87, 3) := by decide +kernel
theorem dX5_numberOf_101 : decode cX5_numberOf 101 = .ok (.invokestatic 185, 3) := by decide +kernel
theorem dX5_numberOf_104 : decode cX5_numberOf 104 = .ok (.ireturn, 1) := by decide +kernel
theorem dX6_init_0 : decode cX6_init 0 = .ok (.aload_n 0, 1) := by decide +kernel
theorem dX6_init_1 : decode cX6_init 1 = .ok (.invokespecial 3, 3) := by decide +kernel
theorem dX6_init_4 : decode cX6_init 4 = .ok (.aload_n 0, 1) := by decide +kernel
theorem dX6_init_5 : decode cX6_init 5 = .ok (.bipush 41, 2) := by decide +kernel
theorem dX6_init_7 : decode cX6_init 7 = .ok (.newarray .int, 2) := by decide +kernel
theorem dX6_init_9 : decode cX6_init 9 = .ok (.putfield 9, 3) := by decide +kernel
theorem dX6_init_12 : decode cX6_init 12 = .ok (.aload_n 0, 1) := by decide +kernel
theorem dX6_init_13 : decode cX6_init 13 = .ok (.bipush 41, 2) := by decide +kernel
theorem dX6_init_15 : decode cX6_init 15 = .ok (.newarray .int, 2) := by decide +kernel
theorem dX6_init_17 : decode cX6_init 17 = .ok (.putfield 15, 3) := by decide +kernel
theorem dX6_init_20 : decode cX6_init 20 = .ok (.aload_n 0, 1) := by decide +kernel
theorem dX6_init_21 : decode cX6_init 21 = .ok (.bipush 41, 2) := by decide +kernel
theorem dX6_init_23 : decode cX6_init 23 = .ok (.newarray .int, 2) := by decide +kernel
theorem dX6_init_25 : decode cX6_init 25 = .ok (.putfield 18, 3) := by decide +kernel
theorem dX6_init_28 : decode cX6_init 28 = .ok (.aload_n 0, 1) := by decide +kernel
theorem dX6_init_29 : decode cX6_init 29 = .ok (.bipush 41, 2) := by decide +kernel
theorem dX6_init_31 : decode cX6_init 31 = .ok (.newarray .int, 2) := by decide +kernel
theorem dX6_init_33 : decode cX6_init 33 = .ok (.putfield 21, 3) := by decide +kernel
theorem dX6_init_36 : decode cX6_init 36 = .ok (.aload_n 0, 1) := by decide +kernel
theorem dX6_init_37 : decode cX6_init 37 = .ok (.bipush 41, 2) := by decide +kernel
theorem dX6_init_39 : decode cX6_init 39 = .ok (.newarray .int, 2) := by decide +kernel
theorem dX6_init_41 : decode cX6_init 41 = .ok (.putfield 24, 3) := by decide +kernel
theorem dX6_init_44 : decode cX6_init 44 = .ok (.aload_n 0, 1) := by decide +kernel
theorem dX6_init_45 : decode cX6_init 45 = .ok (.bipush 41, 2) := by decide +kernel
theorem dX6_init_47 : decode cX6_init 47 = .ok (.newarray .int, 2) := by decide +kernel
theorem dX6_init_49 : decode cX6_init 49 = .ok (.putfield 27, 3) := by decide +kernel
theorem dX6_init_52 : decode cX6_init 52 = .ok (.aload_n 0, 1) := by decide +kernel
theorem dX6_init_53 : decode cX6_init 53 = .ok (.bipush 41, 2) := by decide +kernel
theorem dX6_init_55 : decode cX6_init 55 = .ok (.newarray .int, 2) := by decide +kernel
theorem dX6_init_57 : decode cX6_init 57 = .ok (.putfield 30, 3) := by decide +kernel
theorem dX6_init_60 : decode cX6_init 60 = .ok (.aload_n 0, 1) := by decide +kernel
theorem dX6_init_61 : decode cX6_init 61 = .ok (.sipush 410, 3) := by decide +kernel
theorem dX6_init_64 : decode cX6_init 64 = .ok (.newarray .int, 2) := by decide +kernel
theorem dX6_init_66 : decode cX6_init 66 = .ok (.putfield 33, 3) := by decide +kernel
theorem dX6_init_69 : decode cX6_init 69 = .ok (.return_, 1) := by decide +kernel
theorem dX6_copy_0 : decode cX6_copy 0 = .ok (.aload_n 0, 1) := by decide +kernel
theorem dX6_copy_1 : decode cX6_copy 1 = .ok (.aload_n 1, 1) := by decide +kernel
theorem dX6_copy_2 : decode cX6_copy 2 = .ok (.getfield 36, 3) := by decide +kernel
theorem dX6_copy_5 : decode cX6_copy 5 = .ok (.putfield 36, 3) := by decide +kernel
theorem dX6_copy_8 : decode cX6_copy 8 = .ok (.aload_n 1, 1) := by decide +kernel
theorem dX6_copy_9 : decode cX6_copy 9 = .ok (.getfield 9, 3) := by decide +kernel
theorem dX6_copy_12 : decode cX6_copy 12 = .ok (.aload_n 0, 1) := by decide +kernel
theorem dX6_copy_13 : decode cX6_copy 13 = .ok (.getfield 9, 3) := by decide +kernel
theorem dX6_copy_16 : decode cX6_copy 16 = .ok (.invokestatic 40, 3) := by decide +kernel
theorem dX6_copy_19 : decode cX6_copy 19 = .ok (.aload_n 1, 1) := by decide +kernel
theorem dX6_copy_20 : decode cX6_copy 20 = .ok (.getfield 15, 3) := by decide +kernel
theorem dX6_copy_23 : decode cX6_copy 23 = .ok (.aload_n 0, 1) := by decide +kernel
theorem dX6_copy_24 : decode cX6_copy 24 = .ok (.getfield 15, 3) := by decide +kernel
theorem dX6_copy_27 : decode cX6_copy 27 = .ok (.invokestatic 40, 3) := by decide +kernel
theorem dX6_copy_30 : decode cX6_copy 30 = .ok (.aload_n 1, 1) := by decide +kernel
theorem dX6_copy_31 : decode cX6_copy 31 = .ok (.getfield 18, 3) := by decide +kernel
theorem dX6_copy_34 : decode cX6_copy 34 = .ok (.aload_n 0, 1) := by decide +kernel
theorem dX6_copy_35 : decode cX6_copy 35 = .ok (.getfield 18, 3) := by decide +kernel
theorem dX6_copy_38 : decode cX6_copy 38 = .ok (.invokestatic 40, 3) := by decide +kernel
theorem dX6_copy_41 : decode cX6_copy 41 = .ok (.aload_n 1, 1) := by decide +kernel
theorem dX6_copy_42 : decode cX6_copy 42 = .ok (.getfield 21, 3) := by decide +kernel
theorem dX6_copy_45 : decode cX6_copy 45 = .ok (.aload_n 0, 1) := by decide +kernel
theorem dX6_copy_46 : decode cX6_copy 46 = .ok (.getfield 21, 3) := by decide +kernel
theorem dX6_copy_49 : decode cX6_copy 49 = .ok (.invokestatic 40, 3) := by decide +kernel
theorem dX6_copy_52 : decode cX6_copy 52 = .ok (.aload_n 1, 1) := by decide +kernel
theorem dX6_copy_53 : decode cX6_copy 53 = .ok (.getfield 24, 3) := by decide +kernel
theorem dX6_copy_56 : decode cX6_copy 56 = .ok (.aload_n 0, 1) := by decide +kernel
theorem dX6_copy_57 : decode cX6_copy 57 = .ok (.getfield 24, 3) := by decide +kernel
theorem dX6_copy_60 : decode cX6_copy 60 = .ok (.invokestatic 40, 3) := by decide +kernel
theorem dX6_copy_63 : decode cX6_copy 63 = .ok (.aload_n 1, 1) := by decide +kernel
theorem dX6_copy_64 : decode cX6_copy 64 = .ok (.getfield 27, 3) := by decide +kernel
theorem dX6_copy_67 : decode cX6_copy 67 = .ok (.aload_n 0, 1) := by decide +kernel
theorem dX6_copy_68 : decode cX6_copy 68 = .ok (.getfield 27, 3) := by decide +kernel
theorem dX6_copy_71 : decode cX6_copy 71 = .ok (.invokestatic 40, 3) := by decide +kernel
theorem dX6_copy_74 : decode cX6_copy 74 = .ok (.aload_n 1, 1) := by decide +kernel
theorem dX6_copy_75 : decode cX6_copy 75 = .ok (.getfield 30, 3) := by decide +kernel
theorem dX6_copy_78 : decode cX6_copy 78 = .ok (.aload_n 0, 1) := by decide +kernel
theorem dX6_copy_79 : decode cX6_copy 79 = .ok (.getfield 30, 3) := by decide +kernel
theorem dX6_copy_82 : decode cX6_copy 82 = .ok (.invokestatic 40, 3) := by decide +kernel
theorem dX6_copy_85 : decode cX6_copy 85 = .ok (.aload_n 1, 1) := by decide +kernel
theorem dX6_copy_86 : decode cX6_copy 86 = .ok (.getfield 33, 3) := by decide +kernel
theorem dX6_copy_89 : decode cX6_copy 89 = .ok (.aload_n 0, 1) := by decide +kernel
theorem dX6_copy_90 : decode cX6_copy 90 = .ok (.getfield 33, 3) := by decide +kernel
theorem dX6_copy_93 : decode cX6_copy 93 = .ok (.invokestatic 40, 3) := by decide +kernel
theorem dX6_copy_96 : decode cX6_copy 96 = .ok (.return_, 1) := by decide +kernel
theorem dX6_copyRow_0 : decode cX6_copyRow 0 = .ok (.aload_n 0, 1) := by decide +kernel
theorem dX6_copyRow_1 : decode cX6_copyRow 1 = .ok (.iconst 0, 1) := by decide +kernel
theorem dX6_copyRow_2 : decode cX6_copyRow 2 = .ok (.aload_n 1, 1) := by decide +kernel
theorem dX6_copyRow_3 : decode cX6_copyRow 3 = .ok (.iconst 0, 1) := by decide +kernel
theorem dX6_copyRow_4 : decode cX6_copyRow 4 = .ok (.aload_n 1, 1) := by decide +kernel
theorem dX6_copyRow_5 : decode cX6_copyRow 5 = .ok (.arraylength, 1) := by decide +kernel
theorem dX6_copyRow_6 : decode cX6_copyRow 6 = .ok (.invokestatic 44, 3) := by decide +kernel
theorem dX6_copyRow_9 : decode cX6_copyRow 9 = .ok (.return_, 1) := by decide +kernel
theorem dX6_isTerm_0 : decode cX6_isTerm 0 = .ok (.iload_n 1, 1) := by decide +kernel
theorem dX6_isTerm_1 : decode cX6_isTerm 1 = .ok (.iconst 1, 1) := by decide +kernel
theorem dX6_isTerm_2 : decode cX6_isTerm 2 = .ok (.if_icmp .lt 15, 3) := by decide +kernel
theorem dX6_isTerm_5 : decode cX6_isTerm 5 = .ok (.iload_n 1, 1) := by decide +kernel
theorem dX6_isTerm_6 : decode cX6_isTerm 6 = .ok (.aload_n 0, 1) := by decide +kernel
theorem dX6_isTerm_7 : decode cX6_isTerm 7 = .ok (.getfield 36, 3) := by decide +kernel
theorem dX6_isTerm_10 : decode cX6_isTerm 10 = .ok (.if_icmp .gt 7, 3) := by decide +kernel
theorem dX6_isTerm_13 : decode cX6_isTerm 13 = .ok (.iconst 1, 1) := by decide +kernel
theorem dX6_isTerm_14 : decode cX6_isTerm 14 = .ok (.goto 4, 3) := by decide +kernel
theorem dX6_isTerm_17 : decode cX6_isTerm 17 = .ok (.iconst 0, 1) := by decide +kernel
theorem dX6_isTerm_18 : decode cX6_isTerm 18 = .ok (.ireturn, 1) := by decide +kernel
theorem dX6_begin_0 : decode cX6_begin 0 = .ok (.aload_n 0, 1) := by decide +kernel
theorem dX6_begin_1 : decode cX6_begin 1 = .ok (.getfield 36, 3) := by decide +kernel
theorem dX6_begin_4 : decode cX6_begin 4 = .ok (.bipush 40, 2) := by decide +kernel
theorem dX6_begin_6 : decode cX6_begin 6 = .ok (.if_icmp .lt 4, 3) := by decide +kernel
theorem dX6_begin_9 : decode cX6_begin 9 = .ok (.return_, 1) := by decide +kernel
theorem dX6_begin_10 : decode cX6_begin 10 = .ok (.aload_n 0, 1) := by decide +kernel
theorem dX6_begin_11 : decode cX6_begin 11 = .ok (.dup, 1) := by decide +kernel
theorem dX6_begin_12 : decode cX6_begin 12 = .ok (.getfield 36, 3) := by decide +kernel
theorem dX6_begin_15 : decode cX6_begin 15 = .ok (.iconst 1, 1) := by decide +kernel
theorem dX6_begin_16 : decode cX6_begin 16 = .ok (.iadd, 1) := by decide +kernel
theorem dX6_begin_17 : decode cX6_begin 17 = .ok (.putfield 36, 3) := by decide +kernel
theorem dX6_begin_20 : decode cX6_begin 20 = .ok (.aload_n 0, 1) := by decide +kernel
theorem dX6_begin_21 : decode cX6_begin 21 = .ok (.getfield 9, 3) := by decide +kernel
theorem dX6_begin_24 : decode cX6_begin 24 = .ok (.aload_n 0, 1) := by decide +kernel
theorem dX6_begin_25 : decode cX6_begin 25 = .ok (.getfield 36, 3) := by decide +kernel
theorem dX6_begin_28 : decode cX6_begin 28 = .ok (.iload_n 1, 1) := by decide +kernel
theorem dX6_begin_29 : decode cX6_begin 29 = .ok (.iastore, 1) := by decide +kernel
theorem dX6_begin_30 : decode cX6_begin 30 = .ok (.aload_n 0, 1) := by decide +kernel
theorem dX6_begin_31 : decode cX6_begin 31 = .ok (.getfield 15, 3) := by decide +kernel
theorem dX6_begin_34 : decode cX6_begin 34 = .ok (.aload_n 0, 1) := by decide +kernel
theorem dX6_begin_35 : decode cX6_begin 35 = .ok (.getfield 36, 3) := by decide +kernel
theorem dX6_begin_38 : decode cX6_begin 38 = .ok (.iload_n 2, 1) := by decide +kernel
theorem dX6_begin_39 : decode cX6_begin 39 = .ok (.iastore, 1) := by decide +kernel
theorem dX6_begin_40 : decode cX6_begin 40 = .ok (.aload_n 0, 1) := by decide +kernel
theorem dX6_begin_41 : decode cX6_begin 41 = .ok (.getfield 18, 3) := by decide +kernel
theorem dX6_begin_44 : decode cX6_begin 44 = .ok (.aload_n 0, 1) := by decide +kernel
theorem dX6_begin_45 : decode cX6_begin 45 = .ok (.getfield 36, 3) := by decide +kernel
theorem dX6_begin_48 : decode cX6_begin 48 = .ok (.iload_n 2, 1) := by decide +kernel
theorem dX6_begin_49 : decode cX6_begin 49 = .ok (.iload_n 3, 1) := by decide +kernel
theorem dX6_begin_50 : decode cX6_begin 50 = .ok (.iadd, 1) := by decide +kernel
theorem dX6_begin_51 : decode cX6_begin 51 = .ok (.iastore, 1) := by decide +kernel
theorem dX6_begin_52 : decode cX6_begin 52 = .ok (.aload_n 0, 1) := by decide +kernel
theorem dX6_begin_53 : decode cX6_begin 53 = .ok (.getfield 21, 3) := by decide +kernel
theorem dX6_begin_56 : decode cX6_begin 56 = .ok (.aload_n 0, 1) := by decide +kernel
theorem dX6_begin_57 : decode cX6_begin 57 = .ok (.getfield 36, 3) := by decide +kernel
theorem dX6_begin_60 : decode cX6_begin 60 = .ok (.bipush (-9), 2) := by decide +kernel
theorem dX6_begin_62 : decode cX6_begin 62 = .ok (.iastore, 1) := by decide +kernel
theorem dX6_begin_63 : decode cX6_begin 63 = .ok (.aload_n 0, 1) := by decide +kernel
theorem dX6_begin_64 : decode cX6_begin 64 = .ok (.getfield 24, 3) := by decide +kernel
theorem dX6_begin_67 : decode cX6_begin 67 = .ok (.aload_n 0, 1) := by decide +kernel
theorem dX6_begin_68 : decode cX6_begin 68 = .ok (.getfield 36, 3) := by decide +kernel
theorem dX6_begin_71 : decode cX6_begin 71 = .ok (.iconst 0, 1) := by decide +kernel
theorem dX6_begin_72 : decode cX6_begin 72 = .ok (.iastore, 1) := by decide +kernel
theorem dX6_begin_73 : decode cX6_begin 73 = .ok (.aload_n 0, 1) := by decide +kernel
theorem dX6_begin_74 : decode cX6_begin 74 = .ok (.getfield 27, 3) := by decide +kernel
theorem dX6_begin_77 : decode cX6_begin 77 = .ok (.aload_n 0, 1) := by decide +kernel
theorem dX6_begin_78 : decode cX6_begin 78 = .ok (.getfield 36, 3) := by decide +kernel
theorem dX6_begin_81 : decode cX6_begin 81 = .ok (.iconst 0, 1) := by decide +kernel
theorem dX6_begin_82 : decode cX6_begin 82 = .ok (.iastore, 1) := by decide +kernel
theorem dX6_begin_83 : decode cX6_begin 83 = .ok (.aload_n 0, 1) := by decide +kernel
theorem dX6_begin_84 : decode cX6_begin 84 = .ok (.getfield 30, 3) := by decide +kernel
theorem dX6_begin_87 : decode cX6_begin 87 = .ok (.aload_n 0, 1) := by decide +kernel
theorem dX6_begin_88 : decode cX6_begin 88 = .ok (.getfield 36, 3) := by decide +kernel
theorem dX6_begin_91 : decode cX6_begin 91 = .ok (.iload 4, 2) := by decide +kernel
theorem dX6_begin_93 : decode cX6_begin 93 = .ok (.iastore, 1) := by decide +kernel
theorem dX6_begin_94 : decode cX6_begin 94 = .ok (.iconst 0, 1) := by decide +kernel
theorem dX6_begin_95 : decode cX6_begin 95 = .ok (.istore 5, 2) := by decide +kernel
theorem dX6_begin_97 : decode cX6_begin 97 = .ok (.iload 5, 2) := by decide +kernel
theorem dX6_begin_99 : decode cX6_begin 99 = .ok (.bipush 10, 2) := by decide +kernel
theorem dX6_begin_101 : decode cX6_begin 101 = .ok (.if_icmp .ge 26, 3) := by decide +kernel
theorem dX6_begin_104 : decode cX6_begin 104 = .ok (.aload_n 0, 1) := by decide +kernel
theorem dX6_begin_105 : decode cX6_begin 105 = .ok (.getfield 33, 3) := by decide +kernel
theorem dX6_begin_108 : decode cX6_begin 108 = .ok (.aload_n 0, 1) := by decide +kernel
theorem dX6_begin_109 : decode cX6_begin 109 = .ok (.getfield 36, 3) := by decide +kernel
theorem dX6_begin_112 : decode cX6_begin 112 = .ok (.bipush 10, 2) := by decide +kernel
theorem dX6_begin_114 : decode cX6_begin 114 = .ok (.imul, 1) := by decide +kernel
theorem dX6_begin_115 : decode cX6_begin 115 = .ok (.iload 5, 2) := by decide +kernel
theorem dX6_begin_117 : decode cX6_begin 117 = .ok (.iadd, 1) := by decide +kernel
theorem dX6_begin_118 : decode cX6_begin 118 = .ok (.bipush (-9), 2) := by decide +kernel
theorem dX6_begin_120 : decode cX6_begin 120 = .ok (.iastore, 1) := by decide +kernel
theorem dX6_begin_121 : decode cX6_begin 121 = .ok (.iinc 5 1, 3) := by decide +kernel
theorem dX6_begin_124 : decode cX6_begin 124 = .ok (.goto (-27), 3) := by decide +kernel
theorem dX6_begin_127 : decode cX6_begin 127 = .ok (.return_, 1) := by decide +kernel
theorem dX6_finishLatest_0 : decode cX6_finishLatest 0 = .ok (.aload_n 0, 1) := by decide +kernel
theorem dX6_finishLatest_1 : decode cX6_finishLatest 1 = .ok (.getfield 21, 3) := by decide +kernel
theorem dX6_finishLatest_4 : decode cX6_finishLatest 4 = .ok (.aload_n 0, 1) := by decide +kernel
theorem dX6_finishLatest_5 : decode cX6_finishLatest 5 = .ok (.getfield 36, 3) := by decide +kernel
theorem dX6_finishLatest_8 : decode cX6_finishLatest 8 = .ok (.iload_n 1, 1) := by decide +kernel
theorem dX6_finishLatest_9 : decode cX6_finishLatest 9 = .ok (.iastore, 1) := by decide +kernel
theorem dX6_finishLatest_10 : decode cX6_finishLatest 10 = .ok (.aload_n 0, 1) := by decide +kernel
theorem dX6_finishLatest_11 : decode cX6_finishLatest 11 = .ok (.getfield 27, 3) := by decide +kernel
theorem dX6_finishLatest_14 : decode cX6_finishLatest 14 = .ok (.aload_n 0, 1) := by decide +kernel
theorem dX6_finishLatest_15 : decode cX6_finishLatest 15 = .ok (.getfield 36, 3) := by decide +kernel
theorem dX6_finishLatest_18 : decode cX6_finishLatest 18 = .ok (.iload_n 2, 1) := by decide +kernel
theorem dX6_finishLatest_19 : decode cX6_finishLatest 19 = .ok (.invokestatic 50, 3) := by decide +kernel
theorem dX6_finishLatest_22 : decode cX6_finishLatest 22 = .ok (.iastore, 1) := by decide +kernel
theorem dX6_finishLatest_23 : decode cX6_finishLatest 23 = .ok (.return_, 1) := by decide +kernel
theorem dX6_latestPlannedEnd_0 : decode cX6_latestPlannedEnd 0 = .ok (.aload_n 0, 1) := by decide +kernel
theorem dX6_latestPlannedEnd_1 : decode cX6_latestPlannedEnd 1 = .ok (.getfield 18, 3) := by decide +kernel
theorem dX6_latestPlannedEnd_4 : decode cX6_latestPlannedEnd 4 = .ok (.aload_n 0, 1) := by decide +kernel
theorem dX6_latestPlannedEnd_5 : decode cX6_latestPlannedEnd 5 = .ok (.getfield 36, 3) := by decide +kernel
theorem dX6_latestPlannedEnd_8 : decode cX6_latestPlannedEnd 8 = .ok (.iaload, 1) := by decide +kernel
theorem dX6_latestPlannedEnd_9 : decode cX6_latestPlannedEnd 9 = .ok (.ireturn, 1) := by decide +kernel
theorem dX6_latestDeeds_0 : decode cX6_latestDeeds 0 = .ok (.aload_n 0, 1) := by decide +kernel
theorem dX6_latestDeeds_1 : decode cX6_latestDeeds 1 = .ok (.getfield 24, 3) := by decide +kernel
theorem dX6_latestDeeds_4 : decode cX6_latestDeeds 4 = .ok (.aload_n 0, 1) := by decide +kernel
theorem dX6_latestDeeds_5 : decode cX6_latestDeeds 5 = .ok (.getfield 36, 3) := by decide +kernel
theorem dX6_latestDeeds_8 : decode cX6_latestDeeds 8 = .ok (.iaload, 1) := by decide +kernel
theorem dX6_latestDeeds_9 : decode cX6_latestDeeds 9 = .ok (.ireturn, 1) := by decide +kernel
theorem dX6_setLatestDeeds_0 : decode cX6_setLatestDeeds 0 = .ok (.aload_n 0, 1) := by decide +kernel
theorem dX6_setLatestDeeds_1 : decode cX6_setLatestDeeds 1 = .ok (.getfield 24, 3) := by decide +kernel
theorem dX6_setLatestDeeds_4 : decode cX6_setLatestDeeds 4 = .ok (.aload_n 0, 1) := by decide +kernel
theorem dX6_setLatestDeeds_5 : decode cX6_setLatestDeeds 5 = .ok (.getfield 36, 3) := by decide +kernel
theorem dX6_setLatestDeeds_8 : decode cX6_setLatestDeeds 8 = .ok (.iload_n 1, 1) := by decide +kernel
theorem dX6_setLatestDeeds_9 : decode cX6_setLatestDeeds 9 = .ok (.iastore, 1) := by decide +kernel
theorem dX6_setLatestDeeds_10 : decode cX6_setLatestDeeds 10 = .ok (.return_, 1) := by decide +kernel
theorem dX6_isOver_0 : decode cX6_isOver 0 = .ok (.aload_n 0, 1) := by decide +kernel
theorem dX6_isOver_1 : decode cX6_isOver 1 = .ok (.getfield 21, 3) := by decide +kernel
theorem dX6_isOver_4 : decode cX6_isOver 4 = .ok (.iload_n 1, 1) := by decide +kernel
theorem dX6_isOver_5 : decode cX6_isOver 5 = .ok (.iaload, 1) := by decide +kernel
theorem dX6_isOver_6 : decode cX6_isOver 6 = .ok (.bipush (-9), 2) := by decide +kernel
theorem dX6_isOver_8 : decode cX6_isOver 8 = .ok (.if_icmp .eq 7, 3) := by decide +kernel
theorem dX6_isOver_11 : decode cX6_isOver 11 = .ok (.iconst 1, 1) := by decide +kernel
theorem dX6_isOver_12 : decode cX6_isOver 12 = .ok (.goto 4, 3) := by decide +kernel
theorem dX6_isOver_15 : decode cX6_isOver 15 = .ok (.iconst 0, 1) := by decide +kernel
theorem dX6_isOver_16 : decode cX6_isOver 16 = .ok (.ireturn, 1) := by decide +kernel
theorem dX6_mayGrade_0 : decode cX6_mayGrade 0 = .ok (.aload_n 0, 1) := by decide +kernel
theorem dX6_mayGrade_1 : decode cX6_mayGrade 1 = .ok (.iload_n 2, 1) := by decide +kernel
theorem dX6_mayGrade_2 : decode cX6_mayGrade 2 = .ok (.invokevirtual 54, 3) := by decide +kernel
theorem dX6_mayGrade_5 : decode cX6_mayGrade 5 = .ok (.ifCond .eq 16, 3) := by decide +kernel
theorem dX6_mayGrade_8 : decode cX6_mayGrade 8 = .ok (.iload_n 3, 1) := by decide +kernel
theorem dX6_mayGrade_9 : decode cX6_mayGrade 9 = .ok (.aload_n 0, 1) := by decide +kernel
theorem dX6_mayGrade_10 : decode cX6_mayGrade 10 = .ok (.getfield 21, 3) := by decide +kernel
theorem dX6_mayGrade_13 : decode cX6_mayGrade 13 = .ok (.iload_n 2, 1) := by decide +kernel
theorem dX6_mayGrade_14 : decode cX6_mayGrade 14 = .ok (.iaload, 1) := by decide +kernel
theorem dX6_mayGrade_15 : decode cX6_mayGrade 15 = .ok (.isub, 1) := by decide +kernel
theorem dX6_mayGrade_16 : decode cX6_mayGrade 16 = .ok (.bipush 50, 2) := by decide +kernel
theorem dX6_mayGrade_18 : decode cX6_mayGrade 18 = .ok (.if_icmp .le 5, 3) := by decide +kernel
theorem dX6_mayGrade_21 : decode cX6_mayGrade 21 = .ok (.iconst 0, 1) := by decide +kernel
theorem dX6_mayGrade_22 : decode cX6_mayGrade 22 = .ok (.ireturn, 1) := by decide +kernel
theorem dX6_mayGrade_23 : decode cX6_mayGrade 23 = .ok (.iload_n 1, 1) := by decide +kernel
theorem dX6_mayGrade_24 : decode cX6_mayGrade 24 = .ok (.aload_n 0, 1) := by decide +kernel
theorem dX6_mayGrade_25 : decode cX6_mayGrade 25 = .ok (.getfield 9, 3) := by decide +kernel
theorem dX6_mayGrade_28 : decode cX6_mayGrade 28 = .ok (.iload_n 2, 1) := by decide +kernel
theorem dX6_mayGrade_29 : decode cX6_mayGrade 29 = .ok (.iaload, 1) := by decide +kernel
theorem dX6_mayGrade_30 : decode cX6_mayGrade 30 = .ok (.if_icmp .eq 20, 3) := by decide +kernel
theorem dX6_mayGrade_33 : decode cX6_mayGrade 33 = .ok (.aload_n 0, 1) := by decide +kernel
theorem dX6_mayGrade_34 : decode cX6_mayGrade 34 = .ok (.getfield 30, 3) := by decide +kernel
theorem dX6_mayGrade_37 : decode cX6_mayGrade 37 = .ok (.iload_n 2, 1) := by decide +kernel
theorem dX6_mayGrade_38 : decode cX6_mayGrade 38 = .ok (.iaload, 1) := by decide +kernel
theorem dX6_mayGrade_39 : decode cX6_mayGrade 39 = .ok (.iload_n 1, 1) := by decide +kernel
theorem dX6_mayGrade_40 : decode cX6_mayGrade 40 = .ok (.invokestatic 58, 3) := by decide +kernel
theorem dX6_mayGrade_43 : decode cX6_mayGrade 43 = .ok (.ifCond .eq 7, 3) := by decide +kernel
theorem dX6_mayGrade_46 : decode cX6_mayGrade 46 = .ok (.iconst 1, 1) := by decide +kernel
theorem dX6_mayGrade_47 : decode cX6_mayGrade 47 = .ok (.goto 4, 3) := by decide +kernel
theorem dX6_mayGrade_50 : decode cX6_mayGrade 50 = .ok (.iconst 0, 1) := by decide +kernel
theorem dX6_mayGrade_51 : decode cX6_mayGrade 51 = .ok (.ireturn, 1) := by decide +kernel
theorem dX6_putGrade_0 : decode cX6_putGrade 0 = .ok (.aload_n 0, 1) := by decide +kernel
theorem dX6_putGrade_1 : decode cX6_putGrade 1 = .ok (.getfield 33, 3) := by decide +kernel
theorem dX6_putGrade_4 : decode cX6_putGrade 4 = .ok (.iload_n 2, 1) := by decide +kernel
theorem dX6_putGrade_5 : decode cX6_putGrade 5 = .ok (.bipush 10, 2) := by decide +kernel
theorem dX6_putGrade_7 : decode cX6_putGrade 7 = .ok (.imul, 1) := by decide +kernel
theorem dX6_putGrade_8 : decode cX6_putGrade 8 = .ok (.iload_n 1, 1) := by decide +kernel
theorem dX6_putGrade_9 : decode cX6_putGrade 9 = .ok (.iadd, 1) := by decide +kernel
theorem dX6_putGrade_10 : decode cX6_putGrade 10 = .ok (.iload_n 3, 1) := by decide +kernel
theorem dX6_putGrade_11 : decode cX6_putGrade 11 = .ok (.iastore, 1) := by decide +kernel
theorem dX6_putGrade_12 : decode cX6_putGrade 12 = .ok (.return_, 1) := by decide +kernel
theorem dX6_givenPoints_0 : decode cX6_givenPoints 0 = .ok (.aload_n 0, 1) := by decide +kernel
theorem dX6_givenPoints_1 : decode cX6_givenPoints 1 = .ok (.getfield 33, 3) := by decide +kernel
theorem dX6_givenPoints_4 : decode cX6_givenPoints 4 = .ok (.iload_n 2, 1) := by decide +kernel
theorem dX6_givenPoints_5 : decode cX6_givenPoints 5 = .ok (.bipush 10, 2) := by decide +kernel
theorem dX6_givenPoints_7 : decode cX6_givenPoints 7 = .ok (.imul, 1) := by decide +kernel
theorem dX6_givenPoints_8 : decode cX6_givenPoints 8 = .ok (.iload_n 1, 1) := by decide +kernel
theorem dX6_givenPoints_9 : decode cX6_givenPoints 9 = .ok (.iadd, 1) := by decide +kernel
theorem dX6_givenPoints_10 : decode cX6_givenPoints 10 = .ok (.iaload, 1) := by decide +kernel
theorem dX6_givenPoints_11 : decode cX6_givenPoints 11 = .ok (.ireturn, 1) := by decide +kernel
theorem dX6_countGrades_0 : decode cX6_countGrades 0 = .ok (.iconst 0, 1) := by decide +kernel
theorem dX6_countGrades_1 : decode cX6_countGrades 1 = .ok (.istore_n 2, 1) := by decide +kernel
theorem dX6_countGrades_2 : decode cX6_countGrades 2 = .ok (.iconst 0, 1) := by decide +kernel
theorem dX6_countGrades_3 : decode cX6_countGrades 3 = .ok (.istore_n 3, 1) := by decide +kernel
theorem dX6_countGrades_4 : decode cX6_countGrades 4 = .ok (.iload_n 3, 1) := by decide +kernel
theorem dX6_countGrades_5 : decode cX6_countGrades 5 = .ok (.bipush 10, 2) := by decide +kernel
theorem dX6_countGrades_7 : decode cX6_countGrades 7 = .ok (.if_icmp .ge 23, 3) := by decide +kernel
theorem dX6_countGrades_10 : decode cX6_countGrades 10 = .ok (.aload_n 0, 1) := by decide +kernel
theorem dX6_countGrades_11 : decode cX6_countGrades 11 = .ok (.iload_n 3, 1) := by decide +kernel
theorem dX6_countGrades_12 : decode cX6_countGrades 12 = .ok (.iload_n 1, 1) := by decide +kernel
theorem dX6_countGrades_13 : decode cX6_countGrades 13 = .ok (.invokevirtual 62, 3) := by decide +kernel
theorem dX6_countGrades_16 : decode cX6_countGrades 16 = .ok (.bipush (-9), 2) := by decide +kernel
theorem dX6_countGrades_18 : decode cX6_countGrades 18 = .ok (.if_icmp .eq 6, 3) := by decide +kernel
theorem dX6_countGrades_21 : decode cX6_countGrades 21 = .ok (.iinc 2 1, 3) := by decide +kernel
theorem dX6_countGrades_24 : decode cX6_countGrades 24 = .ok (.iinc 3 1, 3) := by decide +kernel
theorem dX6_countGrades_27 : decode cX6_countGrades 27 = .ok (.goto (-23), 3) := by decide +kernel
theorem dX6_countGrades_30 : decode cX6_countGrades 30 = .ok (.iload_n 2, 1) := by decide +kernel
theorem dX6_countGrades_31 : decode cX6_countGrades 31 = .ok (.ireturn, 1) := by decide +kernel
theorem dX6_score_0 : decode cX6_score 0 = .ok (.iconst 0, 1) := by decide +kernel
theorem dX6_score_1 : decode cX6_score 1 = .ok (.istore_n 2, 1) := by decide +kernel
theorem dX6_score_2 : decode cX6_score 2 = .ok (.iconst 0, 1) := by decide +kernel
theorem dX6_score_3 : decode cX6_score 3 = .ok (.istore_n 3, 1) := by decide +kernel
theorem dX6_score_4 : decode cX6_score 4 = .ok (.iconst 0, 1) := by decide +kernel
theorem dX6_score_5 : decode cX6_score 5 = .ok (.istore 4, 2) := by decide +kernel
theorem dX6_score_7 : decode cX6_score 7 = .ok (.iload 4, 2) := by decide +kernel
theorem dX6_score_9 : decode cX6_score 9 = .ok (.bipush 10, 2) := by decide +kernel
theorem dX6_score_11 : decode cX6_score 11 = .ok (.if_icmp .ge 38, 3) := by decide +kernel
theorem dX6_score_14 : decode cX6_score 14 = .ok (.aload_n 0, 1) := by decide +kernel
theorem dX6_score_15 : decode cX6_score 15 = .ok (.getfield 33, 3) := by decide +kernel
theorem dX6_score_18 : decode cX6_score 18 = .ok (.iload_n 1, 1) := by decide +kernel
theorem dX6_score_19 : decode cX6_score 19 = .ok (.bipush 10, 2) := by decide +kernel
theorem dX6_score_21 : decode cX6_score 21 = .ok (.imul, 1) := by decide +kernel
theorem dX6_score_22 : decode cX6_score 22 = .ok (.iload 4, 2) := by decide +kernel
theorem dX6_score_24 : decode cX6_score 24 = .ok (.iadd, 1) := by decide +kernel
theorem dX6_score_25 : decode cX6_score 25 = .ok (.iaload, 1) := by decide +kernel
theorem dX6_score_26 : decode cX6_score 26 = .ok (.istore 5, 2) := by decide +kernel
theorem dX6_score_28 : decode cX6_score 28 = .ok (.iload 5, 2) := by decide +kernel
theorem dX6_score_30 : decode cX6_score 30 = .ok (.bipush (-9), 2) := by decide +kernel
theorem dX6_score_32 : decode cX6_score 32 = .ok (.if_icmp .eq 11, 3) := by decide +kernel
theorem dX6_score_35 : decode cX6_score 35 = .ok (.iload_n 2, 1) := by decide +kernel
theorem dX6_score_36 : decode cX6_score 36 = .ok (.iload 5, 2) := by decide +kernel
theorem dX6_score_38 : decode cX6_score 38 = .ok (.iadd, 1) := by decide +kernel
theorem dX6_score_39 : decode cX6_score 39 = .ok (.istore_n 2, 1) := by decide +kernel
theorem dX6_score_40 : decode cX6_score 40 = .ok (.iinc 3 1, 3) := by decide +kernel
theorem dX6_score_43 : decode cX6_score 43 = .ok (.iinc 4 1, 3) := by decide +kernel
theorem dX6_score_46 : decode cX6_score 46 = .ok (.goto (-39), 3) := by decide +kernel
theorem dX6_score_49 : decode cX6_score 49 = .ok (.iload_n 3, 1) := by decide +kernel
theorem dX6_score_50 : decode cX6_score 50 = .ok (.ifCond .le 12, 3) := by decide +kernel
theorem dX6_score_53 : decode cX6_score 53 = .ok (.bipush 10, 2) := by decide +kernel
theorem dX6_score_55 : decode cX6_score 55 = .ok (.iload_n 2, 1) := by decide +kernel
theorem dX6_score_56 : decode cX6_score 56 = .ok (.imul, 1) := by decide +kernel
theorem dX6_score_57 : decode cX6_score 57 = .ok (.iload_n 3, 1) := by decide +kernel
theorem dX6_score_58 : decode cX6_score 58 = .ok (.idiv, 1) := by decide +kernel
theorem dX6_score_59 : decode cX6_score 59 = .ok (.goto 5, 3) := by decide +kernel
theorem dX6_score_62 : decode cX6_score 62 = .ok (.bipush 50, 2) := by decide +kernel
theorem dX6_score_64 : decode cX6_score 64 = .ok (.istore 4, 2) := by decide +kernel
theorem dX6_score_66 : decode cX6_score 66 = .ok (.iload 4, 2) := by decide +kernel
theorem dX6_score_68 : decode cX6_score 68 = .ok (.iconst 5, 1) := by decide +kernel
theorem dX6_score_69 : decode cX6_score 69 = .ok (.aload_n 0, 1) := by decide +kernel
theorem dX6_score_70 : decode cX6_score 70 = .ok (.getfield 24, 3) := by decide +kernel
theorem dX6_score_73 : decode cX6_score 73 = .ok (.iload_n 1, 1) := by decide +kernel
theorem dX6_score_74 : decode cX6_score 74 = .ok (.iaload, 1) := by decide +kernel
theorem dX6_score_75 : decode cX6_score 75 = .ok (.imul, 1) := by decide +kernel
theorem dX6_score_76 : decode cX6_score 76 = .ok (.iadd, 1) := by decide +kernel
theorem dX6_score_77 : decode cX6_score 77 = .ok (.bipush 25, 2) := by decide +kernel
theorem dX6_score_79 : decode cX6_score 79 = .ok (.aload_n 0, 1) := by decide +kernel
theorem dX6_score_80 : decode cX6_score 80 = .ok (.getfield 27, 3) := by decide +kernel
theorem dX6_score_83 : decode cX6_score 83 = .ok (.iload_n 1, 1) := by decide +kernel
theorem dX6_score_84 : decode cX6_score 84 = .ok (.iaload, 1) := by decide +kernel
theorem dX6_score_85 : decode cX6_score 85 = .ok (.imul, 1) := by decide +kernel
theorem dX6_score_86 : decode cX6_score 86 = .ok (.isub, 1) := by decide +kernel
theorem dX6_score_87 : decode cX6_score 87 = .ok (.istore 5, 2) := by decide +kernel
theorem dX6_score_89 : decode cX6_score 89 = .ok (.iload 5, 2) := by decide +kernel
theorem dX6_score_91 : decode cX6_score 91 = .ok (.ifCond .ge 5, 3) := by decide +kernel
theorem dX6_score_94 : decode cX6_score 94 = .ok (.iconst 0, 1) := by decide +kernel
theorem dX6_score_95 : decode cX6_score 95 = .ok (.ireturn, 1) := by decide +kernel
theorem dX6_score_96 : decode cX6_score 96 = .ok (.iload 5, 2) := by decide +kernel
theorem dX6_score_98 : decode cX6_score 98 = .ok (.bipush 100, 2) := by decide +kernel
theorem dX6_score_100 : decode cX6_score 100 = .ok (.if_icmp .le 8, 3) := by decide +kernel
theorem dX6_score_103 : decode cX6_score 103 = .ok (.bipush 100, 2) := by decide +kernel
theorem dX6_score_105 : decode cX6_score 105 = .ok (.goto 5, 3) := by decide +kernel
theorem dX6_score_108 : decode cX6_score 108 = .ok (.iload 5, 2) := by decide +kernel
theorem dX6_score_110 : decode cX6_score 110 = .ok (.ireturn, 1) := by decide +kernel
theorem dX6_number_0 : decode cX6_number 0 = .ok (.iload_n 2, 1) := by decide +kernel
theorem dX6_number_1 : decode cX6_number 1 = .ok (.tableswitch 91 0 6 #[43, 50, 57, 64, 71, 78, 85], 43) := by decide +kernel
theorem dX6_number_44 : decode cX6_number 44 = .ok (.aload_n 0, 1) := by decide +kernel
theorem dX6_number_45 : decode cX6_number 45 = .ok (.getfield 9, 3) := by decide +kernel
theorem dX6_number_48 : decode cX6_number 48 = .ok (.iload_n 1, 1) := by decide +kernel
theorem dX6_number_49 : decode cX6_number 49 = .ok (.iaload, 1) := by decide +kernel
theorem dX6_number_50 : decode cX6_number 50 = .ok (.ireturn, 1) := by decide +kernel
theorem dX6_number_51 : decode cX6_number 51 = .ok (.aload_n 0, 1) := by decide +kernel
theorem dX6_number_52 : decode cX6_number 52 = .ok (.getfield 15, 3) := by decide +kernel
theorem dX6_number_55 : decode cX6_number 55 = .ok (.iload_n 1, 1) := by decide +kernel
theorem dX6_number_56 : decode cX6_number 56 = .ok (.iaload, 1) := by decide +kernel
theorem dX6_number_57 : decode cX6_number 57 = .ok (.ireturn, 1) := by decide +kernel
theorem dX6_number_58 : decode cX6_number 58 = .ok (.aload_n 0, 1) := by decide +kernel
theorem dX6_number_59 : decode cX6_number 59 = .ok (.getfield 18, 3) := by decide +kernel
theorem dX6_number_62 : decode cX6_number 62 = .ok (.iload_n 1, 1) := by decide +kernel
theorem dX6_number_63 : decode cX6_number 63 = .ok (.iaload, 1) := by decide +kernel
theorem dX6_number_64 : decode cX6_number 64 = .ok (.ireturn, 1) := by decide +kernel
theorem dX6_number_65 : decode cX6_number 65 = .ok (.aload_n 0, 1) := by decide +kernel
theorem dX6_number_66 : decode cX6_number 66 = .ok (.getfield 21, 3) := by decide +kernel
theorem dX6_number_69 : decode cX6_number 69 = .ok (.iload_n 1, 1) := by decide +kernel
theorem dX6_number_70 : decode cX6_number 70 = .ok (.iaload, 1) := by decide +kernel
theorem dX6_number_71 : decode cX6_number 71 = .ok (.ireturn, 1) := by decide +kernel
theorem dX6_number_72 : decode cX6_number 72 = .ok (.aload_n 0, 1) := by decide +kernel
theorem dX6_number_73 : decode cX6_number 73 = .ok (.getfield 24, 3) := by decide +kernel
theorem dX6_number_76 : decode cX6_number 76 = .ok (.iload_n 1, 1) := by decide +kernel
theorem dX6_number_77 : decode cX6_number 77 = .ok (.iaload, 1) := by decide +kernel
theorem dX6_number_78 : decode cX6_number 78 = .ok (.ireturn, 1) := by decide +kernel
theorem dX6_number_79 : decode cX6_number 79 = .ok (.aload_n 0, 1) := by decide +kernel
theorem dX6_number_80 : decode cX6_number 80 = .ok (.getfield 27, 3) := by decide +kernel
theorem dX6_number_83 : decode cX6_number 83 = .ok (.iload_n 1, 1) := by decide +kernel
theorem dX6_number_84 : decode cX6_number 84 = .ok (.iaload, 1) := by decide +kernel
theorem dX6_number_85 : decode cX6_number 85 = .ok (.ireturn, 1) := by decide +kernel
theorem dX6_number_86 : decode cX6_number 86 = .ok (.aload_n 0, 1) := by decide +kernel
theorem dX6_number_87 : decode cX6_number 87 = .ok (.iload_n 1, 1) := by decide +kernel
theorem dX6_number_88 : decode cX6_number 88 = .ok (.invokevirtual 66, 3) := by decide +kernel
theorem dX6_number_91 : decode cX6_number 91 = .ok (.ireturn, 1) := by decide +kernel
theorem dX6_number_92 : decode cX6_number 92 = .ok (.aload_n 0, 1) := by decide +kernel
theorem dX6_number_93 : decode cX6_number 93 = .ok (.iload_n 1, 1) := by decide +kernel
theorem dX6_number_94 : decode cX6_number 94 = .ok (.invokevirtual 54, 3) := by decide +kernel
theorem dX6_number_97 : decode cX6_number 97 = .ok (.ifCond .eq 11, 3) := by decide +kernel
theorem dX6_number_100 : decode cX6_number 100 = .ok (.aload_n 0, 1) := by decide +kernel
theorem dX6_number_101 : decode cX6_number 101 = .ok (.iload_n 1, 1) := by decide +kernel
theorem dX6_number_102 : decode cX6_number 102 = .ok (.invokevirtual 70, 3) := by decide +kernel
theorem dX6_number_105 : decode cX6_number 105 = .ok (.goto 5, 3) := by decide +kernel
theorem dX6_number_108 : decode cX6_number 108 = .ok (.bipush (-9), 2) := by decide +kernel
theorem dX6_number_110 : decode cX6_number 110 = .ok (.ireturn, 1) := by decide +kernel
theorem dX6_countLed_0 : decode cX6_countLed 0 = .ok (.iconst 0, 1) := by decide +kernel
theorem dX6_countLed_1 : decode cX6_countLed 1 = .ok (.istore_n 2, 1) := by decide +kernel
theorem dX6_countLed_2 : decode cX6_countLed 2 = .ok (.iconst 1, 1) := by decide +kernel
theorem dX6_countLed_3 : decode cX6_countLed 3 = .ok (.istore_n 3, 1) := by decide +kernel
theorem dX6_countLed_4 : decode cX6_countLed 4 = .ok (.iload_n 3, 1) := by decide +kernel
theorem dX6_countLed_5 : decode cX6_countLed 5 = .ok (.aload_n 0, 1) := by decide +kernel
theorem dX6_countLed_6 : decode cX6_countLed 6 = .ok (.getfield 36, 3) := by decide +kernel
theorem dX6_countLed_9 : decode cX6_countLed 9 = .ok (.if_icmp .gt 22, 3) := by decide +kernel
theorem dX6_countLed_12 : decode cX6_countLed 12 = .ok (.aload_n 0, 1) := by decide +kernel
theorem dX6_countLed_13 : decode cX6_countLed 13 = .ok (.getfield 9, 3) := by decide +kernel
theorem dX6_countLed_16 : decode cX6_countLed 16 = .ok (.iload_n 3, 1) := by decide +kernel
theorem dX6_countLed_17 : decode cX6_countLed 17 = .ok (.iaload, 1) := by decide +kernel
theorem dX6_countLed_18 : decode cX6_countLed 18 = .ok (.iload_n 1, 1) := by decide +kernel
theorem dX6_countLed_19 : decode cX6_countLed 19 = .ok (.if_icmp .ne 6, 3) := by decide +kernel
theorem dX6_countLed_22 : decode cX6_countLed 22 = .ok (.iinc 2 1, 3) := by decide +kernel
theorem dX6_countLed_25 : decode cX6_countLed 25 = .ok (.iinc 3 1, 3) := by decide +kernel
theorem dX6_countLed_28 : decode cX6_countLed 28 = .ok (.goto (-24), 3) := by decide +kernel
theorem dX6_countLed_31 : decode cX6_countLed 31 = .ok (.iload_n 2, 1) := by decide +kernel
theorem dX6_countLed_32 : decode cX6_countLed 32 = .ok (.ireturn, 1) := by decide +kernel
theorem dX6_countLedInARow_0 : decode cX6_countLedInARow 0 = .ok (.iconst 0, 1) := by decide +kernel
theorem dX6_countLedInARow_1 : decode cX6_countLedInARow 1 = .ok (.istore_n 2, 1) := by decide +kernel
theorem dX6_countLedInARow_2 : decode cX6_countLedInARow 2 = .ok (.aload_n 0, 1) := by decide +kernel
theorem dX6_countLedInARow_3 : decode cX6_countLedInARow 3 = .ok (.getfield 36, 3) := by decide +kernel
theorem dX6_countLedInARow_6 : decode cX6_countLedInARow 6 = .ok (.istore_n 3, 1) := by decide +kernel
theorem dX6_countLedInARow_7 : decode cX6_countLedInARow 7 = .ok (.iload_n 3, 1) := by decide +kernel
theorem dX6_countLedInARow_8 : decode cX6_countLedInARow 8 = .ok (.iconst 1, 1) := by decide +kernel
theorem dX6_countLedInARow_9 : decode cX6_countLedInARow 9 = .ok (.if_icmp .lt 22, 3) := by decide +kernel
theorem dX6_countLedInARow_12 : decode cX6_countLedInARow 12 = .ok (.aload_n 0, 1) := by decide +kernel
theorem dX6_countLedInARow_13 : decode cX6_countLedInARow 13 = .ok (.getfield 9, 3) := by decide +kernel
theorem dX6_countLedInARow_16 : decode cX6_countLedInARow 16 = .ok (.iload_n 3, 1) := by decide +kernel
theorem dX6_countLedInARow_17 : decode cX6_countLedInARow 17 = .ok (.iaload, 1) := by decide +kernel
theorem dX6_countLedInARow_18 : decode cX6_countLedInARow 18 = .ok (.iload_n 1, 1) := by decide +kernel
theorem dX6_countLedInARow_19 : decode cX6_countLedInARow 19 = .ok (.if_icmp .ne 12, 3) := by decide +kernel
theorem dX6_countLedInARow_22 : decode cX6_countLedInARow 22 = .ok (.iinc 2 1, 3) := by decide +kernel
theorem dX6_countLedInARow_25 : decode cX6_countLedInARow 25 = .ok (.iinc 3 (-1), 3) := by decide +kernel
theorem dX6_countLedInARow_28 : decode cX6_countLedInARow 28 = .ok (.goto (-21), 3) := by decide +kernel
theorem dX6_countLedInARow_31 : decode cX6_countLedInARow 31 = .ok (.iload_n 2, 1) := by decide +kernel
theorem dX6_countLedInARow_32 : decode cX6_countLedInARow 32 = .ok (.ireturn, 1) := by decide +kernel
theorem dX6_reputation_0 : decode cX6_reputation 0 = .ok (.iconst 0, 1) := by decide +kernel
theorem dX6_reputation_1 : decode cX6_reputation 1 = .ok (.istore_n 3, 1) := by decide +kernel
theorem dX6_reputation_2 : decode cX6_reputation 2 = .ok (.iconst 0, 1) := by decide +kernel
theorem dX6_reputation_3 : decode cX6_reputation 3 = .ok (.istore 4, 2) := by decide +kernel
theorem dX6_reputation_5 : decode cX6_reputation 5 = .ok (.aload_n 0, 1) := by decide +kernel
theorem dX6_reputation_6 : decode cX6_reputation 6 = .ok (.getfield 36, 3) := by decide +kernel
theorem dX6_reputation_9 : decode cX6_reputation 9 = .ok (.istore 5, 2) := by decide +kernel
theorem dX6_reputation_11 : decode cX6_reputation 11 = .ok (.iload 5, 2) := by decide +kernel
theorem dX6_reputation_13 : decode cX6_reputation 13 = .ok (.iconst 1, 1) := by decide +kernel
theorem dX6_reputation_14 : decode cX6_reputation 14 = .ok (.if_icmp .lt 50, 3) := by decide +kernel
theorem dX6_reputation_17 : decode cX6_reputation 17 = .ok (.iload 4, 2) := by decide +kernel
theorem dX6_reputation_19 : decode cX6_reputation 19 = .ok (.iload_n 2, 1) := by decide +kernel
theorem dX6_reputation_20 : decode cX6_reputation 20 = .ok (.if_icmp .ge 44, 3) := by decide +kernel
theorem dX6_reputation_23 : decode cX6_reputation 23 = .ok (.aload_n 0, 1) := by decide +kernel
theorem dX6_reputation_24 : decode cX6_reputation 24 = .ok (.getfield 9, 3) := by decide +kernel
theorem dX6_reputation_27 : decode cX6_reputation 27 = .ok (.iload 5, 2) := by decide +kernel
theorem dX6_reputation_29 : decode cX6_reputation 29 = .ok (.iaload, 1) := by decide +kernel
theorem dX6_reputation_30 : decode cX6_reputation 30 = .ok (.iload_n 1, 1) := by decide +kernel
theorem dX6_reputation_31 : decode cX6_reputation 31 = .ok (.if_icmp .ne 27, 3) := by decide +kernel
theorem dX6_reputation_34 : decode cX6_reputation 34 = .ok (.aload_n 0, 1) := by decide +kernel
theorem dX6_reputation_35 : decode cX6_reputation 35 = .ok (.getfield 21, 3) := by decide +kernel
theorem dX6_reputation_38 : decode cX6_reputation 38 = .ok (.iload 5, 2) := by decide +kernel
theorem dX6_reputation_40 : decode cX6_reputation 40 = .ok (.iaload, 1) := by decide +kernel
theorem dX6_reputation_41 : decode cX6_reputation 41 = .ok (.bipush (-9), 2) := by decide +kernel
theorem dX6_reputation_43 : decode cX6_reputation 43 = .ok (.if_icmp .eq 15, 3) := by decide +kernel
theorem dX6_reputation_46 : decode cX6_reputation 46 = .ok (.iload_n 3, 1) := by decide +kernel
theorem dX6_reputation_47 : decode cX6_reputation 47 = .ok (.aload_n 0, 1) := by decide +kernel
theorem dX6_reputation_48 : decode cX6_reputation 48 = .ok (.iload 5, 2) := by decide +kernel
theorem dX6_reputation_50 : decode cX6_reputation 50 = .ok (.invokevirtual 70, 3) := by decide +kernel
theorem dX6_reputation_53 : decode cX6_reputation 53 = .ok (.iadd, 1) := by decide +kernel
theorem dX6_reputation_54 : decode cX6_reputation 54 = .ok (.istore_n 3, 1) := by decide +kernel
theorem dX6_reputation_55 : decode cX6_reputation 55 = .ok (.iinc 4 1, 3) := by decide +kernel
theorem dX6_reputation_58 : decode cX6_reputation 58 = .ok (.iinc 5 (-1), 3) := by decide +kernel
theorem dX6_reputation_61 : decode cX6_reputation 61 = .ok (.goto (-50), 3) := by decide +kernel
theorem dX6_reputation_64 : decode cX6_reputation 64 = .ok (.iload 4, 2) := by decide +kernel
theorem dX6_reputation_66 : decode cX6_reputation 66 = .ok (.ifCond .le 10, 3) := by decide +kernel
theorem dX6_reputation_69 : decode cX6_reputation 69 = .ok (.iload_n 3, 1) := by decide +kernel
theorem dX6_reputation_70 : decode cX6_reputation 70 = .ok (.iload 4, 2) := by decide +kernel
theorem dX6_reputation_72 : decode cX6_reputation 72 = .ok (.idiv, 1) := by decide +kernel
theorem dX6_reputation_73 : decode cX6_reputation 73 = .ok (.goto 5, 3) := by decide +kernel
theorem dX6_reputation_76 : decode cX6_reputation 76 = .ok (.bipush 50, 2) := by decide +kernel
theorem dX6_reputation_78 : decode cX6_reputation 78 = .ok (.ireturn, 1) := by decide +kernel
theorem dX7_init_0 : decode cX7_init 0 = .ok (.aload_n 0, 1) := by decide +kernel
theorem dX7_init_1 : decode cX7_init 1 = .ok (.invokespecial 1, 3) := by decide +kernel
theorem dX7_init_4 : decode cX7_init 4 = .ok (.aload_n 0, 1) := by decide +kernel
theorem dX7_init_5 : decode cX7_init 5 = .ok (.new 7, 3) := by decide +kernel
theorem dX7_init_8 : decode cX7_init 8 = .ok (.dup, 1) := by decide +kernel
theorem dX7_init_9 : decode cX7_init 9 = .ok (.invokespecial 9, 3) := by decide +kernel
theorem dX7_init_12 : decode cX7_init 12 = .ok (.putfield 10, 3) := by decide +kernel
theorem dX7_init_15 : decode cX7_init 15 = .ok (.aload_n 0, 1) := by decide +kernel
theorem dX7_init_16 : decode cX7_init 16 = .ok (.new 16, 3) := by decide +kernel
theorem dX7_init_19 : decode cX7_init 19 = .ok (.dup, 1) := by decide +kernel
theorem dX7_init_20 : decode cX7_init 20 = .ok (.invokespecial 18, 3) := by decide +kernel
theorem dX7_init_23 : decode cX7_init 23 = .ok (.putfield 19, 3) := by decide +kernel
theorem dX7_init_26 : decode cX7_init 26 = .ok (.aload_n 0, 1) := by decide +kernel
theorem dX7_init_27 : decode cX7_init 27 = .ok (.new 23, 3) := by decide +kernel
theorem dX7_init_30 : decode cX7_init 30 = .ok (.dup, 1) := by decide +kernel
theorem dX7_init_31 : decode cX7_init 31 = .ok (.invokespecial 25, 3) := by decide +kernel
theorem dX7_init_34 : decode cX7_init 34 = .ok (.putfield 26, 3) := by decide +kernel
theorem dX7_init_37 : decode cX7_init 37 = .ok (.return_, 1) := by decide +kernel
theorem dX7_set_0 : decode cX7_set 0 = .ok (.iload_n 1, 1) := by decide +kernel
theorem dX7_set_1 : decode cX7_set 1 = .ok (.ifCond .lt 9, 3) := by decide +kernel
theorem dX7_set_4 : decode cX7_set 4 = .ok (.iload_n 1, 1) := by decide +kernel
theorem dX7_set_5 : decode cX7_set 5 = .ok (.bipush 6, 2) := by decide +kernel
theorem dX7_set_7 : decode cX7_set 7 = .ok (.if_icmp .lt 5, 3) := by decide +kernel
theorem dX7_set_10 : decode cX7_set 10 = .ok (.iconst (-1), 1) := by decide +kernel
theorem dX7_set_11 : decode cX7_set 11 = .ok (.ireturn, 1) := by decide +kernel
theorem dX7_set_12 : decode cX7_set 12 = .ok (.iload_n 2, 1) := by decide +kernel
theorem dX7_set_13 : decode cX7_set 13 = .ok (.getstatic 30, 3) := by decide +kernel
theorem dX7_set_16 : decode cX7_set 16 = .ok (.iload_n 1, 1) := by decide +kernel
theorem dX7_set_17 : decode cX7_set 17 = .ok (.iaload, 1) := by decide +kernel
theorem dX7_set_18 : decode cX7_set 18 = .ok (.if_icmp .lt 12, 3) := by decide +kernel
theorem dX7_set_21 : decode cX7_set 21 = .ok (.iload_n 2, 1) := by decide +kernel
theorem dX7_set_22 : decode cX7_set 22 = .ok (.getstatic 34, 3) := by decide +kernel
theorem dX7_set_25 : decode cX7_set 25 = .ok (.iload_n 1, 1) := by decide +kernel
theorem dX7_set_26 : decode cX7_set 26 = .ok (.iaload, 1) := by decide +kernel
theorem dX7_set_27 : decode cX7_set 27 = .ok (.if_icmp .le 5, 3) := by decide +kernel
theorem dX7_set_30 : decode cX7_set 30 = .ok (.iconst (-1), 1) := by decide +kernel
theorem dX7_set_31 : decode cX7_set 31 = .ok (.ireturn, 1) := by decide +kernel
theorem dX7_set_32 : decode cX7_set 32 = .ok (.aload_n 0, 1) := by decide +kernel
theorem dX7_set_33 : decode cX7_set 33 = .ok (.getfield 26, 3) := by decide +kernel
theorem dX7_set_36 : decode cX7_set 36 = .ok (.aload_n 0, 1) := by decide +kernel
theorem dX7_set_37 : decode cX7_set 37 = .ok (.getfield 19, 3) := by decide +kernel
theorem dX7_set_40 : decode cX7_set 40 = .ok (.invokevirtual 37, 3) := by decide +kernel
theorem dX7_set_43 : decode cX7_set 43 = .ok (.aload_n 0, 1) := by decide +kernel
theorem dX7_set_44 : decode cX7_set 44 = .ok (.getfield 19, 3) := by decide +kernel
theorem dX7_set_47 : decode cX7_set 47 = .ok (.getfield 41, 3) := by decide +kernel
theorem dX7_set_50 : decode cX7_set 50 = .ok (.iload_n 1, 1) := by decide +kernel
theorem dX7_set_51 : decode cX7_set 51 = .ok (.iaload, 1) := by decide +kernel
theorem dX7_set_52 : decode cX7_set 52 = .ok (.istore_n 3, 1) := by decide +kernel
theorem dX7_set_53 : decode cX7_set 53 = .ok (.aload_n 0, 1) := by decide +kernel
theorem dX7_set_54 : decode cX7_set 54 = .ok (.getfield 19, 3) := by decide +kernel
theorem dX7_set_57 : decode cX7_set 57 = .ok (.getfield 41, 3) := by decide +kernel
theorem dX7_set_60 : decode cX7_set 60 = .ok (.iload_n 1, 1) := by decide +kernel
theorem dX7_set_61 : decode cX7_set 61 = .ok (.iload_n 2, 1) := by decide +kernel
theorem dX7_set_62 : decode cX7_set 62 = .ok (.iastore, 1) := by decide +kernel
theorem dX7_set_63 : decode cX7_set 63 = .ok (.iload_n 1, 1) := by decide +kernel
theorem dX7_set_64 : decode cX7_set 64 = .ok (.iconst 3, 1) := by decide +kernel
theorem dX7_set_65 : decode cX7_set 65 = .ok (.if_icmp .ne 10, 3) := by decide +kernel
theorem dX7_set_68 : decode cX7_set 68 = .ok (.aload_n 0, 1) := by decide +kernel
theorem dX7_set_69 : decode cX7_set 69 = .ok (.getfield 19, 3) := by decide +kernel
theorem dX7_set_72 : decode cX7_set 72 = .ok (.invokevirtual 44, 3) := by decide +kernel
theorem dX7_set_75 : decode cX7_set 75 = .ok (.iload_n 3, 1) := by decide +kernel
theorem dX7_set_76 : decode cX7_set 76 = .ok (.ireturn, 1) := by decide +kernel
theorem dX7_join_0 : decode cX7_join 0 = .ok (.iload_n 1, 1) := by decide +kernel
theorem dX7_join_1 : decode cX7_join 1 = .ok (.ifCond .lt 10, 3) := by decide +kernel
theorem dX7_join_4 : decode cX7_join 4 = .ok (.iload_n 1, 1) := by decide +kernel
theorem dX7_join_5 : decode cX7_join 5 = .ok (.sipush 997, 3) := by decide +kernel
theorem dX7_join_8 : decode cX7_join 8 = .ok (.if_icmp .lt 5, 3) := by decide +kernel
theorem dX7_join_11 : decode cX7_join 11 = .ok (.iconst (-1), 1) := by decide +kernel
theorem dX7_join_12 : decode cX7_join 12 = .ok (.ireturn, 1) := by decide +kernel
theorem dX7_join_13 : decode cX7_join 13 = .ok (.aload_n 0, 1) := by decide +kernel
theorem dX7_join_14 : decode cX7_join 14 = .ok (.getfield 19, 3) := by decide +kernel
theorem dX7_join_17 : decode cX7_join 17 = .ok (.getfield 47, 3) := by decide +kernel
theorem dX7_join_20 : decode cX7_join 20 = .ok (.bipush 10, 2) := by decide +kernel
theorem dX7_join_22 : decode cX7_join 22 = .ok (.if_icmp .lt 6, 3) := by decide +kernel
theorem dX7_join_25 : decode cX7_join 25 = .ok (.bipush (-3), 2) := by decide +kernel
theorem dX7_join_27 : decode cX7_join 27 = .ok (.ireturn, 1) := by decide +kernel
theorem dX7_join_28 : decode cX7_join 28 = .ok (.aload_n 0, 1) := by decide +kernel
theorem dX7_join_29 : decode cX7_join 29 = .ok (.getfield 26, 3) := by decide +kernel
theorem dX7_join_32 : decode cX7_join 32 = .ok (.aload_n 0, 1) := by decide +kernel
theorem dX7_join_33 : decode cX7_join 33 = .ok (.getfield 19, 3) := by decide +kernel
theorem dX7_join_36 : decode cX7_join 36 = .ok (.invokevirtual 37, 3) := by decide +kernel
theorem dX7_join_39 : decode cX7_join 39 = .ok (.aload_n 0, 1) := by decide +kernel
theorem dX7_join_40 : decode cX7_join 40 = .ok (.getfield 19, 3) := by decide +kernel
theorem dX7_join_43 : decode cX7_join 43 = .ok (.iload_n 1, 1) := by decide +kernel
theorem dX7_join_44 : decode cX7_join 44 = .ok (.invokevirtual 51, 3) := by decide +kernel
theorem dX7_join_47 : decode cX7_join 47 = .ok (.istore_n 2, 1) := by decide +kernel
theorem dX7_join_48 : decode cX7_join 48 = .ok (.aload_n 0, 1) := by decide +kernel
theorem dX7_join_49 : decode cX7_join 49 = .ok (.getfield 19, 3) := by decide +kernel
theorem dX7_join_52 : decode cX7_join 52 = .ok (.invokevirtual 44, 3) := by decide +kernel
theorem dX7_join_55 : decode cX7_join 55 = .ok (.iload_n 2, 1) := by decide +kernel
theorem dX7_join_56 : decode cX7_join 56 = .ok (.ireturn, 1) := by decide +kernel
theorem dX7_setPresent_0 : decode cX7_setPresent 0 = .ok (.aload_n 0, 1) := by decide +kernel
theorem dX7_setPresent_1 : decode cX7_setPresent 1 = .ok (.getfield 19, 3) := by decide +kernel
theorem dX7_setPresent_4 : decode cX7_setPresent 4 = .ok (.iload_n 1, 1) := by decide +kernel
theorem dX7_setPresent_5 : decode cX7_setPresent 5 = .ok (.invokevirtual 55, 3) := by decide +kernel
theorem dX7_setPresent_8 : decode cX7_setPresent 8 = .ok (.ifCond .ne 5, 3) := by decide +kernel
theorem dX7_setPresent_11 : decode cX7_setPresent 11 = .ok (.iconst (-1), 1) := by decide +kernel
theorem dX7_setPresent_12 : decode cX7_setPresent 12 = .ok (.ireturn, 1) := by decide +kernel
theorem dX7_setPresent_13 : decode cX7_setPresent 13 = .ok (.aload_n 0, 1) := by decide +kernel
theorem dX7_setPresent_14 : decode cX7_setPresent 14 = .ok (.getfield 26, 3) := by decide +kernel
theorem dX7_setPresent_17 : decode cX7_setPresent 17 = .ok (.aload_n 0, 1) := by decide +kernel
theorem dX7_setPresent_18 : decode cX7_setPresent 18 = .ok (.getfield 19, 3) := by decide +kernel
theorem dX7_setPresent_21 : decode cX7_setPresent 21 = .ok (.invokevirtual 37, 3) := by decide +kernel
theorem dX7_setPresent_24 : decode cX7_setPresent 24 = .ok (.aload_n 0, 1) := by decide +kernel
theorem dX7_setPresent_25 : decode cX7_setPresent 25 = .ok (.getfield 19, 3) := by decide +kernel
theorem dX7_setPresent_28 : decode cX7_setPresent 28 = .ok (.iload_n 1, 1) := by decide +kernel
theorem dX7_setPresent_29 : decode cX7_setPresent 29 = .ok (.invokevirtual 59, 3) := by decide +kernel
theorem dX7_setPresent_32 : decode cX7_setPresent 32 = .ok (.istore_n 3, 1) := by decide +kernel
theorem dX7_setPresent_33 : decode cX7_setPresent 33 = .ok (.iload_n 2, 1) := by decide +kernel
theorem dX7_setPresent_34 : decode cX7_setPresent 34 = .ok (.iload_n 3, 1) := by decide +kernel
theorem dX7_setPresent_35 : decode cX7_setPresent 35 = .ok (.if_icmp .ne 8, 3) := by decide +kernel
theorem dX7_setPresent_38 : decode cX7_setPresent 38 = .ok (.iload_n 3, 1) := by decide +kernel
theorem dX7_setPresent_39 : decode cX7_setPresent 39 = .ok (.invokestatic 62, 3) := by decide +kernel
theorem dX7_setPresent_42 : decode cX7_setPresent 42 = .ok (.ireturn, 1) := by decide +kernel
theorem dX7_setPresent_43 : decode cX7_setPresent 43 = .ok (.iload_n 2, 1) := by decide +kernel
theorem dX7_setPresent_44 : decode cX7_setPresent 44 = .ok (.ifCond .eq 22, 3) := by decide +kernel
theorem dX7_setPresent_47 : decode cX7_setPresent 47 = .ok (.aload_n 0, 1) := by decide +kernel
theorem dX7_setPresent_48 : decode cX7_setPresent 48 = .ok (.getfield 19, 3) := by decide +kernel
theorem dX7_setPresent_51 : decode cX7_setPresent 51 = .ok (.dup, 1) := by decide +kernel
theorem dX7_setPresent_52 : decode cX7_setPresent 52 = .ok (.getfield 66, 3) := by decide +kernel
theorem dX7_setPresent_55 : decode cX7_setPresent 55 = .ok (.iload_n 1, 1) := by decide +kernel
theorem dX7_setPresent_56 : decode cX7_setPresent 56 = .ok (.invokestatic 69, 3) := by decide +kernel
theorem dX7_setPresent_59 : decode cX7_setPresent 59 = .ok (.ior, 1) := by decide +kernel
theorem dX7_setPresent_60 : decode cX7_setPresent 60 = .ok (.putfield 66, 3) := by decide +kernel
theorem dX7_setPresent_63 : decode cX7_setPresent 63 = .ok (.goto 11, 3) := by decide +kernel
theorem dX7_setPresent_66 : decode cX7_setPresent 66 = .ok (.aload_n 0, 1) := by decide +kernel
theorem dX7_setPresent_67 : decode cX7_setPresent 67 = .ok (.getfield 19, 3) := by decide +kernel
theorem dX7_setPresent_70 : decode cX7_setPresent 70 = .ok (.iload_n 1, 1) := by decide +kernel
theorem dX7_setPresent_71 : decode cX7_setPresent 71 = .ok (.invokevirtual 72, 3) := by decide +kernel
theorem dX7_setPresent_74 : decode cX7_setPresent 74 = .ok (.aload_n 0, 1) := by decide +kernel
theorem dX7_setPresent_75 : decode cX7_setPresent 75 = .ok (.getfield 19, 3) := by decide +kernel
theorem dX7_setPresent_78 : decode cX7_setPresent 78 = .ok (.invokevirtual 44, 3) := by decide +kernel
theorem dX7_setPresent_81 : decode cX7_setPresent 81 = .ok (.iload_n 3, 1) := by decide +kernel
theorem dX7_setPresent_82 : decode cX7_setPresent 82 = .ok (.invokestatic 62, 3) := by decide +kernel
theorem dX7_setPresent_85 : decode cX7_setPresent 85 = .ok (.ireturn, 1) := by decide +kernel
theorem dX7_pass_0 : decode cX7_pass 0 = .ok (.iload_n 1, 1) := by decide +kernel
theorem dX7_pass_1 : decode cX7_pass 1 = .ok (.iconst 1, 1) := by decide +kernel
theorem dX7_pass_2 : decode cX7_pass 2 = .ok (.if_icmp .lt 10, 3) := by decide +kernel
theorem dX7_pass_5 : decode cX7_pass 5 = .ok (.iload_n 1, 1) := by decide +kernel
theorem dX7_pass_6 : decode cX7_pass 6 = .ok (.sipush 1000, 3) := by decide +kernel
theorem dX7_pass_9 : decode cX7_pass 9 = .ok (.if_icmp .le 5, 3) := by decide +kernel
theorem dX7_pass_12 : decode cX7_pass 12 = .ok (.iconst (-1), 1) := by decide +kernel
theorem dX7_pass_13 : decode cX7_pass 13 = .ok (.ireturn, 1) := by decide +kernel
theorem dX7_pass_14 : decode cX7_pass 14 = .ok (.aload_n 0, 1) := by decide +kernel
theorem dX7_pass_15 : decode cX7_pass 15 = .ok (.getfield 19, 3) := by decide +kernel
theorem dX7_pass_18 : decode cX7_pass 18 = .ok (.getfield 76, 3) := by decide +kernel
theorem dX7_pass_21 : decode cX7_pass 21 = .ok (.iload_n 1, 1) := by decide +kernel
theorem dX7_pass_22 : decode cX7_pass 22 = .ok (.iadd, 1) := by decide +kernel
theorem dX7_pass_23 : decode cX7_pass 23 = .ok (.ldc 79, 2) := by decide +kernel
theorem dX7_pass_25 : decode cX7_pass 25 = .ok (.if_icmp .le 6, 3) := by decide +kernel
theorem dX7_pass_28 : decode cX7_pass 28 = .ok (.bipush (-2), 2) := by decide +kernel
theorem dX7_pass_30 : decode cX7_pass 30 = .ok (.ireturn, 1) := by decide +kernel
theorem dX7_pass_31 : decode cX7_pass 31 = .ok (.aload_n 0, 1) := by decide +kernel
theorem dX7_pass_32 : decode cX7_pass 32 = .ok (.getfield 26, 3) := by decide +kernel
theorem dX7_pass_35 : decode cX7_pass 35 = .ok (.aload_n 0, 1) := by decide +kernel
theorem dX7_pass_36 : decode cX7_pass 36 = .ok (.getfield 19, 3) := by decide +kernel
theorem dX7_pass_39 : decode cX7_pass 39 = .ok (.invokevirtual 37, 3) := by decide +kernel
theorem dX7_pass_42 : decode cX7_pass 42 = .ok (.aload_n 0, 1) := by decide +kernel
theorem dX7_pass_43 : decode cX7_pass 43 = .ok (.getfield 19, 3) := by decide +kernel
theorem dX7_pass_46 : decode cX7_pass 46 = .ok (.iload_n 1, 1) := by decide +kernel
theorem dX7_pass_47 : decode cX7_pass 47 = .ok (.invokevirtual 80, 3) := by decide +kernel
theorem dX7_pass_50 : decode cX7_pass 50 = .ok (.aload_n 0, 1) := by decide +kernel
theorem dX7_pass_51 : decode cX7_pass 51 = .ok (.getfield 19, 3) := by decide +kernel
theorem dX7_pass_54 : decode cX7_pass 54 = .ok (.getfield 76, 3) := by decide +kernel
theorem dX7_pass_57 : decode cX7_pass 57 = .ok (.ireturn, 1) := by decide +kernel
theorem dX7_open_0 : decode cX7_open 0 = .ok (.aload_n 0, 1) := by decide +kernel
theorem dX7_open_1 : decode cX7_open 1 = .ok (.getfield 19, 3) := by decide +kernel
theorem dX7_open_4 : decode cX7_open 4 = .ok (.getfield 83, 3) := by decide +kernel
theorem dX7_open_7 : decode cX7_open 7 = .ok (.getfield 87, 3) := by decide +kernel
theorem dX7_open_10 : decode cX7_open 10 = .ok (.ifCond .ne 14, 3) := by decide +kernel
theorem dX7_open_13 : decode cX7_open 13 = .ok (.aload_n 0, 1) := by decide +kernel
theorem dX7_open_14 : decode cX7_open 14 = .ok (.getfield 19, 3) := by decide +kernel
theorem dX7_open_17 : decode cX7_open 17 = .ok (.getfield 93, 3) := by decide +kernel
theorem dX7_open_20 : decode cX7_open 20 = .ok (.iconst 2, 1) := by decide +kernel
theorem dX7_open_21 : decode cX7_open 21 = .ok (.if_icmp .ne 6, 3) := by decide +kernel
theorem dX7_open_24 : decode cX7_open 24 = .ok (.bipush (-2), 2) := by decide +kernel
theorem dX7_open_26 : decode cX7_open 26 = .ok (.ireturn, 1) := by decide +kernel
theorem dX7_open_27 : decode cX7_open 27 = .ok (.aload_n 0, 1) := by decide +kernel
theorem dX7_open_28 : decode cX7_open 28 = .ok (.getfield 19, 3) := by decide +kernel
theorem dX7_open_31 : decode cX7_open 31 = .ok (.getfield 96, 3) := by decide +kernel
theorem dX7_open_34 : decode cX7_open 34 = .ok (.getfield 100, 3) := by decide +kernel
theorem dX7_open_37 : decode cX7_open 37 = .ok (.bipush 40, 2) := by decide +kernel
theorem dX7_open_39 : decode cX7_open 39 = .ok (.if_icmp .lt 6, 3) := by decide +kernel
theorem dX7_open_42 : decode cX7_open 42 = .ok (.bipush (-3), 2) := by decide +kernel
theorem dX7_open_44 : decode cX7_open 44 = .ok (.ireturn, 1) := by decide +kernel
theorem dX7_open_45 : decode cX7_open 45 = .ok (.aload_n 0, 1) := by decide +kernel
theorem dX7_open_46 : decode cX7_open 46 = .ok (.getfield 26, 3) := by decide +kernel
theorem dX7_open_49 : decode cX7_open 49 = .ok (.aload_n 0, 1) := by decide +kernel
theorem dX7_open_50 : decode cX7_open 50 = .ok (.getfield 19, 3) := by decide +kernel
theorem dX7_open_53 : decode cX7_open 53 = .ok (.invokevirtual 37, 3) := by decide +kernel
theorem dX7_open_56 : decode cX7_open 56 = .ok (.aload_n 0, 1) := by decide +kernel
theorem dX7_open_57 : decode cX7_open 57 = .ok (.getfield 19, 3) := by decide +kernel
theorem dX7_open_60 : decode cX7_open 60 = .ok (.getfield 83, 3) := by decide +kernel
theorem dX7_open_63 : decode cX7_open 63 = .ok (.iconst 1, 1) := by decide +kernel
theorem dX7_open_64 : decode cX7_open 64 = .ok (.putfield 87, 3) := by decide +kernel
theorem dX7_open_67 : decode cX7_open 67 = .ok (.aload_n 0, 1) := by decide +kernel
theorem dX7_open_68 : decode cX7_open 68 = .ok (.getfield 19, 3) := by decide +kernel
theorem dX7_open_71 : decode cX7_open 71 = .ok (.getfield 96, 3) := by decide +kernel
theorem dX7_open_74 : decode cX7_open 74 = .ok (.getfield 100, 3) := by decide +kernel
theorem dX7_open_77 : decode cX7_open 77 = .ok (.iconst 1, 1) := by decide +kernel
theorem dX7_open_78 : decode cX7_open 78 = .ok (.iadd, 1) := by decide +kernel
theorem dX7_open_79 : decode cX7_open 79 = .ok (.ireturn, 1) := by decide +kernel
theorem dX7_nominate_0 : decode cX7_nominate 0 = .ok (.aload_n 0, 1) := by decide +kernel
theorem dX7_nominate_1 : decode cX7_nominate 1 = .ok (.getfield 19, 3) := by decide +kernel
theorem dX7_nominate_4 : decode cX7_nominate 4 = .ok (.iload_n 1, 1) := by decide +kernel
theorem dX7_nominate_5 : decode cX7_nominate 5 = .ok (.invokevirtual 55, 3) := by decide +kernel
theorem dX7_nominate_8 : decode cX7_nominate 8 = .ok (.ifCond .ne 5, 3) := by decide +kernel
theorem dX7_nominate_11 : decode cX7_nominate 11 = .ok (.iconst (-1), 1) := by decide +kernel
theorem dX7_nominate_12 : decode cX7_nominate 12 = .ok (.ireturn, 1) := by decide +kernel
theorem dX7_nominate_13 : decode cX7_nominate 13 = .ok (.aload_n 0, 1) := by decide +kernel
theorem dX7_nominate_14 : decode cX7_nominate 14 = .ok (.getfield 19, 3) := by decide +kernel
theorem dX7_nominate_17 : decode cX7_nominate 17 = .ok (.getfield 83, 3) := by decide +kernel
theorem dX7_nominate_20 : decode cX7_nominate 20 = .ok (.getfield 87, 3) := by decide +kernel
theorem dX7_nominate_23 : decode cX7_nominate 23 = .ok (.ifCond .eq 20, 3) := by decide +kernel
theorem dX7_nominate_26 : decode cX7_nominate 26 = .ok (.aload_n 0, 1) := by decide +kernel
theorem dX7_nominate_27 : decode cX7_nominate 27 = .ok (.getfield 19, 3) := by decide +kernel
theorem dX7_nominate_30 : decode cX7_nominate 30 = .ok (.getfield 83, 3) := by decide +kernel
theorem dX7_nominate_33 : decode cX7_nominate 33 = .ok (.getfield 105, 3) := by decide +kernel
theorem dX7_nominate_36 : decode cX7_nominate 36 = .ok (.iload_n 1, 1) := by decide +kernel
theorem dX7_nominate_37 : decode cX7_nominate 37 = .ok (.invokestatic 108, 3) := by decide +kernel
theorem dX7_nominate_40 : decode cX7_nominate 40 = .ok (.ifCond .eq 6, 3) := by decide +kernel
theorem dX7_nominate_43 : decode cX7_nominate 43 = .ok (.bipush (-2), 2) := by decide +kernel
theorem dX7_nominate_45 : decode cX7_nominate 45 = .ok (.ireturn, 1) := by decide +kernel
theorem dX7_nominate_46 : decode cX7_nominate 46 = .ok (.aload_n 0, 1) := by decide +kernel
theorem dX7_nominate_47 : decode cX7_nominate 47 = .ok (.getfield 19, 3) := by decide +kernel
theorem dX7_nominate_50 : decode cX7_nominate 50 = .ok (.iload_n 1, 1) := by decide +kernel
theorem dX7_nominate_51 : decode cX7_nominate 51 = .ok (.invokevirtual 112, 3) := by decide +kernel
theorem dX7_nominate_54 : decode cX7_nominate 54 = .ok (.ifCond .ne 6, 3) := by decide +kernel
theorem dX7_nominate_57 : decode cX7_nominate 57 = .ok (.bipush (-4), 2) := by decide +kernel
theorem dX7_nominate_59 : decode cX7_nominate 59 = .ok (.ireturn, 1) := by decide +kernel
theorem dX7_nominate_60 : decode cX7_nominate 60 = .ok (.aload_n 0, 1) := by decide +kernel
theorem dX7_nominate_61 : decode cX7_nominate 61 = .ok (.getfield 26, 3) := by decide +kernel
theorem dX7_nominate_64 : decode cX7_nominate 64 = .ok (.aload_n 0, 1) := by decide +kernel
theorem dX7_nominate_65 : decode cX7_nominate 65 = .ok (.getfield 19, 3) := by decide +kernel
theorem dX7_nominate_68 : decode cX7_nominate 68 = .ok (.invokevirtual 37, 3) := by decide +kernel
theorem dX7_nominate_71 : decode cX7_nominate 71 = .ok (.aload_n 0, 1) := by decide +kernel
theorem dX7_nominate_72 : decode cX7_nominate 72 = .ok (.getfield 19, 3) := by decide +kernel
theorem dX7_nominate_75 : decode cX7_nominate 75 = .ok (.getfield 83, 3) := by decide +kernel
theorem dX7_nominate_78 : decode cX7_nominate 78 = .ok (.dup, 1) := by decide +kernel
theorem dX7_nominate_79 : decode cX7_nominate 79 = .ok (.getfield 105, 3) := by decide +kernel
theorem dX7_nominate_82 : decode cX7_nominate 82 = .ok (.iload_n 1, 1) := by decide +kernel
theorem dX7_nominate_83 : decode cX7_nominate 83 = .ok (.invokestatic 69, 3) := by decide +kernel
theorem dX7_nominate_86 : decode cX7_nominate 86 = .ok (.ior, 1) := by decide +kernel
theorem dX7_nominate_87 : decode cX7_nominate 87 = .ok (.putfield 105, 3) := by decide +kernel
theorem dX7_nominate_90 : decode cX7_nominate 90 = .ok (.aload_n 0, 1) := by decide +kernel
theorem dX7_nominate_91 : decode cX7_nominate 91 = .ok (.getfield 19, 3) := by decide +kernel
theorem dX7_nominate_94 : decode cX7_nominate 94 = .ok (.getfield 83, 3) := by decide +kernel
theorem dX7_nominate_97 : decode cX7_nominate 97 = .ok (.getfield 105, 3) := by decide +kernel
theorem dX7_nominate_100 : decode cX7_nominate 100 = .ok (.invokestatic 115, 3) := by decide +kernel
theorem dX7_nominate_103 : decode cX7_nominate 103 = .ok (.ireturn, 1) := by decide +kernel
theorem dX7_cast_0 : decode cX7_cast 0 = .ok (.aload_n 0, 1) := by decide +kernel
theorem dX7_cast_1 : decode cX7_cast 1 = .ok (.getfield 19, 3) := by decide +kernel
theorem dX7_cast_4 : decode cX7_cast 4 = .ok (.iload_n 1, 1) := by decide +kernel
theorem dX7_cast_5 : decode cX7_cast 5 = .ok (.invokevirtual 55, 3) := by decide +kernel
theorem dX7_cast_8 : decode cX7_cast 8 = .ok (.ifCond .ne 5, 3) := by decide +kernel
theorem dX7_cast_11 : decode cX7_cast 11 = .ok (.iconst (-1), 1) := by decide +kernel
theorem dX7_cast_12 : decode cX7_cast 12 = .ok (.ireturn, 1) := by decide +kernel
theorem dX7_cast_13 : decode cX7_cast 13 = .ok (.aload_n 0, 1) := by decide +kernel
theorem dX7_cast_14 : decode cX7_cast 14 = .ok (.getfield 19, 3) := by decide +kernel
theorem dX7_cast_17 : decode cX7_cast 17 = .ok (.getfield 83, 3) := by decide +kernel
theorem dX7_cast_20 : decode cX7_cast 20 = .ok (.getfield 87, 3) := by decide +kernel
theorem dX7_cast_23 : decode cX7_cast 23 = .ok (.ifCond .eq 14, 3) := by decide +kernel
theorem dX7_cast_26 : decode cX7_cast 26 = .ok (.aload_n 0, 1) := by decide +kernel
theorem dX7_cast_27 : decode cX7_cast 27 = .ok (.getfield 19, 3) := by decide +kernel
theorem dX7_cast_30 : decode cX7_cast 30 = .ok (.iload_n 1, 1) := by decide +kernel
theorem dX7_cast_31 : decode cX7_cast 31 = .ok (.invokevirtual 59, 3) := by decide +kernel
theorem dX7_cast_34 : decode cX7_cast 34 = .ok (.ifCond .ne 6, 3) := by decide +kernel
theorem dX7_cast_37 : decode cX7_cast 37 = .ok (.bipush (-2), 2) := by decide +kernel
theorem dX7_cast_39 : decode cX7_cast 39 = .ok (.ireturn, 1) := by decide +kernel
theorem dX7_cast_40 : decode cX7_cast 40 = .ok (.aload_n 0, 1) := by decide +kernel
theorem dX7_cast_41 : decode cX7_cast 41 = .ok (.getfield 10, 3) := by decide +kernel
theorem dX7_cast_44 : decode cX7_cast 44 = .ok (.aload_n 0, 1) := by decide +kernel
theorem dX7_cast_45 : decode cX7_cast 45 = .ok (.getfield 19, 3) := by decide +kernel
theorem dX7_cast_48 : decode cX7_cast 48 = .ok (.getfield 83, 3) := by decide +kernel
theorem dX7_cast_51 : decode cX7_cast 51 = .ok (.getfield 105, 3) := by decide +kernel
theorem dX7_cast_54 : decode cX7_cast 54 = .ok (.invokevirtual 120, 3) := by decide +kernel
theorem dX7_cast_57 : decode cX7_cast 57 = .ok (.istore_n 2, 1) := by decide +kernel
theorem dX7_cast_58 : decode cX7_cast 58 = .ok (.iload_n 2, 1) := by decide +kernel
theorem dX7_cast_59 : decode cX7_cast 59 = .ok (.bipush (-9), 2) := by decide +kernel
theorem dX7_cast_61 : decode cX7_cast 61 = .ok (.if_icmp .eq 8, 3) := by decide +kernel
theorem dX7_cast_64 : decode cX7_cast 64 = .ok (.bipush (-100), 2) := by decide +kernel
theorem dX7_cast_66 : decode cX7_cast 66 = .ok (.iload_n 2, 1) := by decide +kernel
theorem dX7_cast_67 : decode cX7_cast 67 = .ok (.isub, 1) := by decide +kernel
theorem dX7_cast_68 : decode cX7_cast 68 = .ok (.ireturn, 1) := by decide +kernel
theorem dX7_cast_69 : decode cX7_cast 69 = .ok (.aload_n 0, 1) := by decide +kernel
theorem dX7_cast_70 : decode cX7_cast 70 = .ok (.getfield 26, 3) := by decide +kernel
theorem dX7_cast_73 : decode cX7_cast 73 = .ok (.aload_n 0, 1) := by decide +kernel
theorem dX7_cast_74 : decode cX7_cast 74 = .ok (.getfield 19, 3) := by decide +kernel
theorem dX7_cast_77 : decode cX7_cast 77 = .ok (.invokevirtual 37, 3) := by decide +kernel
theorem dX7_cast_80 : decode cX7_cast 80 = .ok (.aload_n 0, 1) := by decide +kernel
theorem dX7_cast_81 : decode cX7_cast 81 = .ok (.getfield 19, 3) := by decide +kernel
theorem dX7_cast_84 : decode cX7_cast 84 = .ok (.getfield 83, 3) := by decide +kernel
theorem dX7_cast_87 : decode cX7_cast 87 = .ok (.iload_n 1, 1) := by decide +kernel
theorem dX7_cast_88 : decode cX7_cast 88 = .ok (.aload_n 0, 1) := by decide +kernel
theorem dX7_cast_89 : decode cX7_cast 89 = .ok (.getfield 10, 3) := by decide +kernel
theorem dX7_cast_92 : decode cX7_cast 92 = .ok (.invokevirtual 123, 3) := by decide +kernel
theorem dX7_cast_95 : decode cX7_cast 95 = .ok (.aload_n 0, 1) := by decide +kernel
theorem dX7_cast_96 : decode cX7_cast 96 = .ok (.getfield 10, 3) := by decide +kernel
theorem dX7_cast_99 : decode cX7_cast 99 = .ok (.iconst 0, 1) := by decide +kernel
theorem dX7_cast_100 : decode cX7_cast 100 = .ok (.putfield 127, 3) := by decide +kernel
theorem dX7_cast_103 : decode cX7_cast 103 = .ok (.aload_n 0, 1) := by decide +kernel
theorem dX7_cast_104 : decode cX7_cast 104 = .ok (.getfield 19, 3) := by decide +kernel
theorem dX7_cast_107 : decode cX7_cast 107 = .ok (.getfield 83, 3) := by decide +kernel
theorem dX7_cast_110 : decode cX7_cast 110 = .ok (.invokevirtual 130, 3) := by decide +kernel
theorem dX7_cast_113 : decode cX7_cast 113 = .ok (.ireturn, 1) := by decide +kernel
theorem dX7_close_0 : decode cX7_close 0 = .ok (.aload_n 0, 1) := by decide +kernel
theorem dX7_close_1 : decode cX7_close 1 = .ok (.getfield 19, 3) := by decide +kernel
theorem dX7_close_4 : decode cX7_close 4 = .ok (.getfield 83, 3) := by decide +kernel
theorem dX7_close_7 : decode cX7_close 7 = .ok (.getfield 87, 3) := by decide +kernel
theorem dX7_close_10 : decode cX7_close 10 = .ok (.ifCond .eq 16, 3) := by decide +kernel
theorem dX7_close_13 : decode cX7_close 13 = .ok (.aload_n 0, 1) := by decide +kernel
theorem dX7_close_14 : decode cX7_close 14 = .ok (.getfield 19, 3) := by decide +kernel
theorem dX7_close_17 : decode cX7_close 17 = .ok (.getfield 83, 3) := by decide +kernel
theorem dX7_close_20 : decode cX7_close 20 = .ok (.getfield 105, 3) := by decide +kernel
theorem dX7_close_23 : decode cX7_close 23 = .ok (.ifCond .ne 6, 3) := by decide +kernel
theorem dX7_close_26 : decode cX7_close 26 = .ok (.bipush (-2), 2) := by decide +kernel
theorem dX7_close_28 : decode cX7_close 28 = .ok (.ireturn, 1) := by decide +kernel
theorem dX7_close_29 : decode cX7_close 29 = .ok (.aload_n 0, 1) := by decide +kernel
theorem dX7_close_30 : decode cX7_close 30 = .ok (.getfield 26, 3) := by decide +kernel
theorem dX7_close_33 : decode cX7_close 33 = .ok (.aload_n 0, 1) := by decide +kernel
theorem dX7_close_34 : decode cX7_close 34 = .ok (.getfield 19, 3) := by decide +kernel
theorem dX7_close_37 : decode cX7_close 37 = .ok (.invokevirtual 37, 3) := by decide +kernel
theorem dX7_close_40 : decode cX7_close 40 = .ok (.aload_n 0, 1) := by decide +kernel
theorem dX7_close_41 : decode cX7_close 41 = .ok (.getfield 19, 3) := by decide +kernel
theorem dX7_close_44 : decode cX7_close 44 = .ok (.invokevirtual 134, 3) := by decide +kernel
theorem dX7_close_47 : decode cX7_close 47 = .ok (.ireturn, 1) := by decide +kernel
theorem dX7_rounds_0 : decode cX7_rounds 0 = .ok (.aload_n 0, 1) := by decide +kernel
theorem dX7_rounds_1 : decode cX7_rounds 1 = .ok (.getfield 19, 3) := by decide +kernel
theorem dX7_rounds_4 : decode cX7_rounds 4 = .ok (.getfield 137, 3) := by decide +kernel
theorem dX7_rounds_7 : decode cX7_rounds 7 = .ok (.getfield 141, 3) := by decide +kernel
theorem dX7_rounds_10 : decode cX7_rounds 10 = .ok (.ireturn, 1) := by decide +kernel
theorem dX7_tally_0 : decode cX7_tally 0 = .ok (.iload_n 1, 1) := by decide +kernel
theorem dX7_tally_1 : decode cX7_tally 1 = .ok (.ifCond .lt 28, 3) := by decide +kernel
theorem dX7_tally_4 : decode cX7_tally 4 = .ok (.iload_n 1, 1) := by decide +kernel
theorem dX7_tally_5 : decode cX7_tally 5 = .ok (.aload_n 0, 1) := by decide +kernel
theorem dX7_tally_6 : decode cX7_tally 6 = .ok (.getfield 19, 3) := by decide +kernel
theorem dX7_tally_9 : decode cX7_tally 9 = .ok (.getfield 137, 3) := by decide +kernel
theorem dX7_tally_12 : decode cX7_tally 12 = .ok (.getfield 141, 3) := by decide +kernel
theorem dX7_tally_15 : decode cX7_tally 15 = .ok (.if_icmp .ge 14, 3) := by decide +kernel
theorem dX7_tally_18 : decode cX7_tally 18 = .ok (.aload_n 0, 1) := by decide +kernel
theorem dX7_tally_19 : decode cX7_tally 19 = .ok (.getfield 19, 3) := by decide +kernel
theorem dX7_tally_22 : decode cX7_tally 22 = .ok (.iload_n 2, 1) := by decide +kernel
theorem dX7_tally_23 : decode cX7_tally 23 = .ok (.invokevirtual 55, 3) := by decide +kernel
theorem dX7_tally_26 : decode cX7_tally 26 = .ok (.ifCond .ne 5, 3) := by decide +kernel
theorem dX7_tally_29 : decode cX7_tally 29 = .ok (.iconst (-1), 1) := by decide +kernel
theorem dX7_tally_30 : decode cX7_tally 30 = .ok (.ireturn, 1) := by decide +kernel
theorem dX7_tally_31 : decode cX7_tally 31 = .ok (.aload_n 0, 1) := by decide +kernel
theorem dX7_tally_32 : decode cX7_tally 32 = .ok (.getfield 19, 3) := by decide +kernel
theorem dX7_tally_35 : decode cX7_tally 35 = .ok (.getfield 137, 3) := by decide +kernel
theorem dX7_tally_38 : decode cX7_tally 38 = .ok (.iload_n 2, 1) := by decide +kernel
theorem dX7_tally_39 : decode cX7_tally 39 = .ok (.iload_n 1, 1) := by decide +kernel
theorem dX7_tally_40 : decode cX7_tally 40 = .ok (.invokevirtual 146, 3) := by decide +kernel
theorem dX7_tally_43 : decode cX7_tally 43 = .ok (.ireturn, 1) := by decide +kernel
theorem dX7_ballot_0 : decode cX7_ballot 0 = .ok (.aload_n 0, 1) := by decide +kernel
theorem dX7_ballot_1 : decode cX7_ballot 1 = .ok (.getfield 19, 3) := by decide +kernel
theorem dX7_ballot_4 : decode cX7_ballot 4 = .ok (.iload_n 1, 1) := by decide +kernel
theorem dX7_ballot_5 : decode cX7_ballot 5 = .ok (.invokevirtual 55, 3) := by decide +kernel
theorem dX7_ballot_8 : decode cX7_ballot 8 = .ok (.ifCond .eq 7, 3) := by decide +kernel
theorem dX7_ballot_11 : decode cX7_ballot 11 = .ok (.iload_n 2, 1) := by decide +kernel
theorem dX7_ballot_12 : decode cX7_ballot 12 = .ok (.ifCond .ge 5, 3) := by decide +kernel
theorem dX7_ballot_15 : decode cX7_ballot 15 = .ok (.iconst (-1), 1) := by decide +kernel
theorem dX7_ballot_16 : decode cX7_ballot 16 = .ok (.ireturn, 1) := by decide +kernel
theorem dX7_ballot_17 : decode cX7_ballot 17 = .ok (.aload_n 0, 1) := by decide +kernel
theorem dX7_ballot_18 : decode cX7_ballot 18 = .ok (.getfield 19, 3) := by decide +kernel
theorem dX7_ballot_21 : decode cX7_ballot 21 = .ok (.getfield 83, 3) := by decide +kernel
theorem dX7_ballot_24 : decode cX7_ballot 24 = .ok (.getfield 87, 3) := by decide +kernel
theorem dX7_ballot_27 : decode cX7_ballot 27 = .ok (.ifCond .ne 6, 3) := by decide +kernel
theorem dX7_ballot_30 : decode cX7_ballot 30 = .ok (.bipush (-2), 2) := by decide +kernel
theorem dX7_ballot_32 : decode cX7_ballot 32 = .ok (.ireturn, 1) := by decide +kernel
theorem dX7_ballot_33 : decode cX7_ballot 33 = .ok (.iload_n 2, 1) := by decide +kernel
theorem dX7_ballot_34 : decode cX7_ballot 34 = .ok (.bipush 10, 2) := by decide +kernel
theorem dX7_ballot_36 : decode cX7_ballot 36 = .ok (.if_icmp .lt 6, 3) := by decide +kernel
theorem dX7_ballot_39 : decode cX7_ballot 39 = .ok (.bipush (-9), 2) := by decide +kernel
theorem dX7_ballot_41 : decode cX7_ballot 41 = .ok (.ireturn, 1) := by decide +kernel
theorem dX7_ballot_42 : decode cX7_ballot 42 = .ok (.aload_n 0, 1) := by decide +kernel
theorem dX7_ballot_43 : decode cX7_ballot 43 = .ok (.getfield 19, 3) := by decide +kernel
theorem dX7_ballot_46 : decode cX7_ballot 46 = .ok (.getfield 83, 3) := by decide +kernel
theorem dX7_ballot_49 : decode cX7_ballot 49 = .ok (.iload_n 1, 1) := by decide +kernel
theorem dX7_ballot_50 : decode cX7_ballot 50 = .ok (.iload_n 2, 1) := by decide +kernel
theorem dX7_ballot_51 : decode cX7_ballot 51 = .ok (.invokevirtual 150, 3) := by decide +kernel
theorem dX7_ballot_54 : decode cX7_ballot 54 = .ok (.ireturn, 1) := by decide +kernel
theorem dX7_office_0 : decode cX7_office 0 = .ok (.aload_n 0, 1) := by decide +kernel
theorem dX7_office_1 : decode cX7_office 1 = .ok (.getfield 19, 3) := by decide +kernel
theorem dX7_office_4 : decode cX7_office 4 = .ok (.getfield 93, 3) := by decide +kernel
theorem dX7_office_7 : decode cX7_office 7 = .ok (.ireturn, 1) := by decide +kernel
theorem dX7_holder_0 : decode cX7_holder 0 = .ok (.aload_n 0, 1) := by decide +kernel
theorem dX7_holder_1 : decode cX7_holder 1 = .ok (.getfield 19, 3) := by decide +kernel
theorem dX7_holder_4 : decode cX7_holder 4 = .ok (.getfield 153, 3) := by decide +kernel
theorem dX7_holder_7 : decode cX7_holder 7 = .ok (.ireturn, 1) := by decide +kernel
theorem dX7_deed_0 : decode cX7_deed 0 = .ok (.aload_n 0, 1) := by decide +kernel
theorem dX7_deed_1 : decode cX7_deed 1 = .ok (.getfield 19, 3) := by decide +kernel
theorem dX7_deed_4 : decode cX7_deed 4 = .ok (.getfield 93, 3) := by decide +kernel
theorem dX7_deed_7 : decode cX7_deed 7 = .ok (.iconst 2, 1) := by decide +kernel
theorem dX7_deed_8 : decode cX7_deed 8 = .ok (.if_icmp .eq 6, 3) := by decide +kernel
theorem dX7_deed_11 : decode cX7_deed 11 = .ok (.bipush (-2), 2) := by decide +kernel
theorem dX7_deed_13 : decode cX7_deed 13 = .ok (.ireturn, 1) := by decide +kernel
theorem dX7_deed_14 : decode cX7_deed 14 = .ok (.aload_n 0, 1) := by decide +kernel
theorem dX7_deed_15 : decode cX7_deed 15 = .ok (.getfield 19, 3) := by decide +kernel
theorem dX7_deed_18 : decode cX7_deed 18 = .ok (.getfield 96, 3) := by decide +kernel
theorem dX7_deed_21 : decode cX7_deed 21 = .ok (.invokevirtual 156, 3) := by decide +kernel
theorem dX7_deed_24 : decode cX7_deed 24 = .ok (.iload_n 1, 1) := by decide +kernel
theorem dX7_deed_25 : decode cX7_deed 25 = .ok (.ifCond .eq 7, 3) := by decide +kernel
theorem dX7_deed_28 : decode cX7_deed 28 = .ok (.iconst 1, 1) := by decide +kernel
theorem dX7_deed_29 : decode cX7_deed 29 = .ok (.goto 4, 3) := by decide +kernel
theorem dX7_deed_32 : decode cX7_deed 32 = .ok (.iconst (-1), 1) := by decide +kernel
theorem dX7_deed_33 : decode cX7_deed 33 = .ok (.iadd, 1) := by decide +kernel
theorem dX7_deed_34 : decode cX7_deed 34 = .ok (.istore_n 2, 1) := by decide +kernel
theorem dX7_deed_35 : decode cX7_deed 35 = .ok (.iload_n 2, 1) := by decide +kernel
theorem dX7_deed_36 : decode cX7_deed 36 = .ok (.bipush 20, 2) := by decide +kernel
theorem dX7_deed_38 : decode cX7_deed 38 = .ok (.if_icmp .gt 9, 3) := by decide +kernel
theorem dX7_deed_41 : decode cX7_deed 41 = .ok (.iload_n 2, 1) := by decide +kernel
theorem dX7_deed_42 : decode cX7_deed 42 = .ok (.bipush (-20), 2) := by decide +kernel
theorem dX7_deed_44 : decode cX7_deed 44 = .ok (.if_icmp .ge 6, 3) := by decide +kernel
theorem dX7_deed_47 : decode cX7_deed 47 = .ok (.bipush (-2), 2) := by decide +kernel
theorem dX7_deed_49 : decode cX7_deed 49 = .ok (.ireturn, 1) := by decide +kernel
theorem dX7_deed_50 : decode cX7_deed 50 = .ok (.aload_n 0, 1) := by decide +kernel
theorem dX7_deed_51 : decode cX7_deed 51 = .ok (.getfield 26, 3) := by decide +kernel
theorem dX7_deed_54 : decode cX7_deed 54 = .ok (.aload_n 0, 1) := by decide +kernel
theorem dX7_deed_55 : decode cX7_deed 55 = .ok (.getfield 19, 3) := by decide +kernel
theorem dX7_deed_58 : decode cX7_deed 58 = .ok (.invokevirtual 37, 3) := by decide +kernel
theorem dX7_deed_61 : decode cX7_deed 61 = .ok (.aload_n 0, 1) := by decide +kernel
theorem dX7_deed_62 : decode cX7_deed 62 = .ok (.getfield 19, 3) := by decide +kernel
theorem dX7_deed_65 : decode cX7_deed 65 = .ok (.getfield 96, 3) := by decide +kernel
theorem dX7_deed_68 : decode cX7_deed 68 = .ok (.iload_n 2, 1) := by decide +kernel
theorem dX7_deed_69 : decode cX7_deed 69 = .ok (.invokevirtual 159, 3) := by decide +kernel
theorem dX7_deed_72 : decode cX7_deed 72 = .ok (.iload_n 2, 1) := by decide +kernel
theorem dX7_deed_73 : decode cX7_deed 73 = .ok (.ireturn, 1) := by decide +kernel
theorem dX7_sign_0 : decode cX7_sign 0 = .ok (.aload_n 0, 1) := by decide +kernel
theorem dX7_sign_1 : decode cX7_sign 1 = .ok (.getfield 19, 3) := by decide +kernel
theorem dX7_sign_4 : decode cX7_sign 4 = .ok (.iload_n 1, 1) := by decide +kernel
theorem dX7_sign_5 : decode cX7_sign 5 = .ok (.invokevirtual 55, 3) := by decide +kernel
theorem dX7_sign_8 : decode cX7_sign 8 = .ok (.ifCond .ne 5, 3) := by decide +kernel
theorem dX7_sign_11 : decode cX7_sign 11 = .ok (.iconst (-1), 1) := by decide +kernel
theorem dX7_sign_12 : decode cX7_sign 12 = .ok (.ireturn, 1) := by decide +kernel
theorem dX7_sign_13 : decode cX7_sign 13 = .ok (.aload_n 0, 1) := by decide +kernel
theorem dX7_sign_14 : decode cX7_sign 14 = .ok (.getfield 19, 3) := by decide +kernel
theorem dX7_sign_17 : decode cX7_sign 17 = .ok (.getfield 93, 3) := by decide +kernel
theorem dX7_sign_20 : decode cX7_sign 20 = .ok (.iconst 2, 1) := by decide +kernel
theorem dX7_sign_21 : decode cX7_sign 21 = .ok (.if_icmp .ne 25, 3) := by decide +kernel
theorem dX7_sign_24 : decode cX7_sign 24 = .ok (.aload_n 0, 1) := by decide +kernel
theorem dX7_sign_25 : decode cX7_sign 25 = .ok (.getfield 19, 3) := by decide +kernel
theorem dX7_sign_28 : decode cX7_sign 28 = .ok (.iload_n 1, 1) := by decide +kernel
theorem dX7_sign_29 : decode cX7_sign 29 = .ok (.invokevirtual 59, 3) := by decide +kernel
theorem dX7_sign_32 : decode cX7_sign 32 = .ok (.ifCond .eq 14, 3) := by decide +kernel
theorem dX7_sign_35 : decode cX7_sign 35 = .ok (.iload_n 1, 1) := by decide +kernel
theorem dX7_sign_36 : decode cX7_sign 36 = .ok (.aload_n 0, 1) := by decide +kernel
theorem dX7_sign_37 : decode cX7_sign 37 = .ok (.getfield 19, 3) := by decide +kernel
theorem dX7_sign_40 : decode cX7_sign 40 = .ok (.getfield 153, 3) := by decide +kernel
theorem dX7_sign_43 : decode cX7_sign 43 = .ok (.if_icmp .ne 6, 3) := by decide +kernel
theorem dX7_sign_46 : decode cX7_sign 46 = .ok (.bipush (-2), 2) := by decide +kernel
theorem dX7_sign_48 : decode cX7_sign 48 = .ok (.ireturn, 1) := by decide +kernel
theorem dX7_sign_49 : decode cX7_sign 49 = .ok (.aload_n 0, 1) := by decide +kernel
theorem dX7_sign_50 : decode cX7_sign 50 = .ok (.getfield 19, 3) := by decide +kernel
theorem dX7_sign_53 : decode cX7_sign 53 = .ok (.getfield 162, 3) := by decide +kernel
theorem dX7_sign_56 : decode cX7_sign 56 = .ok (.iload_n 1, 1) := by decide +kernel
theorem dX7_sign_57 : decode cX7_sign 57 = .ok (.invokestatic 108, 3) := by decide +kernel
theorem dX7_sign_60 : decode cX7_sign 60 = .ok (.iload_n 2, 1) := by decide +kernel
theorem dX7_sign_61 : decode cX7_sign 61 = .ok (.if_icmp .ne 6, 3) := by decide +kernel
theorem dX7_sign_64 : decode cX7_sign 64 = .ok (.bipush (-2), 2) := by decide +kernel
theorem dX7_sign_66 : decode cX7_sign 66 = .ok (.ireturn, 1) := by decide +kernel
theorem dX7_sign_67 : decode cX7_sign 67 = .ok (.aload_n 0, 1) := by decide +kernel
theorem dX7_sign_68 : decode cX7_sign 68 = .ok (.getfield 26, 3) := by decide +kernel
theorem dX7_sign_71 : decode cX7_sign 71 = .ok (.aload_n 0, 1) := by decide +kernel
theorem dX7_sign_72 : decode cX7_sign 72 = .ok (.getfield 19, 3) := by decide +kernel
theorem dX7_sign_75 : decode cX7_sign 75 = .ok (.invokevirtual 37, 3) := by decide +kernel
theorem dX7_sign_78 : decode cX7_sign 78 = .ok (.iload_n 2, 1) := by decide +kernel
theorem dX7_sign_79 : decode cX7_sign 79 = .ok (.ifCond .eq 29, 3) := by decide +kernel
theorem dX7_sign_82 : decode cX7_sign 82 = .ok (.aload_n 0, 1) := by decide +kernel
theorem dX7_sign_83 : decode cX7_sign 83 = .ok (.getfield 19, 3) := by decide +kernel
theorem dX7_sign_86 : decode cX7_sign 86 = .ok (.dup, 1) := by decide +kernel
theorem dX7_sign_87 : decode cX7_sign 87 = .ok (.getfield 162, 3) := by decide +kernel
theorem dX7_sign_90 : decode cX7_sign 90 = .ok (.iload_n 1, 1) := by decide +kernel
theorem dX7_sign_91 : decode cX7_sign 91 = .ok (.invokestatic 69, 3) := by decide +kernel
theorem dX7_sign_94 : decode cX7_sign 94 = .ok (.ior, 1) := by decide +kernel
theorem dX7_sign_95 : decode cX7_sign 95 = .ok (.putfield 162, 3) := by decide +kernel
theorem dX7_sign_98 : decode cX7_sign 98 = .ok (.aload_n 0, 1) := by decide +kernel
theorem dX7_sign_99 : decode cX7_sign 99 = .ok (.getfield 19, 3) := by decide +kernel
theorem dX7_sign_102 : decode cX7_sign 102 = .ok (.invokevirtual 44, 3) := by decide +kernel
theorem dX7_sign_105 : decode cX7_sign 105 = .ok (.goto 21, 3) := by decide +kernel
theorem dX7_sign_108 : decode cX7_sign 108 = .ok (.aload_n 0, 1) := by decide +kernel
theorem dX7_sign_109 : decode cX7_sign 109 = .ok (.getfield 19, 3) := by decide +kernel
theorem dX7_sign_112 : decode cX7_sign 112 = .ok (.dup, 1) := by decide +kernel
theorem dX7_sign_113 : decode cX7_sign 113 = .ok (.getfield 162, 3) := by decide +kernel
theorem dX7_sign_116 : decode cX7_sign 116 = .ok (.iload_n 1, 1) := by decide +kernel
theorem dX7_sign_117 : decode cX7_sign 117 = .ok (.invokestatic 69, 3) := by decide +kernel
theorem dX7_sign_120 : decode cX7_sign 120 = .ok (.iconst (-1), 1) := by decide +kernel
theorem dX7_sign_121 : decode cX7_sign 121 = .ok (.ixor, 1) := by decide +kernel
theorem dX7_sign_122 : decode cX7_sign 122 = .ok (.iand, 1) := by decide +kernel
theorem dX7_sign_123 : decode cX7_sign 123 = .ok (.putfield 162, 3) := by decide +kernel
theorem dX7_sign_126 : decode cX7_sign 126 = .ok (.aload_n 0, 1) := by decide +kernel
theorem dX7_sign_127 : decode cX7_sign 127 = .ok (.getfield 19, 3) := by decide +kernel
theorem dX7_sign_130 : decode cX7_sign 130 = .ok (.invokevirtual 165, 3) := by decide +kernel
theorem dX7_sign_133 : decode cX7_sign 133 = .ok (.ireturn, 1) := by decide +kernel
theorem dX7_grade_0 : decode cX7_grade 0 = .ok (.aload_n 0, 1) := by decide +kernel
theorem dX7_grade_1 : decode cX7_grade 1 = .ok (.getfield 19, 3) := by decide +kernel
theorem dX7_grade_4 : decode cX7_grade 4 = .ok (.iload_n 1, 1) := by decide +kernel
theorem dX7_grade_5 : decode cX7_grade 5 = .ok (.invokevirtual 55, 3) := by decide +kernel
theorem dX7_grade_8 : decode cX7_grade 8 = .ok (.ifCond .eq 17, 3) := by decide +kernel
theorem dX7_grade_11 : decode cX7_grade 11 = .ok (.aload_n 0, 1) := by decide +kernel
theorem dX7_grade_12 : decode cX7_grade 12 = .ok (.getfield 19, 3) := by decide +kernel
theorem dX7_grade_15 : decode cX7_grade 15 = .ok (.getfield 96, 3) := by decide +kernel
theorem dX7_grade_18 : decode cX7_grade 18 = .ok (.iload_n 2, 1) := by decide +kernel
theorem dX7_grade_19 : decode cX7_grade 19 = .ok (.invokevirtual 168, 3) := by decide +kernel
theorem dX7_grade_22 : decode cX7_grade 22 = .ok (.ifCond .ne 5, 3) := by decide +kernel
theorem dX7_grade_25 : decode cX7_grade 25 = .ok (.iconst (-1), 1) := by decide +kernel
theorem dX7_grade_26 : decode cX7_grade 26 = .ok (.ireturn, 1) := by decide +kernel
theorem dX7_grade_27 : decode cX7_grade 27 = .ok (.iload_n 3, 1) := by decide +kernel
theorem dX7_grade_28 : decode cX7_grade 28 = .ok (.ifCond .lt 9, 3) := by decide +kernel
theorem dX7_grade_31 : decode cX7_grade 31 = .ok (.iload_n 3, 1) := by decide +kernel
theorem dX7_grade_32 : decode cX7_grade 32 = .ok (.bipush 10, 2) := by decide +kernel
theorem dX7_grade_34 : decode cX7_grade 34 = .ok (.if_icmp .le 5, 3) := by decide +kernel
theorem dX7_grade_37 : decode cX7_grade 37 = .ok (.iconst (-1), 1) := by decide +kernel
theorem dX7_grade_38 : decode cX7_grade 38 = .ok (.ireturn, 1) := by decide +kernel
theorem dX7_grade_39 : decode cX7_grade 39 = .ok (.aload_n 0, 1) := by decide +kernel
theorem dX7_grade_40 : decode cX7_grade 40 = .ok (.getfield 19, 3) := by decide +kernel
theorem dX7_grade_43 : decode cX7_grade 43 = .ok (.getfield 96, 3) := by decide +kernel
theorem dX7_grade_46 : decode cX7_grade 46 = .ok (.iload_n 1, 1) := by decide +kernel
theorem dX7_grade_47 : decode cX7_grade 47 = .ok (.iload_n 2, 1) := by decide +kernel
theorem dX7_grade_48 : decode cX7_grade 48 = .ok (.aload_n 0, 1) := by decide +kernel
theorem dX7_grade_49 : decode cX7_grade 49 = .ok (.getfield 19, 3) := by decide +kernel
theorem dX7_grade_52 : decode cX7_grade 52 = .ok (.getfield 76, 3) := by decide +kernel
theorem dX7_grade_55 : decode cX7_grade 55 = .ok (.invokevirtual 171, 3) := by decide +kernel
theorem dX7_grade_58 : decode cX7_grade 58 = .ok (.ifCond .ne 6, 3) := by decide +kernel
theorem dX7_grade_61 : decode cX7_grade 61 = .ok (.bipush (-2), 2) := by decide +kernel
theorem dX7_grade_63 : decode cX7_grade 63 = .ok (.ireturn, 1) := by decide +kernel
theorem dX7_grade_64 : decode cX7_grade 64 = .ok (.iload 4, 2) := by decide +kernel
theorem dX7_grade_66 : decode cX7_grade 66 = .ok (.bipush 31, 2) := by decide +kernel
theorem dX7_grade_68 : decode cX7_grade 68 = .ok (.iload_n 2, 1) := by decide +kernel
theorem dX7_grade_69 : decode cX7_grade 69 = .ok (.imul, 1) := by decide +kernel
theorem dX7_grade_70 : decode cX7_grade 70 = .ok (.bipush 17, 2) := by decide +kernel
theorem dX7_grade_72 : decode cX7_grade 72 = .ok (.iload_n 1, 1) := by decide +kernel
theorem dX7_grade_73 : decode cX7_grade 73 = .ok (.imul, 1) := by decide +kernel
theorem dX7_grade_74 : decode cX7_grade 74 = .ok (.iadd, 1) := by decide +kernel
theorem dX7_grade_75 : decode cX7_grade 75 = .ok (.bipush 7, 2) := by decide +kernel
theorem dX7_grade_77 : decode cX7_grade 77 = .ok (.iload_n 3, 1) := by decide +kernel
theorem dX7_grade_78 : decode cX7_grade 78 = .ok (.imul, 1) := by decide +kernel
theorem dX7_grade_79 : decode cX7_grade 79 = .ok (.iadd, 1) := by decide +kernel
theorem dX7_grade_80 : decode cX7_grade 80 = .ok (.aload_n 0, 1) := by decide +kernel
theorem dX7_grade_81 : decode cX7_grade 81 = .ok (.getfield 19, 3) := by decide +kernel
theorem dX7_grade_84 : decode cX7_grade 84 = .ok (.getfield 175, 3) := by decide +kernel
theorem dX7_grade_87 : decode cX7_grade 87 = .ok (.iload_n 1, 1) := by decide +kernel
theorem dX7_grade_88 : decode cX7_grade 88 = .ok (.iaload, 1) := by decide +kernel
theorem dX7_grade_89 : decode cX7_grade 89 = .ok (.iadd, 1) := by decide +kernel
theorem dX7_grade_90 : decode cX7_grade 90 = .ok (.sipush 997, 3) := by decide +kernel
theorem dX7_grade_93 : decode cX7_grade 93 = .ok (.irem, 1) := by decide +kernel
theorem dX7_grade_94 : decode cX7_grade 94 = .ok (.if_icmp .eq 6, 3) := by decide +kernel
theorem dX7_grade_97 : decode cX7_grade 97 = .ok (.bipush (-5), 2) := by decide +kernel
theorem dX7_grade_99 : decode cX7_grade 99 = .ok (.ireturn, 1) := by decide +kernel
theorem dX7_grade_100 : decode cX7_grade 100 = .ok (.aload_n 0, 1) := by decide +kernel
theorem dX7_grade_101 : decode cX7_grade 101 = .ok (.getfield 26, 3) := by decide +kernel
theorem dX7_grade_104 : decode cX7_grade 104 = .ok (.aload_n 0, 1) := by decide +kernel
theorem dX7_grade_105 : decode cX7_grade 105 = .ok (.getfield 19, 3) := by decide +kernel
theorem dX7_grade_108 : decode cX7_grade 108 = .ok (.invokevirtual 37, 3) := by decide +kernel
theorem dX7_grade_111 : decode cX7_grade 111 = .ok (.aload_n 0, 1) := by decide +kernel
theorem dX7_grade_112 : decode cX7_grade 112 = .ok (.getfield 19, 3) := by decide +kernel
theorem dX7_grade_115 : decode cX7_grade 115 = .ok (.getfield 96, 3) := by decide +kernel
theorem dX7_grade_118 : decode cX7_grade 118 = .ok (.iload_n 1, 1) := by decide +kernel
theorem dX7_grade_119 : decode cX7_grade 119 = .ok (.iload_n 2, 1) := by decide +kernel
theorem dX7_grade_120 : decode cX7_grade 120 = .ok (.iload_n 3, 1) := by decide +kernel
theorem dX7_grade_121 : decode cX7_grade 121 = .ok (.invokevirtual 178, 3) := by decide +kernel
theorem dX7_grade_124 : decode cX7_grade 124 = .ok (.aload_n 0, 1) := by decide +kernel
theorem dX7_grade_125 : decode cX7_grade 125 = .ok (.getfield 19, 3) := by decide +kernel
theorem dX7_grade_128 : decode cX7_grade 128 = .ok (.getfield 96, 3) := by decide +kernel
theorem dX7_grade_131 : decode cX7_grade 131 = .ok (.iload_n 2, 1) := by decide +kernel
theorem dX7_grade_132 : decode cX7_grade 132 = .ok (.invokevirtual 182, 3) := by decide +kernel
theorem dX7_grade_135 : decode cX7_grade 135 = .ok (.ireturn, 1) := by decide +kernel
theorem dX7_term_0 : decode cX7_term 0 = .ok (.aload_n 0, 1) := by decide +kernel
theorem dX7_term_1 : decode cX7_term 1 = .ok (.getfield 19, 3) := by decide +kernel
theorem dX7_term_4 : decode cX7_term 4 = .ok (.getfield 96, 3) := by decide +kernel
theorem dX7_term_7 : decode cX7_term 7 = .ok (.iload_n 1, 1) := by decide +kernel
theorem dX7_term_8 : decode cX7_term 8 = .ok (.invokevirtual 168, 3) := by decide +kernel
theorem dX7_term_11 : decode cX7_term 11 = .ok (.ifCond .eq 13, 3) := by decide +kernel
theorem dX7_term_14 : decode cX7_term 14 = .ok (.iload_n 2, 1) := by decide +kernel
theorem dX7_term_15 : decode cX7_term 15 = .ok (.ifCond .lt 9, 3) := by decide +kernel
theorem dX7_term_18 : decode cX7_term 18 = .ok (.iload_n 2, 1) := by decide +kernel
theorem dX7_term_19 : decode cX7_term 19 = .ok (.bipush 8, 2) := by decide +kernel
theorem dX7_term_21 : decode cX7_term 21 = .ok (.if_icmp .lt 5, 3) := by decide +kernel
theorem dX7_term_24 : decode cX7_term 24 = .ok (.iconst (-1), 1) := by decide +kernel
theorem dX7_term_25 : decode cX7_term 25 = .ok (.ireturn, 1) := by decide +kernel
theorem dX7_term_26 : decode cX7_term 26 = .ok (.aload_n 0, 1) := by decide +kernel
theorem dX7_term_27 : decode cX7_term 27 = .ok (.getfield 19, 3) := by decide +kernel
theorem dX7_term_30 : decode cX7_term 30 = .ok (.getfield 96, 3) := by decide +kernel
theorem dX7_term_33 : decode cX7_term 33 = .ok (.iload_n 1, 1) := by decide +kernel
theorem dX7_term_34 : decode cX7_term 34 = .ok (.iload_n 2, 1) := by decide +kernel
theorem dX7_term_35 : decode cX7_term 35 = .ok (.invokevirtual 185, 3) := by decide +kernel
theorem dX7_term_38 : decode cX7_term 38 = .ok (.ireturn, 1) := by decide +kernel
theorem dX7_points_0 : decode cX7_points 0 = .ok (.aload_n 0, 1) := by decide +kernel
theorem dX7_points_1 : decode cX7_points 1 = .ok (.getfield 19, 3) := by decide +kernel
theorem dX7_points_4 : decode cX7_points 4 = .ok (.iload_n 1, 1) := by decide +kernel
theorem dX7_points_5 : decode cX7_points 5 = .ok (.invokevirtual 55, 3) := by decide +kernel
theorem dX7_points_8 : decode cX7_points 8 = .ok (.ifCond .eq 17, 3) := by decide +kernel
theorem dX7_points_11 : decode cX7_points 11 = .ok (.aload_n 0, 1) := by decide +kernel
theorem dX7_points_12 : decode cX7_points 12 = .ok (.getfield 19, 3) := by decide +kernel
theorem dX7_points_15 : decode cX7_points 15 = .ok (.getfield 96, 3) := by decide +kernel
theorem dX7_points_18 : decode cX7_points 18 = .ok (.iload_n 2, 1) := by decide +kernel
theorem dX7_points_19 : decode cX7_points 19 = .ok (.invokevirtual 168, 3) := by decide +kernel
theorem dX7_points_22 : decode cX7_points 22 = .ok (.ifCond .ne 5, 3) := by decide +kernel
theorem dX7_points_25 : decode cX7_points 25 = .ok (.iconst (-1), 1) := by decide +kernel
theorem dX7_points_26 : decode cX7_points 26 = .ok (.ireturn, 1) := by decide +kernel
theorem dX7_points_27 : decode cX7_points 27 = .ok (.aload_n 0, 1) := by decide +kernel
theorem dX7_points_28 : decode cX7_points 28 = .ok (.getfield 19, 3) := by decide +kernel
theorem dX7_points_31 : decode cX7_points 31 = .ok (.getfield 96, 3) := by decide +kernel
theorem dX7_points_34 : decode cX7_points 34 = .ok (.iload_n 1, 1) := by decide +kernel
theorem dX7_points_35 : decode cX7_points 35 = .ok (.iload_n 2, 1) := by decide +kernel
theorem dX7_points_36 : decode cX7_points 36 = .ok (.invokevirtual 188, 3) := by decide +kernel
theorem dX7_points_39 : decode cX7_points 39 = .ok (.ireturn, 1) := by decide +kernel
theorem dX7_terms_0 : decode cX7_terms 0 = .ok (.aload_n 0, 1) := by decide +kernel
theorem dX7_terms_1 : decode cX7_terms 1 = .ok (.getfield 19, 3) := by decide +kernel
theorem dX7_terms_4 : decode cX7_terms 4 = .ok (.getfield 96, 3) := by decide +kernel
theorem dX7_terms_7 : decode cX7_terms 7 = .ok (.getfield 100, 3) := by decide +kernel
theorem dX7_terms_10 : decode cX7_terms 10 = .ok (.ireturn, 1) := by decide +kernel
theorem dX7_member_0 : decode cX7_member 0 = .ok (.aload_n 0, 1) := by decide +kernel
theorem dX7_member_1 : decode cX7_member 1 = .ok (.getfield 19, 3) := by decide +kernel
theorem dX7_member_4 : decode cX7_member 4 = .ok (.iload_n 1, 1) := by decide +kernel
theorem dX7_member_5 : decode cX7_member 5 = .ok (.invokevirtual 55, 3) := by decide +kernel
theorem dX7_member_8 : decode cX7_member 8 = .ok (.ifCond .eq 13, 3) := by decide +kernel
theorem dX7_member_11 : decode cX7_member 11 = .ok (.iload_n 2, 1) := by decide +kernel
theorem dX7_member_12 : decode cX7_member 12 = .ok (.ifCond .lt 9, 3) := by decide +kernel
theorem dX7_member_15 : decode cX7_member 15 = .ok (.iload_n 2, 1) := by decide +kernel
theorem dX7_member_16 : decode cX7_member 16 = .ok (.bipush 6, 2) := by decide +kernel
theorem dX7_member_18 : decode cX7_member 18 = .ok (.if_icmp .lt 5, 3) := by decide +kernel
theorem dX7_member_21 : decode cX7_member 21 = .ok (.iconst (-1), 1) := by decide +kernel
theorem dX7_member_22 : decode cX7_member 22 = .ok (.ireturn, 1) := by decide +kernel
theorem dX7_member_23 : decode cX7_member 23 = .ok (.aload_n 0, 1) := by decide +kernel
theorem dX7_member_24 : decode cX7_member 24 = .ok (.getfield 19, 3) := by decide +kernel
theorem dX7_member_27 : decode cX7_member 27 = .ok (.iload_n 1, 1) := by decide +kernel
theorem dX7_member_28 : decode cX7_member 28 = .ok (.iload_n 2, 1) := by decide +kernel
theorem dX7_member_29 : decode cX7_member 29 = .ok (.invokevirtual 191, 3) := by decide +kernel
theorem dX7_member_32 : decode cX7_member 32 = .ok (.ireturn, 1) := by decide +kernel
theorem dX7_time_0 : decode cX7_time 0 = .ok (.aload_n 0, 1) := by decide +kernel
theorem dX7_time_1 : decode cX7_time 1 = .ok (.getfield 19, 3) := by decide +kernel
theorem dX7_time_4 : decode cX7_time 4 = .ok (.getfield 76, 3) := by decide +kernel
theorem dX7_time_7 : decode cX7_time 7 = .ok (.ireturn, 1) := by decide +kernel
theorem dX7_events_0 : decode cX7_events 0 = .ok (.aload_n 0, 1) := by decide +kernel
theorem dX7_events_1 : decode cX7_events 1 = .ok (.getfield 19, 3) := by decide +kernel
theorem dX7_events_4 : decode cX7_events 4 = .ok (.getfield 194, 3) := by decide +kernel
theorem dX7_events_7 : decode cX7_events 7 = .ok (.getfield 198, 3) := by decide +kernel
theorem dX7_events_10 : decode cX7_events 10 = .ok (.ireturn, 1) := by decide +kernel
theorem dX7_event_0 : decode cX7_event 0 = .ok (.iload_n 1, 1) := by decide +kernel
theorem dX7_event_1 : decode cX7_event 1 = .ok (.ifCond .lt 12, 3) := by decide +kernel
theorem dX7_event_4 : decode cX7_event 4 = .ok (.iload_n 2, 1) := by decide +kernel
theorem dX7_event_5 : decode cX7_event 5 = .ok (.ifCond .lt 8, 3) := by decide +kernel
theorem dX7_event_8 : decode cX7_event 8 = .ok (.iload_n 2, 1) := by decide +kernel
theorem dX7_event_9 : decode cX7_event 9 = .ok (.iconst 3, 1) := by decide +kernel
theorem dX7_event_10 : decode cX7_event 10 = .ok (.if_icmp .lt 5, 3) := by decide +kernel
theorem dX7_event_13 : decode cX7_event 13 = .ok (.iconst (-1), 1) := by decide +kernel
theorem dX7_event_14 : decode cX7_event 14 = .ok (.ireturn, 1) := by decide +kernel
theorem dX7_event_15 : decode cX7_event 15 = .ok (.aload_n 0, 1) := by decide +kernel
theorem dX7_event_16 : decode cX7_event 16 = .ok (.getfield 19, 3) := by decide +kernel
theorem dX7_event_19 : decode cX7_event 19 = .ok (.getfield 194, 3) := by decide +kernel
theorem dX7_event_22 : decode cX7_event 22 = .ok (.iload_n 1, 1) := by decide +kernel
theorem dX7_event_23 : decode cX7_event 23 = .ok (.iload_n 2, 1) := by decide +kernel
theorem dX7_event_24 : decode cX7_event 24 = .ok (.invokevirtual 201, 3) := by decide +kernel
theorem dX7_event_27 : decode cX7_event 27 = .ok (.ireturn, 1) := by decide +kernel
theorem dX7_type_0 : decode cX7_type 0 = .ok (.iload_n 1, 1) := by decide +kernel
theorem dX7_type_1 : decode cX7_type 1 = .ok (.bipush 32, 2) := by decide +kernel
theorem dX7_type_3 : decode cX7_type 3 = .ok (.if_icmp .lt 9, 3) := by decide +kernel
theorem dX7_type_6 : decode cX7_type 6 = .ok (.iload_n 1, 1) := by decide +kernel
theorem dX7_type_7 : decode cX7_type 7 = .ok (.bipush 126, 2) := by decide +kernel
theorem dX7_type_9 : decode cX7_type 9 = .ok (.if_icmp .le 5, 3) := by decide +kernel
theorem dX7_type_12 : decode cX7_type 12 = .ok (.iconst (-1), 1) := by decide +kernel
theorem dX7_type_13 : decode cX7_type 13 = .ok (.ireturn, 1) := by decide +kernel
theorem dX7_type_14 : decode cX7_type 14 = .ok (.aload_n 0, 1) := by decide +kernel
theorem dX7_type_15 : decode cX7_type 15 = .ok (.getfield 10, 3) := by decide +kernel
theorem dX7_type_18 : decode cX7_type 18 = .ok (.iload_n 1, 1) := by decide +kernel
theorem dX7_type_19 : decode cX7_type 19 = .ok (.invokevirtual 202, 3) := by decide +kernel
theorem dX7_type_22 : decode cX7_type 22 = .ok (.ireturn, 1) := by decide +kernel
theorem dX7_clear_0 : decode cX7_clear 0 = .ok (.aload_n 0, 1) := by decide +kernel
theorem dX7_clear_1 : decode cX7_clear 1 = .ok (.getfield 10, 3) := by decide +kernel
theorem dX7_clear_4 : decode cX7_clear 4 = .ok (.getfield 127, 3) := by decide +kernel
theorem dX7_clear_7 : decode cX7_clear 7 = .ok (.istore_n 1, 1) := by decide +kernel
theorem dX7_clear_8 : decode cX7_clear 8 = .ok (.aload_n 0, 1) := by decide +kernel
theorem dX7_clear_9 : decode cX7_clear 9 = .ok (.getfield 10, 3) := by decide +kernel
theorem dX7_clear_12 : decode cX7_clear 12 = .ok (.iconst 0, 1) := by decide +kernel
theorem dX7_clear_13 : decode cX7_clear 13 = .ok (.putfield 127, 3) := by decide +kernel
theorem dX7_clear_16 : decode cX7_clear 16 = .ok (.iload_n 1, 1) := by decide +kernel
theorem dX7_clear_17 : decode cX7_clear 17 = .ok (.ireturn, 1) := by decide +kernel
theorem dX7_undo_0 : decode cX7_undo 0 = .ok (.aload_n 0, 1) := by decide +kernel
theorem dX7_undo_1 : decode cX7_undo 1 = .ok (.getfield 26, 3) := by decide +kernel
theorem dX7_undo_4 : decode cX7_undo 4 = .ok (.getfield 205, 3) := by decide +kernel
theorem dX7_undo_7 : decode cX7_undo 7 = .ok (.ifCond .gt 6, 3) := by decide +kernel
theorem dX7_undo_10 : decode cX7_undo 10 = .ok (.bipush (-9), 2) := by decide +kernel
theorem dX7_undo_12 : decode cX7_undo 12 = .ok (.ireturn, 1) := by decide +kernel
theorem dX7_undo_13 : decode cX7_undo 13 = .ok (.aload_n 0, 1) := by decide +kernel
theorem dX7_undo_14 : decode cX7_undo 14 = .ok (.getfield 26, 3) := by decide +kernel
theorem dX7_undo_17 : decode cX7_undo 17 = .ok (.aload_n 0, 1) := by decide +kernel
theorem dX7_undo_18 : decode cX7_undo 18 = .ok (.getfield 19, 3) := by decide +kernel
theorem dX7_undo_21 : decode cX7_undo 21 = .ok (.invokevirtual 206, 3) := by decide +kernel
theorem dX7_undo_24 : decode cX7_undo 24 = .ok (.aload_n 0, 1) := by decide +kernel
theorem dX7_undo_25 : decode cX7_undo 25 = .ok (.getfield 26, 3) := by decide +kernel
theorem dX7_undo_28 : decode cX7_undo 28 = .ok (.getfield 205, 3) := by decide +kernel
theorem dX7_undo_31 : decode cX7_undo 31 = .ok (.ireturn, 1) := by decide +kernel
theorem dX7_fingerprint_0 : decode cX7_fingerprint 0 = .ok (.ldc2_w 209, 3) := by decide +kernel
theorem dX7_fingerprint_3 : decode cX7_fingerprint 3 = .ok (.lstore_n 1, 1) := by decide +kernel
theorem dX7_fingerprint_4 : decode cX7_fingerprint 4 = .ok (.lload_n 1, 1) := by decide +kernel
theorem dX7_fingerprint_5 : decode cX7_fingerprint 5 = .ok (.aload_n 0, 1) := by decide +kernel
theorem dX7_fingerprint_6 : decode cX7_fingerprint 6 = .ok (.getfield 19, 3) := by decide +kernel
theorem dX7_fingerprint_9 : decode cX7_fingerprint 9 = .ok (.getfield 76, 3) := by decide +kernel
theorem dX7_fingerprint_12 : decode cX7_fingerprint 12 = .ok (.invokestatic 211, 3) := by decide +kernel
theorem dX7_fingerprint_15 : decode cX7_fingerprint 15 = .ok (.lstore_n 1, 1) := by decide +kernel
theorem dX7_fingerprint_16 : decode cX7_fingerprint 16 = .ok (.lload_n 1, 1) := by decide +kernel
theorem dX7_fingerprint_17 : decode cX7_fingerprint 17 = .ok (.aload_n 0, 1) := by decide +kernel
theorem dX7_fingerprint_18 : decode cX7_fingerprint 18 = .ok (.getfield 19, 3) := by decide +kernel
theorem dX7_fingerprint_21 : decode cX7_fingerprint 21 = .ok (.getfield 93, 3) := by decide +kernel
theorem dX7_fingerprint_24 : decode cX7_fingerprint 24 = .ok (.invokestatic 211, 3) := by decide +kernel
theorem dX7_fingerprint_27 : decode cX7_fingerprint 27 = .ok (.lstore_n 1, 1) := by decide +kernel
theorem dX7_fingerprint_28 : decode cX7_fingerprint 28 = .ok (.lload_n 1, 1) := by decide +kernel
theorem dX7_fingerprint_29 : decode cX7_fingerprint 29 = .ok (.aload_n 0, 1) := by decide +kernel
theorem dX7_fingerprint_30 : decode cX7_fingerprint 30 = .ok (.getfield 19, 3) := by decide +kernel
theorem dX7_fingerprint_33 : decode cX7_fingerprint 33 = .ok (.getfield 153, 3) := by decide +kernel
theorem dX7_fingerprint_36 : decode cX7_fingerprint 36 = .ok (.invokestatic 211, 3) := by decide +kernel
theorem dX7_fingerprint_39 : decode cX7_fingerprint 39 = .ok (.lstore_n 1, 1) := by decide +kernel
theorem dX7_fingerprint_40 : decode cX7_fingerprint 40 = .ok (.lload_n 1, 1) := by decide +kernel
theorem dX7_fingerprint_41 : decode cX7_fingerprint 41 = .ok (.aload_n 0, 1) := by decide +kernel
theorem dX7_fingerprint_42 : decode cX7_fingerprint 42 = .ok (.getfield 19, 3) := by decide +kernel
theorem dX7_fingerprint_45 : decode cX7_fingerprint 45 = .ok (.getfield 96, 3) := by decide +kernel
theorem dX7_fingerprint_48 : decode cX7_fingerprint 48 = .ok (.getfield 100, 3) := by decide +kernel
theorem dX7_fingerprint_51 : decode cX7_fingerprint 51 = .ok (.invokestatic 211, 3) := by decide +kernel
theorem dX7_fingerprint_54 : decode cX7_fingerprint 54 = .ok (.lstore_n 1, 1) := by decide +kernel
theorem dX7_fingerprint_55 : decode cX7_fingerprint 55 = .ok (.lload_n 1, 1) := by decide +kernel
theorem dX7_fingerprint_56 : decode cX7_fingerprint 56 = .ok (.aload_n 0, 1) := by decide +kernel
theorem dX7_fingerprint_57 : decode cX7_fingerprint 57 = .ok (.getfield 19, 3) := by decide +kernel
theorem dX7_fingerprint_60 : decode cX7_fingerprint 60 = .ok (.getfield 194, 3) := by decide +kernel
theorem dX7_fingerprint_63 : decode cX7_fingerprint 63 = .ok (.getfield 198, 3) := by decide +kernel
theorem dX7_fingerprint_66 : decode cX7_fingerprint 66 = .ok (.invokestatic 211, 3) := by decide +kernel
theorem dX7_fingerprint_69 : decode cX7_fingerprint 69 = .ok (.lstore_n 1, 1) := by decide +kernel
theorem dX7_fingerprint_70 : decode cX7_fingerprint 70 = .ok (.iconst 1, 1) := by decide +kernel
theorem dX7_fingerprint_71 : decode cX7_fingerprint 71 = .ok (.istore_n 3, 1) := by decide +kernel
theorem dX7_fingerprint_72 : decode cX7_fingerprint 72 = .ok (.iload_n 3, 1) := by decide +kernel
theorem dX7_fingerprint_73 : decode cX7_fingerprint 73 = .ok (.aload_n 0, 1) := by decide +kernel
theorem dX7_fingerprint_74 : decode cX7_fingerprint 74 = .ok (.getfield 19, 3) := by decide +kernel
theorem dX7_fingerprint_77 : decode cX7_fingerprint 77 = .ok (.getfield 96, 3) := by decide +kernel
theorem dX7_fingerprint_80 : decode cX7_fingerprint 80 = .ok (.getfield 100, 3) := by decide +kernel
theorem dX7_fingerprint_83 : decode cX7_fingerprint 83 = .ok (.if_icmp .gt 43, 3) := by decide +kernel
theorem dX7_fingerprint_86 : decode cX7_fingerprint 86 = .ok (.iconst 0, 1) := by decide +kernel
theorem dX7_fingerprint_87 : decode cX7_fingerprint 87 = .ok (.istore 4, 2) := by decide +kernel
theorem dX7_fingerprint_89 : decode cX7_fingerprint 89 = .ok (.iload 4, 2) := by decide +kernel
theorem dX7_fingerprint_91 : decode cX7_fingerprint 91 = .ok (.bipush 8, 2) := by decide +kernel
theorem dX7_fingerprint_93 : decode cX7_fingerprint 93 = .ok (.if_icmp .ge 27, 3) := by decide +kernel
theorem dX7_fingerprint_96 : decode cX7_fingerprint 96 = .ok (.lload_n 1, 1) := by decide +kernel
theorem dX7_fingerprint_97 : decode cX7_fingerprint 97 = .ok (.aload_n 0, 1) := by decide +kernel
theorem dX7_fingerprint_98 : decode cX7_fingerprint 98 = .ok (.getfield 19, 3) := by decide +kernel
theorem dX7_fingerprint_101 : decode cX7_fingerprint 101 = .ok (.getfield 96, 3) := by decide +kernel
theorem dX7_fingerprint_104 : decode cX7_fingerprint 104 = .ok (.iload_n 3, 1) := by decide +kernel
theorem dX7_fingerprint_105 : decode cX7_fingerprint 105 = .ok (.iload 4, 2) := by decide +kernel
theorem dX7_fingerprint_107 : decode cX7_fingerprint 107 = .ok (.invokevirtual 185, 3) := by decide +kernel
theorem dX7_fingerprint_110 : decode cX7_fingerprint 110 = .ok (.invokestatic 211, 3) := by decide +kernel
theorem dX7_fingerprint_113 : decode cX7_fingerprint 113 = .ok (.lstore_n 1, 1) := by decide +kernel
theorem dX7_fingerprint_114 : decode cX7_fingerprint 114 = .ok (.iinc 4 1, 3) := by decide +kernel
theorem dX7_fingerprint_117 : decode cX7_fingerprint 117 = .ok (.goto (-28), 3) := by decide +kernel
theorem dX7_fingerprint_120 : decode cX7_fingerprint 120 = .ok (.iinc 3 1, 3) := by decide +kernel
theorem dX7_fingerprint_123 : decode cX7_fingerprint 123 = .ok (.goto (-51), 3) := by decide +kernel
theorem dX7_fingerprint_126 : decode cX7_fingerprint 126 = .ok (.lload_n 1, 1) := by decide +kernel
theorem dX7_fingerprint_127 : decode cX7_fingerprint 127 = .ok (.aload_n 0, 1) := by decide +kernel
theorem dX7_fingerprint_128 : decode cX7_fingerprint 128 = .ok (.getfield 19, 3) := by decide +kernel
theorem dX7_fingerprint_131 : decode cX7_fingerprint 131 = .ok (.getfield 47, 3) := by decide +kernel
theorem dX7_fingerprint_134 : decode cX7_fingerprint 134 = .ok (.invokestatic 211, 3) := by decide +kernel
theorem dX7_fingerprint_137 : decode cX7_fingerprint 137 = .ok (.lstore_n 1, 1) := by decide +kernel
theorem dX7_fingerprint_138 : decode cX7_fingerprint 138 = .ok (.iconst 0, 1) := by decide +kernel
theorem dX7_fingerprint_139 : decode cX7_fingerprint 139 = .ok (.istore_n 3, 1) := by decide +kernel
theorem dX7_fingerprint_140 : decode cX7_fingerprint 140 = .ok (.iload_n 3, 1) := by decide +kernel
theorem dX7_fingerprint_141 : decode cX7_fingerprint 141 = .ok (.aload_n 0, 1) := by decide +kernel
theorem dX7_fingerprint_142 : decode cX7_fingerprint 142 = .ok (.getfield 19, 3) := by decide +kernel
theorem dX7_fingerprint_145 : decode cX7_fingerprint 145 = .ok (.getfield 47, 3) := by decide +kernel
theorem dX7_fingerprint_148 : decode cX7_fingerprint 148 = .ok (.if_icmp .ge 40, 3) := by decide +kernel
theorem dX7_fingerprint_151 : decode cX7_fingerprint 151 = .ok (.iconst 0, 1) := by decide +kernel
theorem dX7_fingerprint_152 : decode cX7_fingerprint 152 = .ok (.istore 4, 2) := by decide +kernel
theorem dX7_fingerprint_154 : decode cX7_fingerprint 154 = .ok (.iload 4, 2) := by decide +kernel
theorem dX7_fingerprint_156 : decode cX7_fingerprint 156 = .ok (.bipush 6, 2) := by decide +kernel
theorem dX7_fingerprint_158 : decode cX7_fingerprint 158 = .ok (.if_icmp .ge 24, 3) := by decide +kernel
theorem dX7_fingerprint_161 : decode cX7_fingerprint 161 = .ok (.lload_n 1, 1) := by decide +kernel
theorem dX7_fingerprint_162 : decode cX7_fingerprint 162 = .ok (.aload_n 0, 1) := by decide +kernel
theorem dX7_fingerprint_163 : decode cX7_fingerprint 163 = .ok (.getfield 19, 3) := by decide +kernel
theorem dX7_fingerprint_166 : decode cX7_fingerprint 166 = .ok (.iload_n 3, 1) := by decide +kernel
theorem dX7_fingerprint_167 : decode cX7_fingerprint 167 = .ok (.iload 4, 2) := by decide +kernel
theorem dX7_fingerprint_169 : decode cX7_fingerprint 169 = .ok (.invokevirtual 191, 3) := by decide +kernel
theorem dX7_fingerprint_172 : decode cX7_fingerprint 172 = .ok (.invokestatic 211, 3) := by decide +kernel
theorem dX7_fingerprint_175 : decode cX7_fingerprint 175 = .ok (.lstore_n 1, 1) := by decide +kernel
theorem dX7_fingerprint_176 : decode cX7_fingerprint 176 = .ok (.iinc 4 1, 3) := by decide +kernel
theorem dX7_fingerprint_179 : decode cX7_fingerprint 179 = .ok (.goto (-25), 3) := by decide +kernel
theorem dX7_fingerprint_182 : decode cX7_fingerprint 182 = .ok (.iinc 3 1, 3) := by decide +kernel
theorem dX7_fingerprint_185 : decode cX7_fingerprint 185 = .ok (.goto (-45), 3) := by decide +kernel
theorem dX7_fingerprint_188 : decode cX7_fingerprint 188 = .ok (.lload_n 1, 1) := by decide +kernel
theorem dX7_fingerprint_189 : decode cX7_fingerprint 189 = .ok (.lreturn, 1) := by decide +kernel
theorem dX7_mixed_0 : decode cX7_mixed 0 = .ok (.ldc2_w 215, 3) := by decide +kernel
theorem dX7_mixed_3 : decode cX7_mixed 3 = .ok (.lload_n 0, 1) := by decide +kernel
theorem dX7_mixed_4 : decode cX7_mixed 4 = .ok (.lmul, 1) := by decide +kernel
theorem dX7_mixed_5 : decode cX7_mixed 5 = .ok (.iload_n 2, 1) := by decide +kernel
theorem dX7_mixed_6 : decode cX7_mixed 6 = .ok (.i2l, 1) := by decide +kernel
theorem dX7_mixed_7 : decode cX7_mixed 7 = .ok (.ladd, 1) := by decide +kernel
theorem dX7_mixed_8 : decode cX7_mixed 8 = .ok (.lreturn, 1) := by decide +kernel
theorem dX7_only_0 : decode cX7_only 0 = .ok (.iconst 1, 1) := by decide +kernel
theorem dX7_only_1 : decode cX7_only 1 = .ok (.iload_n 0, 1) := by decide +kernel
theorem dX7_only_2 : decode cX7_only 2 = .ok (.ishl, 1) := by decide +kernel
theorem dX7_only_3 : decode cX7_only 3 = .ok (.ireturn, 1) := by decide +kernel
theorem dX7_has_0 : decode cX7_has 0 = .ok (.iload_n 0, 1) := by decide +kernel
theorem dX7_has_1 : decode cX7_has 1 = .ok (.iload_n 1, 1) := by decide +kernel
theorem dX7_has_2 : decode cX7_has 2 = .ok (.ishr, 1) := by decide +kernel
theorem dX7_has_3 : decode cX7_has 3 = .ok (.iconst 1, 1) := by decide +kernel
theorem dX7_has_4 : decode cX7_has 4 = .ok (.iand, 1) := by decide +kernel
theorem dX7_has_5 : decode cX7_has 5 = .ok (.iconst 1, 1) := by decide +kernel
theorem dX7_has_6 : decode cX7_has 6 = .ok (.if_icmp .ne 7, 3) := by decide +kernel
theorem dX7_has_9 : decode cX7_has 9 = .ok (.iconst 1, 1) := by decide +kernel
theorem dX7_has_10 : decode cX7_has 10 = .ok (.goto 4, 3) := by decide +kernel
theorem dX7_has_13 : decode cX7_has 13 = .ok (.iconst 0, 1) := by decide +kernel
theorem dX7_has_14 : decode cX7_has 14 = .ok (.ireturn, 1) := by decide +kernel
theorem dX7_asNumber_0 : decode cX7_asNumber 0 = .ok (.iload_n 0, 1) := by decide +kernel
theorem dX7_asNumber_1 : decode cX7_asNumber 1 = .ok (.ifCond .eq 7, 3) := by decide +kernel
theorem dX7_asNumber_4 : decode cX7_asNumber 4 = .ok (.iconst 1, 1) := by decide +kernel
theorem dX7_asNumber_5 : decode cX7_asNumber 5 = .ok (.goto 4, 3) := by decide +kernel
theorem dX7_asNumber_8 : decode cX7_asNumber 8 = .ok (.iconst 0, 1) := by decide +kernel
theorem dX7_asNumber_9 : decode cX7_asNumber 9 = .ok (.ireturn, 1) := by decide +kernel
theorem dX8_init_0 : decode cX8_init 0 = .ok (.aload_n 0, 1) := by decide +kernel
theorem dX8_init_1 : decode cX8_init 1 = .ok (.invokespecial 1, 3) := by decide +kernel
theorem dX8_init_4 : decode cX8_init 4 = .ok (.aload_n 0, 1) := by decide +kernel
theorem dX8_init_5 : decode cX8_init 5 = .ok (.sipush 1100, 3) := by decide +kernel
theorem dX8_init_8 : decode cX8_init 8 = .ok (.newarray .int, 2) := by decide +kernel
theorem dX8_init_10 : decode cX8_init 10 = .ok (.putfield 7, 3) := by decide +kernel
theorem dX8_init_13 : decode cX8_init 13 = .ok (.aload_n 0, 1) := by decide +kernel
theorem dX8_init_14 : decode cX8_init 14 = .ok (.sipush 5500, 3) := by decide +kernel
theorem dX8_init_17 : decode cX8_init 17 = .ok (.newarray .int, 2) := by decide +kernel
theorem dX8_init_19 : decode cX8_init 19 = .ok (.putfield 13, 3) := by decide +kernel
theorem dX8_init_22 : decode cX8_init 22 = .ok (.aload_n 0, 1) := by decide +kernel
theorem dX8_init_23 : decode cX8_init 23 = .ok (.bipush 40, 2) := by decide +kernel
theorem dX8_init_25 : decode cX8_init 25 = .ok (.newarray .int, 2) := by decide +kernel
theorem dX8_init_27 : decode cX8_init 27 = .ok (.putfield 16, 3) := by decide +kernel
theorem dX8_init_30 : decode cX8_init 30 = .ok (.aload_n 0, 1) := by decide +kernel
theorem dX8_init_31 : decode cX8_init 31 = .ok (.getfield 7, 3) := by decide +kernel
theorem dX8_init_34 : decode cX8_init 34 = .ok (.iconst 0, 1) := by decide +kernel
theorem dX8_init_35 : decode cX8_init 35 = .ok (.bipush 100, 2) := by decide +kernel
theorem dX8_init_37 : decode cX8_init 37 = .ok (.iastore, 1) := by decide +kernel
theorem dX8_init_38 : decode cX8_init 38 = .ok (.aload_n 0, 1) := by decide +kernel
theorem dX8_init_39 : decode cX8_init 39 = .ok (.getfield 7, 3) := by decide +kernel
theorem dX8_init_42 : decode cX8_init 42 = .ok (.iconst 1, 1) := by decide +kernel
theorem dX8_init_43 : decode cX8_init 43 = .ok (.iconst 2, 1) := by decide +kernel
theorem dX8_init_44 : decode cX8_init 44 = .ok (.iastore, 1) := by decide +kernel
theorem dX8_init_45 : decode cX8_init 45 = .ok (.aload_n 0, 1) := by decide +kernel
theorem dX8_init_46 : decode cX8_init 46 = .ok (.getfield 7, 3) := by decide +kernel
theorem dX8_init_49 : decode cX8_init 49 = .ok (.iconst 2, 1) := by decide +kernel
theorem dX8_init_50 : decode cX8_init 50 = .ok (.iconst 1, 1) := by decide +kernel
theorem dX8_init_51 : decode cX8_init 51 = .ok (.iastore, 1) := by decide +kernel
theorem dX8_init_52 : decode cX8_init 52 = .ok (.aload_n 0, 1) := by decide +kernel
theorem dX8_init_53 : decode cX8_init 53 = .ok (.getfield 7, 3) := by decide +kernel
theorem dX8_init_56 : decode cX8_init 56 = .ok (.iconst 3, 1) := by decide +kernel
theorem dX8_init_57 : decode cX8_init 57 = .ok (.bipush 50, 2) := by decide +kernel
theorem dX8_init_59 : decode cX8_init 59 = .ok (.iastore, 1) := by decide +kernel
theorem dX8_init_60 : decode cX8_init 60 = .ok (.aload_n 0, 1) := by decide +kernel
theorem dX8_init_61 : decode cX8_init 61 = .ok (.getfield 7, 3) := by decide +kernel
theorem dX8_init_64 : decode cX8_init 64 = .ok (.iconst 4, 1) := by decide +kernel
theorem dX8_init_65 : decode cX8_init 65 = .ok (.bipush 50, 2) := by decide +kernel
theorem dX8_init_67 : decode cX8_init 67 = .ok (.iastore, 1) := by decide +kernel
theorem dX8_init_68 : decode cX8_init 68 = .ok (.aload_n 0, 1) := by decide +kernel
theorem dX8_init_69 : decode cX8_init 69 = .ok (.getfield 7, 3) := by decide +kernel
theorem dX8_init_72 : decode cX8_init 72 = .ok (.iconst 5, 1) := by decide +kernel
theorem dX8_init_73 : decode cX8_init 73 = .ok (.iconst 3, 1) := by decide +kernel
theorem dX8_init_74 : decode cX8_init 74 = .ok (.iastore, 1) := by decide +kernel
theorem dX8_init_75 : decode cX8_init 75 = .ok (.aload_n 0, 1) := by decide +kernel
theorem dX8_init_76 : decode cX8_init 76 = .ok (.getfield 7, 3) := by decide +kernel
theorem dX8_init_79 : decode cX8_init 79 = .ok (.bipush 8, 2) := by decide +kernel
theorem dX8_init_81 : decode cX8_init 81 = .ok (.bipush (-9), 2) := by decide +kernel
theorem dX8_init_83 : decode cX8_init 83 = .ok (.iastore, 1) := by decide +kernel
theorem dX8_init_84 : decode cX8_init 84 = .ok (.return_, 1) := by decide +kernel
theorem dX8_in_0 : decode cX8_in 0 = .ok (.iload_n 0, 1) := by decide +kernel
theorem dX8_in_1 : decode cX8_in 1 = .ok (.iload_n 1, 1) := by decide +kernel
theorem dX8_in_2 : decode cX8_in 2 = .ok (.if_icmp .lt 12, 3) := by decide +kernel
theorem dX8_in_5 : decode cX8_in 5 = .ok (.iload_n 0, 1) := by decide +kernel
theorem dX8_in_6 : decode cX8_in 6 = .ok (.iload_n 2, 1) := by decide +kernel
theorem dX8_in_7 : decode cX8_in 7 = .ok (.if_icmp .gt 7, 3) := by decide +kernel
theorem dX8_in_10 : decode cX8_in 10 = .ok (.iconst 1, 1) := by decide +kernel
theorem dX8_in_11 : decode cX8_in 11 = .ok (.goto 4, 3) := by decide +kernel
theorem dX8_in_14 : decode cX8_in 14 = .ok (.iconst 0, 1) := by decide +kernel
theorem dX8_in_15 : decode cX8_in 15 = .ok (.ireturn, 1) := by decide +kernel
theorem dX8_act_0 : decode cX8_act 0 = .ok (.aload_n 0, 1) := by decide +kernel
theorem dX8_act_1 : decode cX8_act 1 = .ok (.getfield 19, 3) := by decide +kernel
theorem dX8_act_4 : decode cX8_act 4 = .ok (.iconst 5, 1) := by decide +kernel
theorem dX8_act_5 : decode cX8_act 5 = .ok (.if_icmp .ne 44, 3) := by decide +kernel
theorem dX8_act_8 : decode cX8_act 8 = .ok (.iconst 0, 1) := by decide +kernel
theorem dX8_act_9 : decode cX8_act 9 = .ok (.istore_n 1, 1) := by decide +kernel
theorem dX8_act_10 : decode cX8_act 10 = .ok (.iload_n 1, 1) := by decide +kernel
theorem dX8_act_11 : decode cX8_act 11 = .ok (.sipush 4400, 3) := by decide +kernel
theorem dX8_act_14 : decode cX8_act 14 = .ok (.if_icmp .ge 25, 3) := by decide +kernel
theorem dX8_act_17 : decode cX8_act 17 = .ok (.aload_n 0, 1) := by decide +kernel
theorem dX8_act_18 : decode cX8_act 18 = .ok (.getfield 13, 3) := by decide +kernel
theorem dX8_act_21 : decode cX8_act 21 = .ok (.iload_n 1, 1) := by decide +kernel
theorem dX8_act_22 : decode cX8_act 22 = .ok (.aload_n 0, 1) := by decide +kernel
theorem dX8_act_23 : decode cX8_act 23 = .ok (.getfield 13, 3) := by decide +kernel
theorem dX8_act_26 : decode cX8_act 26 = .ok (.iload_n 1, 1) := by decide +kernel
theorem dX8_act_27 : decode cX8_act 27 = .ok (.sipush 1100, 3) := by decide +kernel
theorem dX8_act_30 : decode cX8_act 30 = .ok (.iadd, 1) := by decide +kernel
theorem dX8_act_31 : decode cX8_act 31 = .ok (.iaload, 1) := by decide +kernel
theorem dX8_act_32 : decode cX8_act 32 = .ok (.iastore, 1) := by decide +kernel
theorem dX8_act_33 : decode cX8_act 33 = .ok (.iinc 1 1, 3) := by decide +kernel
theorem dX8_act_36 : decode cX8_act 36 = .ok (.goto (-26), 3) := by decide +kernel
theorem dX8_act_39 : decode cX8_act 39 = .ok (.aload_n 0, 1) := by decide +kernel
theorem dX8_act_40 : decode cX8_act 40 = .ok (.dup, 1) := by decide +kernel
theorem dX8_act_41 : decode cX8_act 41 = .ok (.getfield 19, 3) := by decide +kernel
theorem dX8_act_44 : decode cX8_act 44 = .ok (.iconst 1, 1) := by decide +kernel
theorem dX8_act_45 : decode cX8_act 45 = .ok (.isub, 1) := by decide +kernel
theorem dX8_act_46 : decode cX8_act 46 = .ok (.putfield 19, 3) := by decide +kernel
theorem dX8_act_49 : decode cX8_act 49 = .ok (.iconst 0, 1) := by decide +kernel
theorem dX8_act_50 : decode cX8_act 50 = .ok (.istore_n 1, 1) := by decide +kernel
theorem dX8_act_51 : decode cX8_act 51 = .ok (.iload_n 1, 1) := by decide +kernel
theorem dX8_act_52 : decode cX8_act 52 = .ok (.sipush 1100, 3) := by decide +kernel
theorem dX8_act_55 : decode cX8_act 55 = .ok (.if_icmp .ge 30, 3) := by decide +kernel
theorem dX8_act_58 : decode cX8_act 58 = .ok (.aload_n 0, 1) := by decide +kernel
theorem dX8_act_59 : decode cX8_act 59 = .ok (.getfield 13, 3) := by decide +kernel
theorem dX8_act_62 : decode cX8_act 62 = .ok (.sipush 1100, 3) := by decide +kernel
theorem dX8_act_65 : decode cX8_act 65 = .ok (.aload_n 0, 1) := by decide +kernel
theorem dX8_act_66 : decode cX8_act 66 = .ok (.getfield 19, 3) := by decide +kernel
theorem dX8_act_69 : decode cX8_act 69 = .ok (.imul, 1) := by decide +kernel
theorem dX8_act_70 : decode cX8_act 70 = .ok (.iload_n 1, 1) := by decide +kernel
theorem dX8_act_71 : decode cX8_act 71 = .ok (.iadd, 1) := by decide +kernel
theorem dX8_act_72 : decode cX8_act 72 = .ok (.aload_n 0, 1) := by decide +kernel
theorem dX8_act_73 : decode cX8_act 73 = .ok (.getfield 7, 3) := by decide +kernel
theorem dX8_act_76 : decode cX8_act 76 = .ok (.iload_n 1, 1) := by decide +kernel
theorem dX8_act_77 : decode cX8_act 77 = .ok (.iaload, 1) := by decide +kernel
theorem dX8_act_78 : decode cX8_act 78 = .ok (.iastore, 1) := by decide +kernel
theorem dX8_act_79 : decode cX8_act 79 = .ok (.iinc 1 1, 3) := by decide +kernel
theorem dX8_act_82 : decode cX8_act 82 = .ok (.goto (-31), 3) := by decide +kernel
theorem dX8_act_85 : decode cX8_act 85 = .ok (.aload_n 0, 1) := by decide +kernel
theorem dX8_act_86 : decode cX8_act 86 = .ok (.dup, 1) := by decide +kernel
theorem dX8_act_87 : decode cX8_act 87 = .ok (.getfield 19, 3) := by decide +kernel
theorem dX8_act_90 : decode cX8_act 90 = .ok (.iconst 1, 1) := by decide +kernel
theorem dX8_act_91 : decode cX8_act 91 = .ok (.iadd, 1) := by decide +kernel
theorem dX8_act_92 : decode cX8_act 92 = .ok (.putfield 19, 3) := by decide +kernel
theorem dX8_act_95 : decode cX8_act 95 = .ok (.return_, 1) := by decide +kernel
theorem dX8_isMember_0 : decode cX8_isMember 0 = .ok (.iload_n 1, 1) := by decide +kernel
theorem dX8_isMember_1 : decode cX8_isMember 1 = .ok (.iconst 0, 1) := by decide +kernel
theorem dX8_isMember_2 : decode cX8_isMember 2 = .ok (.aload_n 0, 1) := by decide +kernel
theorem dX8_isMember_3 : decode cX8_isMember 3 = .ok (.getfield 7, 3) := by decide +kernel
theorem dX8_isMember_6 : decode cX8_isMember 6 = .ok (.bipush 10, 2) := by decide +kernel
theorem dX8_isMember_8 : decode cX8_isMember 8 = .ok (.iaload, 1) := by decide +kernel
theorem dX8_isMember_9 : decode cX8_isMember 9 = .ok (.iconst 1, 1) := by decide +kernel
theorem dX8_isMember_10 : decode cX8_isMember 10 = .ok (.isub, 1) := by decide +kernel
theorem dX8_isMember_11 : decode cX8_isMember 11 = .ok (.invokestatic 23, 3) := by decide +kernel
theorem dX8_isMember_14 : decode cX8_isMember 14 = .ok (.ireturn, 1) := by decide +kernel
theorem dX8_isTerm_0 : decode cX8_isTerm 0 = .ok (.iload_n 1, 1) := by decide +kernel
theorem dX8_isTerm_1 : decode cX8_isTerm 1 = .ok (.iconst 1, 1) := by decide +kernel
theorem dX8_isTerm_2 : decode cX8_isTerm 2 = .ok (.aload_n 0, 1) := by decide +kernel
theorem dX8_isTerm_3 : decode cX8_isTerm 3 = .ok (.getfield 7, 3) := by decide +kernel
theorem dX8_isTerm_6 : decode cX8_isTerm 6 = .ok (.bipush 9, 2) := by decide +kernel
theorem dX8_isTerm_8 : decode cX8_isTerm 8 = .ok (.iaload, 1) := by decide +kernel
theorem dX8_isTerm_9 : decode cX8_isTerm 9 = .ok (.invokestatic 23, 3) := by decide +kernel
theorem dX8_isTerm_12 : decode cX8_isTerm 12 = .ok (.ireturn, 1) := by decide +kernel
theorem dX8_at_0 : decode cX8_at 0 = .ok (.bipush 20, 2) := by decide +kernel
theorem dX8_at_2 : decode cX8_at 2 = .ok (.bipush 15, 2) := by decide +kernel
theorem dX8_at_4 : decode cX8_at 4 = .ok (.iload_n 0, 1) := by decide +kernel
theorem dX8_at_5 : decode cX8_at 5 = .ok (.imul, 1) := by decide +kernel
theorem dX8_at_6 : decode cX8_at 6 = .ok (.iadd, 1) := by decide +kernel
theorem dX8_at_7 : decode cX8_at 7 = .ok (.iload_n 1, 1) := by decide +kernel
theorem dX8_at_8 : decode cX8_at 8 = .ok (.iadd, 1) := by decide +kernel
theorem dX8_at_9 : decode cX8_at 9 = .ok (.ireturn, 1) := by decide +kernel
theorem dX8_of_0 : decode cX8_of 0 = .ok (.sipush 170, 3) := by decide +kernel
theorem dX8_of_3 : decode cX8_of 3 = .ok (.bipush 18, 2) := by decide +kernel
theorem dX8_of_5 : decode cX8_of 5 = .ok (.iload_n 0, 1) := by decide +kernel
theorem dX8_of_6 : decode cX8_of 6 = .ok (.iconst 1, 1) := by decide +kernel
theorem dX8_of_7 : decode cX8_of 7 = .ok (.isub, 1) := by decide +kernel
theorem dX8_of_8 : decode cX8_of 8 = .ok (.imul, 1) := by decide +kernel
theorem dX8_of_9 : decode cX8_of 9 = .ok (.iadd, 1) := by decide +kernel
theorem dX8_of_10 : decode cX8_of 10 = .ok (.iload_n 1, 1) := by decide +kernel
theorem dX8_of_11 : decode cX8_of 11 = .ok (.iadd, 1) := by decide +kernel
theorem dX8_of_12 : decode cX8_of 12 = .ok (.ireturn, 1) := by decide +kernel
theorem dX8_isPresent_0 : decode cX8_isPresent 0 = .ok (.aload_n 0, 1) := by decide +kernel
theorem dX8_isPresent_1 : decode cX8_isPresent 1 = .ok (.getfield 7, 3) := by decide +kernel
theorem dX8_isPresent_4 : decode cX8_isPresent 4 = .ok (.iload_n 1, 1) := by decide +kernel
theorem dX8_isPresent_5 : decode cX8_isPresent 5 = .ok (.iconst 1, 1) := by decide +kernel
theorem dX8_isPresent_6 : decode cX8_isPresent 6 = .ok (.invokestatic 27, 3) := by decide +kernel
theorem dX8_isPresent_9 : decode cX8_isPresent 9 = .ok (.iaload, 1) := by decide +kernel
theorem dX8_isPresent_10 : decode cX8_isPresent 10 = .ok (.iconst 1, 1) := by decide +kernel
theorem dX8_isPresent_11 : decode cX8_isPresent 11 = .ok (.if_icmp .ne 7, 3) := by decide +kernel
theorem dX8_isPresent_14 : decode cX8_isPresent 14 = .ok (.iconst 1, 1) := by decide +kernel
theorem dX8_isPresent_15 : decode cX8_isPresent 15 = .ok (.goto 4, 3) := by decide +kernel
theorem dX8_isPresent_18 : decode cX8_isPresent 18 = .ok (.iconst 0, 1) := by decide +kernel
theorem dX8_isPresent_19 : decode cX8_isPresent 19 = .ok (.ireturn, 1) := by decide +kernel
theorem dX8_grades_0 : decode cX8_grades 0 = .ok (.iconst 0, 1) := by decide +kernel
theorem dX8_grades_1 : decode cX8_grades 1 = .ok (.istore_n 2, 1) := by decide +kernel
theorem dX8_grades_2 : decode cX8_grades 2 = .ok (.iconst 0, 1) := by decide +kernel
theorem dX8_grades_3 : decode cX8_grades 3 = .ok (.istore_n 3, 1) := by decide +kernel
theorem dX8_grades_4 : decode cX8_grades 4 = .ok (.iload_n 3, 1) := by decide +kernel
theorem dX8_grades_5 : decode cX8_grades 5 = .ok (.bipush 10, 2) := by decide +kernel
theorem dX8_grades_7 : decode cX8_grades 7 = .ok (.if_icmp .ge 27, 3) := by decide +kernel
theorem dX8_grades_10 : decode cX8_grades 10 = .ok (.iload_n 2, 1) := by decide +kernel
theorem dX8_grades_11 : decode cX8_grades 11 = .ok (.aload_n 0, 1) := by decide +kernel
theorem dX8_grades_12 : decode cX8_grades 12 = .ok (.getfield 7, 3) := by decide +kernel
theorem dX8_grades_15 : decode cX8_grades 15 = .ok (.iload_n 1, 1) := by decide +kernel
theorem dX8_grades_16 : decode cX8_grades 16 = .ok (.bipush 7, 2) := by decide +kernel
theorem dX8_grades_18 : decode cX8_grades 18 = .ok (.invokestatic 31, 3) := by decide +kernel
theorem dX8_grades_21 : decode cX8_grades 21 = .ok (.iaload, 1) := by decide +kernel
theorem dX8_grades_22 : decode cX8_grades 22 = .ok (.iload_n 3, 1) := by decide +kernel
theorem dX8_grades_23 : decode cX8_grades 23 = .ok (.ishr, 1) := by decide +kernel
theorem dX8_grades_24 : decode cX8_grades 24 = .ok (.iconst 1, 1) := by decide +kernel
theorem dX8_grades_25 : decode cX8_grades 25 = .ok (.iand, 1) := by decide +kernel
theorem dX8_grades_26 : decode cX8_grades 26 = .ok (.iadd, 1) := by decide +kernel
theorem dX8_grades_27 : decode cX8_grades 27 = .ok (.istore_n 2, 1) := by decide +kernel
theorem dX8_grades_28 : decode cX8_grades 28 = .ok (.iinc 3 1, 3) := by decide +kernel
theorem dX8_grades_31 : decode cX8_grades 31 = .ok (.goto (-27), 3) := by decide +kernel
theorem dX8_grades_34 : decode cX8_grades 34 = .ok (.iload_n 2, 1) := by decide +kernel
theorem dX8_grades_35 : decode cX8_grades 35 = .ok (.ireturn, 1) := by decide +kernel
theorem dX8_scoreOf_0 : decode cX8_scoreOf 0 = .ok (.aload_n 0, 1) := by decide +kernel
theorem dX8_scoreOf_1 : decode cX8_scoreOf 1 = .ok (.iload_n 1, 1) := by decide +kernel
theorem dX8_scoreOf_2 : decode cX8_scoreOf 2 = .ok (.invokevirtual 34, 3) := by decide +kernel
theorem dX8_scoreOf_5 : decode cX8_scoreOf 5 = .ok (.istore_n 2, 1) := by decide +kernel
theorem dX8_scoreOf_6 : decode cX8_scoreOf 6 = .ok (.iconst 0, 1) := by decide +kernel
theorem dX8_scoreOf_7 : decode cX8_scoreOf 7 = .ok (.istore_n 3, 1) := by decide +kernel
theorem dX8_scoreOf_8 : decode cX8_scoreOf 8 = .ok (.iconst 0, 1) := by decide +kernel
theorem dX8_scoreOf_9 : decode cX8_scoreOf 9 = .ok (.istore 4, 2) := by decide +kernel
theorem dX8_scoreOf_11 : decode cX8_scoreOf 11 = .ok (.iload 4, 2) := by decide +kernel
theorem dX8_scoreOf_13 : decode cX8_scoreOf 13 = .ok (.bipush 10, 2) := by decide +kernel
theorem dX8_scoreOf_15 : decode cX8_scoreOf 15 = .ok (.if_icmp .ge 50, 3) := by decide +kernel
theorem dX8_scoreOf_18 : decode cX8_scoreOf 18 = .ok (.iload_n 3, 1) := by decide +kernel
theorem dX8_scoreOf_19 : decode cX8_scoreOf 19 = .ok (.aload_n 0, 1) := by decide +kernel
theorem dX8_scoreOf_20 : decode cX8_scoreOf 20 = .ok (.getfield 7, 3) := by decide +kernel
theorem dX8_scoreOf_23 : decode cX8_scoreOf 23 = .ok (.iload_n 1, 1) := by decide +kernel
theorem dX8_scoreOf_24 : decode cX8_scoreOf 24 = .ok (.bipush 7, 2) := by decide +kernel
theorem dX8_scoreOf_26 : decode cX8_scoreOf 26 = .ok (.invokestatic 31, 3) := by decide +kernel
theorem dX8_scoreOf_29 : decode cX8_scoreOf 29 = .ok (.iaload, 1) := by decide +kernel
theorem dX8_scoreOf_30 : decode cX8_scoreOf 30 = .ok (.iload 4, 2) := by decide +kernel
theorem dX8_scoreOf_32 : decode cX8_scoreOf 32 = .ok (.ishr, 1) := by decide +kernel
theorem dX8_scoreOf_33 : decode cX8_scoreOf 33 = .ok (.iconst 1, 1) := by decide +kernel
theorem dX8_scoreOf_34 : decode cX8_scoreOf 34 = .ok (.iand, 1) := by decide +kernel
theorem dX8_scoreOf_35 : decode cX8_scoreOf 35 = .ok (.iconst 1, 1) := by decide +kernel
theorem dX8_scoreOf_36 : decode cX8_scoreOf 36 = .ok (.if_icmp .ne 20, 3) := by decide +kernel
theorem dX8_scoreOf_39 : decode cX8_scoreOf 39 = .ok (.aload_n 0, 1) := by decide +kernel
theorem dX8_scoreOf_40 : decode cX8_scoreOf 40 = .ok (.getfield 7, 3) := by decide +kernel
theorem dX8_scoreOf_43 : decode cX8_scoreOf 43 = .ok (.iload_n 1, 1) := by decide +kernel
theorem dX8_scoreOf_44 : decode cX8_scoreOf 44 = .ok (.bipush 8, 2) := by decide +kernel
theorem dX8_scoreOf_46 : decode cX8_scoreOf 46 = .ok (.iload 4, 2) := by decide +kernel
theorem dX8_scoreOf_48 : decode cX8_scoreOf 48 = .ok (.iadd, 1) := by decide +kernel
theorem dX8_scoreOf_49 : decode cX8_scoreOf 49 = .ok (.invokestatic 31, 3) := by decide +kernel
theorem dX8_scoreOf_52 : decode cX8_scoreOf 52 = .ok (.iaload, 1) := by decide +kernel
theorem dX8_scoreOf_53 : decode cX8_scoreOf 53 = .ok (.goto 4, 3) := by decide +kernel
theorem dX8_scoreOf_56 : decode cX8_scoreOf 56 = .ok (.iconst 0, 1) := by decide +kernel
theorem dX8_scoreOf_57 : decode cX8_scoreOf 57 = .ok (.iadd, 1) := by decide +kernel
theorem dX8_scoreOf_58 : decode cX8_scoreOf 58 = .ok (.istore_n 3, 1) := by decide +kernel
theorem dX8_scoreOf_59 : decode cX8_scoreOf 59 = .ok (.iinc 4 1, 3) := by decide +kernel
theorem dX8_scoreOf_62 : decode cX8_scoreOf 62 = .ok (.goto (-51), 3) := by decide +kernel
theorem dX8_scoreOf_65 : decode cX8_scoreOf 65 = .ok (.iload_n 2, 1) := by decide +kernel
theorem dX8_scoreOf_66 : decode cX8_scoreOf 66 = .ok (.ifCond .ne 8, 3) := by decide +kernel
theorem dX8_scoreOf_69 : decode cX8_scoreOf 69 = .ok (.bipush 50, 2) := by decide +kernel
theorem dX8_scoreOf_71 : decode cX8_scoreOf 71 = .ok (.goto 9, 3) := by decide +kernel
theorem dX8_scoreOf_74 : decode cX8_scoreOf 74 = .ok (.bipush 10, 2) := by decide +kernel
theorem dX8_scoreOf_76 : decode cX8_scoreOf 76 = .ok (.iload_n 3, 1) := by decide +kernel
theorem dX8_scoreOf_77 : decode cX8_scoreOf 77 = .ok (.imul, 1) := by decide +kernel
theorem dX8_scoreOf_78 : decode cX8_scoreOf 78 = .ok (.iload_n 2, 1) := by decide +kernel
theorem dX8_scoreOf_79 : decode cX8_scoreOf 79 = .ok (.idiv, 1) := by decide +kernel
theorem dX8_scoreOf_80 : decode cX8_scoreOf 80 = .ok (.iconst 5, 1) := by decide +kernel
theorem dX8_scoreOf_81 : decode cX8_scoreOf 81 = .ok (.aload_n 0, 1) := by decide +kernel
theorem dX8_scoreOf_82 : decode cX8_scoreOf 82 = .ok (.getfield 7, 3) := by decide +kernel
theorem dX8_scoreOf_85 : decode cX8_scoreOf 85 = .ok (.iload_n 1, 1) := by decide +kernel
theorem dX8_scoreOf_86 : decode cX8_scoreOf 86 = .ok (.iconst 4, 1) := by decide +kernel
theorem dX8_scoreOf_87 : decode cX8_scoreOf 87 = .ok (.invokestatic 31, 3) := by decide +kernel
theorem dX8_scoreOf_90 : decode cX8_scoreOf 90 = .ok (.iaload, 1) := by decide +kernel
theorem dX8_scoreOf_91 : decode cX8_scoreOf 91 = .ok (.imul, 1) := by decide +kernel
theorem dX8_scoreOf_92 : decode cX8_scoreOf 92 = .ok (.iadd, 1) := by decide +kernel
theorem dX8_scoreOf_93 : decode cX8_scoreOf 93 = .ok (.bipush 25, 2) := by decide +kernel
theorem dX8_scoreOf_95 : decode cX8_scoreOf 95 = .ok (.aload_n 0, 1) := by decide +kernel
theorem dX8_scoreOf_96 : decode cX8_scoreOf 96 = .ok (.getfield 7, 3) := by decide +kernel
theorem dX8_scoreOf_99 : decode cX8_scoreOf 99 = .ok (.iload_n 1, 1) := by decide +kernel
theorem dX8_scoreOf_100 : decode cX8_scoreOf 100 = .ok (.iconst 5, 1) := by decide +kernel
theorem dX8_scoreOf_101 : decode cX8_scoreOf 101 = .ok (.invokestatic 31, 3) := by decide +kernel
theorem dX8_scoreOf_104 : decode cX8_scoreOf 104 = .ok (.iaload, 1) := by decide +kernel
theorem dX8_scoreOf_105 : decode cX8_scoreOf 105 = .ok (.imul, 1) := by decide +kernel
theorem dX8_scoreOf_106 : decode cX8_scoreOf 106 = .ok (.isub, 1) := by decide +kernel
theorem dX8_scoreOf_107 : decode cX8_scoreOf 107 = .ok (.istore 4, 2) := by decide +kernel
theorem dX8_scoreOf_109 : decode cX8_scoreOf 109 = .ok (.iload 4, 2) := by decide +kernel
theorem dX8_scoreOf_111 : decode cX8_scoreOf 111 = .ok (.ifCond .ge 7, 3) := by decide +kernel
theorem dX8_scoreOf_114 : decode cX8_scoreOf 114 = .ok (.iconst 0, 1) := by decide +kernel
theorem dX8_scoreOf_115 : decode cX8_scoreOf 115 = .ok (.goto 17, 3) := by decide +kernel
theorem dX8_scoreOf_118 : decode cX8_scoreOf 118 = .ok (.iload 4, 2) := by decide +kernel
theorem dX8_scoreOf_120 : decode cX8_scoreOf 120 = .ok (.bipush 100, 2) := by decide +kernel
theorem dX8_scoreOf_122 : decode cX8_scoreOf 122 = .ok (.if_icmp .le 8, 3) := by decide +kernel
theorem dX8_scoreOf_125 : decode cX8_scoreOf 125 = .ok (.bipush 100, 2) := by decide +kernel
theorem dX8_scoreOf_127 : decode cX8_scoreOf 127 = .ok (.goto 5, 3) := by decide +kernel
theorem dX8_scoreOf_130 : decode cX8_scoreOf 130 = .ok (.iload 4, 2) := by decide +kernel
theorem dX8_scoreOf_132 : decode cX8_scoreOf 132 = .ok (.ireturn, 1) := by decide +kernel
theorem dX8_reputation_0 : decode cX8_reputation 0 = .ok (.iconst 0, 1) := by decide +kernel
theorem dX8_reputation_1 : decode cX8_reputation 1 = .ok (.istore_n 2, 1) := by decide +kernel
theorem dX8_reputation_2 : decode cX8_reputation 2 = .ok (.iconst 0, 1) := by decide +kernel
theorem dX8_reputation_3 : decode cX8_reputation 3 = .ok (.istore_n 3, 1) := by decide +kernel
theorem dX8_reputation_4 : decode cX8_reputation 4 = .ok (.aload_n 0, 1) := by decide +kernel
theorem dX8_reputation_5 : decode cX8_reputation 5 = .ok (.getfield 7, 3) := by decide +kernel
theorem dX8_reputation_8 : decode cX8_reputation 8 = .ok (.bipush 9, 2) := by decide +kernel
theorem dX8_reputation_10 : decode cX8_reputation 10 = .ok (.iaload, 1) := by decide +kernel
theorem dX8_reputation_11 : decode cX8_reputation 11 = .ok (.istore 4, 2) := by decide +kernel
theorem dX8_reputation_13 : decode cX8_reputation 13 = .ok (.iload 4, 2) := by decide +kernel
theorem dX8_reputation_15 : decode cX8_reputation 15 = .ok (.iconst 1, 1) := by decide +kernel
theorem dX8_reputation_16 : decode cX8_reputation 16 = .ok (.if_icmp .lt 62, 3) := by decide +kernel
theorem dX8_reputation_19 : decode cX8_reputation 19 = .ok (.iload_n 2, 1) := by decide +kernel
theorem dX8_reputation_20 : decode cX8_reputation 20 = .ok (.aload_n 0, 1) := by decide +kernel
theorem dX8_reputation_21 : decode cX8_reputation 21 = .ok (.getfield 7, 3) := by decide +kernel
theorem dX8_reputation_24 : decode cX8_reputation 24 = .ok (.iconst 5, 1) := by decide +kernel
theorem dX8_reputation_25 : decode cX8_reputation 25 = .ok (.iaload, 1) := by decide +kernel
theorem dX8_reputation_26 : decode cX8_reputation 26 = .ok (.if_icmp .ge 52, 3) := by decide +kernel
theorem dX8_reputation_29 : decode cX8_reputation 29 = .ok (.aload_n 0, 1) := by decide +kernel
theorem dX8_reputation_30 : decode cX8_reputation 30 = .ok (.getfield 7, 3) := by decide +kernel
theorem dX8_reputation_33 : decode cX8_reputation 33 = .ok (.iload 4, 2) := by decide +kernel
theorem dX8_reputation_35 : decode cX8_reputation 35 = .ok (.iconst 0, 1) := by decide +kernel
theorem dX8_reputation_36 : decode cX8_reputation 36 = .ok (.invokestatic 31, 3) := by decide +kernel
theorem dX8_reputation_39 : decode cX8_reputation 39 = .ok (.iaload, 1) := by decide +kernel
theorem dX8_reputation_40 : decode cX8_reputation 40 = .ok (.iload_n 1, 1) := by decide +kernel
theorem dX8_reputation_41 : decode cX8_reputation 41 = .ok (.if_icmp .ne 31, 3) := by decide +kernel
theorem dX8_reputation_44 : decode cX8_reputation 44 = .ok (.aload_n 0, 1) := by decide +kernel
theorem dX8_reputation_45 : decode cX8_reputation 45 = .ok (.getfield 7, 3) := by decide +kernel
theorem dX8_reputation_48 : decode cX8_reputation 48 = .ok (.iload 4, 2) := by decide +kernel
theorem dX8_reputation_50 : decode cX8_reputation 50 = .ok (.iconst 3, 1) := by decide +kernel
theorem dX8_reputation_51 : decode cX8_reputation 51 = .ok (.invokestatic 31, 3) := by decide +kernel
theorem dX8_reputation_54 : decode cX8_reputation 54 = .ok (.iaload, 1) := by decide +kernel
theorem dX8_reputation_55 : decode cX8_reputation 55 = .ok (.bipush (-9), 2) := by decide +kernel
theorem dX8_reputation_57 : decode cX8_reputation 57 = .ok (.if_icmp .eq 15, 3) := by decide +kernel
theorem dX8_reputation_60 : decode cX8_reputation 60 = .ok (.iload_n 3, 1) := by decide +kernel
theorem dX8_reputation_61 : decode cX8_reputation 61 = .ok (.aload_n 0, 1) := by decide +kernel
theorem dX8_reputation_62 : decode cX8_reputation 62 = .ok (.iload 4, 2) := by decide +kernel
theorem dX8_reputation_64 : decode cX8_reputation 64 = .ok (.invokevirtual 38, 3) := by decide +kernel
theorem dX8_reputation_67 : decode cX8_reputation 67 = .ok (.iadd, 1) := by decide +kernel
theorem dX8_reputation_68 : decode cX8_reputation 68 = .ok (.istore_n 3, 1) := by decide +kernel
theorem dX8_reputation_69 : decode cX8_reputation 69 = .ok (.iinc 2 1, 3) := by decide +kernel
theorem dX8_reputation_72 : decode cX8_reputation 72 = .ok (.iinc 4 (-1), 3) := by decide +kernel
theorem dX8_reputation_75 : decode cX8_reputation 75 = .ok (.goto (-62), 3) := by decide +kernel
theorem dX8_reputation_78 : decode cX8_reputation 78 = .ok (.iload_n 2, 1) := by decide +kernel
theorem dX8_reputation_79 : decode cX8_reputation 79 = .ok (.ifCond .ne 8, 3) := by decide +kernel
theorem dX8_reputation_82 : decode cX8_reputation 82 = .ok (.bipush 50, 2) := by decide +kernel
theorem dX8_reputation_84 : decode cX8_reputation 84 = .ok (.goto 6, 3) := by decide +kernel
theorem dX8_reputation_87 : decode cX8_reputation 87 = .ok (.iload_n 3, 1) := by decide +kernel
theorem dX8_reputation_88 : decode cX8_reputation 88 = .ok (.iload_n 2, 1) := by decide +kernel
theorem dX8_reputation_89 : decode cX8_reputation 89 = .ok (.idiv, 1) := by decide +kernel
theorem dX8_reputation_90 : decode cX8_reputation 90 = .ok (.ireturn, 1) := by decide +kernel
theorem dX8_led_0 : decode cX8_led 0 = .ok (.iconst 0, 1) := by decide +kernel
theorem dX8_led_1 : decode cX8_led 1 = .ok (.istore_n 2, 1) := by decide +kernel
theorem dX8_led_2 : decode cX8_led 2 = .ok (.iconst 1, 1) := by decide +kernel
theorem dX8_led_3 : decode cX8_led 3 = .ok (.istore_n 3, 1) := by decide +kernel
theorem dX8_led_4 : decode cX8_led 4 = .ok (.iload_n 3, 1) := by decide +kernel
theorem dX8_led_5 : decode cX8_led 5 = .ok (.aload_n 0, 1) := by decide +kernel
theorem dX8_led_6 : decode cX8_led 6 = .ok (.getfield 7, 3) := by decide +kernel
theorem dX8_led_9 : decode cX8_led 9 = .ok (.bipush 9, 2) := by decide +kernel
theorem dX8_led_11 : decode cX8_led 11 = .ok (.iaload, 1) := by decide +kernel
theorem dX8_led_12 : decode cX8_led 12 = .ok (.if_icmp .gt 31, 3) := by decide +kernel
theorem dX8_led_15 : decode cX8_led 15 = .ok (.iload_n 2, 1) := by decide +kernel
theorem dX8_led_16 : decode cX8_led 16 = .ok (.aload_n 0, 1) := by decide +kernel
theorem dX8_led_17 : decode cX8_led 17 = .ok (.getfield 7, 3) := by decide +kernel
theorem dX8_led_20 : decode cX8_led 20 = .ok (.iload_n 3, 1) := by decide +kernel
theorem dX8_led_21 : decode cX8_led 21 = .ok (.iconst 0, 1) := by decide +kernel
theorem dX8_led_22 : decode cX8_led 22 = .ok (.invokestatic 31, 3) := by decide +kernel
theorem dX8_led_25 : decode cX8_led 25 = .ok (.iaload, 1) := by decide +kernel
theorem dX8_led_26 : decode cX8_led 26 = .ok (.iload_n 1, 1) := by decide +kernel
theorem dX8_led_27 : decode cX8_led 27 = .ok (.if_icmp .ne 7, 3) := by decide +kernel
theorem dX8_led_30 : decode cX8_led 30 = .ok (.iconst 1, 1) := by decide +kernel
theorem dX8_led_31 : decode cX8_led 31 = .ok (.goto 4, 3) := by decide +kernel
theorem dX8_led_34 : decode cX8_led 34 = .ok (.iconst 0, 1) := by decide +kernel
theorem dX8_led_35 : decode cX8_led 35 = .ok (.iadd, 1) := by decide +kernel
theorem dX8_led_36 : decode cX8_led 36 = .ok (.istore_n 2, 1) := by decide +kernel
theorem dX8_led_37 : decode cX8_led 37 = .ok (.iinc 3 1, 3) := by decide +kernel
theorem dX8_led_40 : decode cX8_led 40 = .ok (.goto (-36), 3) := by decide +kernel
theorem dX8_led_43 : decode cX8_led 43 = .ok (.iload_n 2, 1) := by decide +kernel
theorem dX8_led_44 : decode cX8_led 44 = .ok (.ireturn, 1) := by decide +kernel
theorem dX8_canLead_0 : decode cX8_canLead 0 = .ok (.iconst 0, 1) := by decide +kernel
theorem dX8_canLead_1 : decode cX8_canLead 1 = .ok (.istore_n 2, 1) := by decide +kernel
theorem dX8_canLead_2 : decode cX8_canLead 2 = .ok (.aload_n 0, 1) := by decide +kernel
theorem dX8_canLead_3 : decode cX8_canLead 3 = .ok (.getfield 7, 3) := by decide +kernel
theorem dX8_canLead_6 : decode cX8_canLead 6 = .ok (.bipush 9, 2) := by decide +kernel
theorem dX8_canLead_8 : decode cX8_canLead 8 = .ok (.iaload, 1) := by decide +kernel
theorem dX8_canLead_9 : decode cX8_canLead 9 = .ok (.istore_n 3, 1) := by decide +kernel
theorem dX8_canLead_10 : decode cX8_canLead 10 = .ok (.iload_n 3, 1) := by decide +kernel
theorem dX8_canLead_11 : decode cX8_canLead 11 = .ok (.iconst 1, 1) := by decide +kernel
theorem dX8_canLead_12 : decode cX8_canLead 12 = .ok (.if_icmp .lt 26, 3) := by decide +kernel
theorem dX8_canLead_15 : decode cX8_canLead 15 = .ok (.aload_n 0, 1) := by decide +kernel
theorem dX8_canLead_16 : decode cX8_canLead 16 = .ok (.getfield 7, 3) := by decide +kernel
theorem dX8_canLead_19 : decode cX8_canLead 19 = .ok (.iload_n 3, 1) := by decide +kernel
theorem dX8_canLead_20 : decode cX8_canLead 20 = .ok (.iconst 0, 1) := by decide +kernel
theorem dX8_canLead_21 : decode cX8_canLead 21 = .ok (.invokestatic 31, 3) := by decide +kernel
theorem dX8_canLead_24 : decode cX8_canLead 24 = .ok (.iaload, 1) := by decide +kernel
theorem dX8_canLead_25 : decode cX8_canLead 25 = .ok (.iload_n 1, 1) := by decide +kernel
theorem dX8_canLead_26 : decode cX8_canLead 26 = .ok (.if_icmp .ne 12, 3) := by decide +kernel
theorem dX8_canLead_29 : decode cX8_canLead 29 = .ok (.iinc 2 1, 3) := by decide +kernel
theorem dX8_canLead_32 : decode cX8_canLead 32 = .ok (.iinc 3 (-1), 3) := by decide +kernel
theorem dX8_canLead_35 : decode cX8_canLead 35 = .ok (.goto (-25), 3) := by decide +kernel
theorem dX8_canLead_38 : decode cX8_canLead 38 = .ok (.aload_n 0, 1) := by decide +kernel
theorem dX8_canLead_39 : decode cX8_canLead 39 = .ok (.iload_n 1, 1) := by decide +kernel
theorem dX8_canLead_40 : decode cX8_canLead 40 = .ok (.invokevirtual 41, 3) := by decide +kernel
theorem dX8_canLead_43 : decode cX8_canLead 43 = .ok (.ifCond .eq 31, 3) := by decide +kernel
theorem dX8_canLead_46 : decode cX8_canLead 46 = .ok (.aload_n 0, 1) := by decide +kernel
theorem dX8_canLead_47 : decode cX8_canLead 47 = .ok (.iload_n 1, 1) := by decide +kernel
theorem dX8_canLead_48 : decode cX8_canLead 48 = .ok (.invokevirtual 45, 3) := by decide +kernel
theorem dX8_canLead_51 : decode cX8_canLead 51 = .ok (.aload_n 0, 1) := by decide +kernel
theorem dX8_canLead_52 : decode cX8_canLead 52 = .ok (.getfield 7, 3) := by decide +kernel
theorem dX8_canLead_55 : decode cX8_canLead 55 = .ok (.iconst 1, 1) := by decide +kernel
theorem dX8_canLead_56 : decode cX8_canLead 56 = .ok (.iaload, 1) := by decide +kernel
theorem dX8_canLead_57 : decode cX8_canLead 57 = .ok (.if_icmp .ge 17, 3) := by decide +kernel
theorem dX8_canLead_60 : decode cX8_canLead 60 = .ok (.iload_n 2, 1) := by decide +kernel
theorem dX8_canLead_61 : decode cX8_canLead 61 = .ok (.aload_n 0, 1) := by decide +kernel
theorem dX8_canLead_62 : decode cX8_canLead 62 = .ok (.getfield 7, 3) := by decide +kernel
theorem dX8_canLead_65 : decode cX8_canLead 65 = .ok (.iconst 2, 1) := by decide +kernel
theorem dX8_canLead_66 : decode cX8_canLead 66 = .ok (.iaload, 1) := by decide +kernel
theorem dX8_canLead_67 : decode cX8_canLead 67 = .ok (.if_icmp .ge 7, 3) := by decide +kernel
theorem dX8_canLead_70 : decode cX8_canLead 70 = .ok (.iconst 1, 1) := by decide +kernel
theorem dX8_canLead_71 : decode cX8_canLead 71 = .ok (.goto 4, 3) := by decide +kernel
theorem dX8_canLead_74 : decode cX8_canLead 74 = .ok (.iconst 0, 1) := by decide +kernel
theorem dX8_canLead_75 : decode cX8_canLead 75 = .ok (.ireturn, 1) := by decide +kernel
theorem dX8_tells_0 : decode cX8_tells 0 = .ok (.sipush 910, 3) := by decide +kernel
theorem dX8_tells_3 : decode cX8_tells 3 = .ok (.iconst 3, 1) := by decide +kernel
theorem dX8_tells_4 : decode cX8_tells 4 = .ok (.aload_n 0, 1) := by decide +kernel
theorem dX8_tells_5 : decode cX8_tells 5 = .ok (.getfield 7, 3) := by decide +kernel
theorem dX8_tells_8 : decode cX8_tells 8 = .ok (.bipush 12, 2) := by decide +kernel
theorem dX8_tells_10 : decode cX8_tells 10 = .ok (.iaload, 1) := by decide +kernel
theorem dX8_tells_11 : decode cX8_tells 11 = .ok (.bipush 20, 2) := by decide +kernel
theorem dX8_tells_13 : decode cX8_tells 13 = .ok (.irem, 1) := by decide +kernel
theorem dX8_tells_14 : decode cX8_tells 14 = .ok (.imul, 1) := by decide +kernel
theorem dX8_tells_15 : decode cX8_tells 15 = .ok (.iadd, 1) := by decide +kernel
theorem dX8_tells_16 : decode cX8_tells 16 = .ok (.istore_n 3, 1) := by decide +kernel
theorem dX8_tells_17 : decode cX8_tells 17 = .ok (.aload_n 0, 1) := by decide +kernel
theorem dX8_tells_18 : decode cX8_tells 18 = .ok (.getfield 7, 3) := by decide +kernel
theorem dX8_tells_21 : decode cX8_tells 21 = .ok (.iload_n 3, 1) := by decide +kernel
theorem dX8_tells_22 : decode cX8_tells 22 = .ok (.aload_n 0, 1) := by decide +kernel
theorem dX8_tells_23 : decode cX8_tells 23 = .ok (.getfield 7, 3) := by decide +kernel
theorem dX8_tells_26 : decode cX8_tells 26 = .ok (.bipush 6, 2) := by decide +kernel
theorem dX8_tells_28 : decode cX8_tells 28 = .ok (.iaload, 1) := by decide +kernel
theorem dX8_tells_29 : decode cX8_tells 29 = .ok (.iastore, 1) := by decide +kernel
theorem dX8_tells_30 : decode cX8_tells 30 = .ok (.aload_n 0, 1) := by decide +kernel
theorem dX8_tells_31 : decode cX8_tells 31 = .ok (.getfield 7, 3) := by decide +kernel
theorem dX8_tells_34 : decode cX8_tells 34 = .ok (.iload_n 3, 1) := by decide +kernel
theorem dX8_tells_35 : decode cX8_tells 35 = .ok (.iconst 1, 1) := by decide +kernel
theorem dX8_tells_36 : decode cX8_tells 36 = .ok (.iadd, 1) := by decide +kernel
theorem dX8_tells_37 : decode cX8_tells 37 = .ok (.iload_n 1, 1) := by decide +kernel
theorem dX8_tells_38 : decode cX8_tells 38 = .ok (.iastore, 1) := by decide +kernel
theorem dX8_tells_39 : decode cX8_tells 39 = .ok (.aload_n 0, 1) := by decide +kernel
theorem dX8_tells_40 : decode cX8_tells 40 = .ok (.getfield 7, 3) := by decide +kernel
theorem dX8_tells_43 : decode cX8_tells 43 = .ok (.iload_n 3, 1) := by decide +kernel
theorem dX8_tells_44 : decode cX8_tells 44 = .ok (.iconst 2, 1) := by decide +kernel
theorem dX8_tells_45 : decode cX8_tells 45 = .ok (.iadd, 1) := by decide +kernel
theorem dX8_tells_46 : decode cX8_tells 46 = .ok (.iload_n 2, 1) := by decide +kernel
theorem dX8_tells_47 : decode cX8_tells 47 = .ok (.iastore, 1) := by decide +kernel
theorem dX8_tells_48 : decode cX8_tells 48 = .ok (.aload_n 0, 1) := by decide +kernel
theorem dX8_tells_49 : decode cX8_tells 49 = .ok (.getfield 7, 3) := by decide +kernel
theorem dX8_tells_52 : decode cX8_tells 52 = .ok (.bipush 12, 2) := by decide +kernel
theorem dX8_tells_54 : decode cX8_tells 54 = .ok (.dup2, 1) := by decide +kernel
theorem dX8_tells_55 : decode cX8_tells 55 = .ok (.iaload, 1) := by decide +kernel
theorem dX8_tells_56 : decode cX8_tells 56 = .ok (.iconst 1, 1) := by decide +kernel
theorem dX8_tells_57 : decode cX8_tells 57 = .ok (.iadd, 1) := by decide +kernel
theorem dX8_tells_58 : decode cX8_tells 58 = .ok (.iastore, 1) := by decide +kernel
theorem dX8_tells_59 : decode cX8_tells 59 = .ok (.return_, 1) := by decide +kernel
theorem dX8_appoints_0 : decode cX8_appoints 0 = .ok (.bipush (-9), 2) := by decide +kernel
theorem dX8_appoints_2 : decode cX8_appoints 2 = .ok (.istore_n 2, 1) := by decide +kernel
theorem dX8_appoints_3 : decode cX8_appoints 3 = .ok (.iconst 0, 1) := by decide +kernel
theorem dX8_appoints_4 : decode cX8_appoints 4 = .ok (.istore_n 3, 1) := by decide +kernel
theorem dX8_appoints_5 : decode cX8_appoints 5 = .ok (.iload_n 3, 1) := by decide +kernel
theorem dX8_appoints_6 : decode cX8_appoints 6 = .ok (.aload_n 0, 1) := by decide +kernel
theorem dX8_appoints_7 : decode cX8_appoints 7 = .ok (.getfield 7, 3) := by decide +kernel
theorem dX8_appoints_10 : decode cX8_appoints 10 = .ok (.bipush 10, 2) := by decide +kernel
theorem dX8_appoints_12 : decode cX8_appoints 12 = .ok (.iaload, 1) := by decide +kernel
theorem dX8_appoints_13 : decode cX8_appoints 13 = .ok (.if_icmp .ge 77, 3) := by decide +kernel
theorem dX8_appoints_16 : decode cX8_appoints 16 = .ok (.aload_n 0, 1) := by decide +kernel
theorem dX8_appoints_17 : decode cX8_appoints 17 = .ok (.iload_n 3, 1) := by decide +kernel
theorem dX8_appoints_18 : decode cX8_appoints 18 = .ok (.invokevirtual 41, 3) := by decide +kernel
theorem dX8_appoints_21 : decode cX8_appoints 21 = .ok (.ifCond .eq 63, 3) := by decide +kernel
theorem dX8_appoints_24 : decode cX8_appoints 24 = .ok (.iload_n 3, 1) := by decide +kernel
theorem dX8_appoints_25 : decode cX8_appoints 25 = .ok (.iload_n 1, 1) := by decide +kernel
theorem dX8_appoints_26 : decode cX8_appoints 26 = .ok (.if_icmp .eq 58, 3) := by decide +kernel
theorem dX8_appoints_29 : decode cX8_appoints 29 = .ok (.iload_n 2, 1) := by decide +kernel
theorem dX8_appoints_30 : decode cX8_appoints 30 = .ok (.ifCond .ge 7, 3) := by decide +kernel
theorem dX8_appoints_33 : decode cX8_appoints 33 = .ok (.iconst 1, 1) := by decide +kernel
theorem dX8_appoints_34 : decode cX8_appoints 34 = .ok (.goto 14, 3) := by decide +kernel
theorem dX8_appoints_37 : decode cX8_appoints 37 = .ok (.aload_n 0, 1) := by decide +kernel
theorem dX8_appoints_38 : decode cX8_appoints 38 = .ok (.iload_n 3, 1) := by decide +kernel
theorem dX8_appoints_39 : decode cX8_appoints 39 = .ok (.invokevirtual 48, 3) := by decide +kernel
theorem dX8_appoints_42 : decode cX8_appoints 42 = .ok (.aload_n 0, 1) := by decide +kernel
theorem dX8_appoints_43 : decode cX8_appoints 43 = .ok (.iload_n 2, 1) := by decide +kernel
theorem dX8_appoints_44 : decode cX8_appoints 44 = .ok (.invokevirtual 48, 3) := by decide +kernel
theorem dX8_appoints_47 : decode cX8_appoints 47 = .ok (.isub, 1) := by decide +kernel
theorem dX8_appoints_48 : decode cX8_appoints 48 = .ok (.istore 4, 2) := by decide +kernel
theorem dX8_appoints_50 : decode cX8_appoints 50 = .ok (.iload 4, 2) := by decide +kernel
theorem dX8_appoints_52 : decode cX8_appoints 52 = .ok (.ifCond .ne 17, 3) := by decide +kernel
theorem dX8_appoints_55 : decode cX8_appoints 55 = .ok (.aload_n 0, 1) := by decide +kernel
theorem dX8_appoints_56 : decode cX8_appoints 56 = .ok (.iload_n 2, 1) := by decide +kernel
theorem dX8_appoints_57 : decode cX8_appoints 57 = .ok (.invokevirtual 45, 3) := by decide +kernel
theorem dX8_appoints_60 : decode cX8_appoints 60 = .ok (.aload_n 0, 1) := by decide +kernel
theorem dX8_appoints_61 : decode cX8_appoints 61 = .ok (.iload_n 3, 1) := by decide +kernel
theorem dX8_appoints_62 : decode cX8_appoints 62 = .ok (.invokevirtual 45, 3) := by decide +kernel
theorem dX8_appoints_65 : decode cX8_appoints 65 = .ok (.isub, 1) := by decide +kernel
theorem dX8_appoints_66 : decode cX8_appoints 66 = .ok (.goto 5, 3) := by decide +kernel
theorem dX8_appoints_69 : decode cX8_appoints 69 = .ok (.iload 4, 2) := by decide +kernel
theorem dX8_appoints_71 : decode cX8_appoints 71 = .ok (.istore 4, 2) := by decide +kernel
theorem dX8_appoints_73 : decode cX8_appoints 73 = .ok (.iload 4, 2) := by decide +kernel
theorem dX8_appoints_75 : decode cX8_appoints 75 = .ok (.ifCond .le 7, 3) := by decide +kernel
theorem dX8_appoints_78 : decode cX8_appoints 78 = .ok (.iload_n 3, 1) := by decide +kernel
theorem dX8_appoints_79 : decode cX8_appoints 79 = .ok (.goto 4, 3) := by decide +kernel
theorem dX8_appoints_82 : decode cX8_appoints 82 = .ok (.iload_n 2, 1) := by decide +kernel
theorem dX8_appoints_83 : decode cX8_appoints 83 = .ok (.istore_n 2, 1) := by decide +kernel
theorem dX8_appoints_84 : decode cX8_appoints 84 = .ok (.iinc 3 1, 3) := by decide +kernel
theorem dX8_appoints_87 : decode cX8_appoints 87 = .ok (.goto (-82), 3) := by decide +kernel
theorem dX8_appoints_90 : decode cX8_appoints 90 = .ok (.aload_n 0, 1) := by decide +kernel
theorem dX8_appoints_91 : decode cX8_appoints 91 = .ok (.getfield 7, 3) := by decide +kernel
theorem dX8_appoints_94 : decode cX8_appoints 94 = .ok (.bipush 7, 2) := by decide +kernel
theorem dX8_appoints_96 : decode cX8_appoints 96 = .ok (.iload_n 2, 1) := by decide +kernel
theorem dX8_appoints_97 : decode cX8_appoints 97 = .ok (.ifCond .ge 7, 3) := by decide +kernel
theorem dX8_appoints_100 : decode cX8_appoints 100 = .ok (.iconst 0, 1) := by decide +kernel
theorem dX8_appoints_101 : decode cX8_appoints 101 = .ok (.goto 4, 3) := by decide +kernel
theorem dX8_appoints_104 : decode cX8_appoints 104 = .ok (.iconst 1, 1) := by decide +kernel
theorem dX8_appoints_105 : decode cX8_appoints 105 = .ok (.iastore, 1) := by decide +kernel
theorem dX8_appoints_106 : decode cX8_appoints 106 = .ok (.aload_n 0, 1) := by decide +kernel
theorem dX8_appoints_107 : decode cX8_appoints 107 = .ok (.getfield 7, 3) := by decide +kernel
theorem dX8_appoints_110 : decode cX8_appoints 110 = .ok (.bipush 8, 2) := by decide +kernel
theorem dX8_appoints_112 : decode cX8_appoints 112 = .ok (.iload_n 2, 1) := by decide +kernel
theorem dX8_appoints_113 : decode cX8_appoints 113 = .ok (.iastore, 1) := by decide +kernel
theorem dX8_appoints_114 : decode cX8_appoints 114 = .ok (.aload_n 0, 1) := by decide +kernel
theorem dX8_appoints_115 : decode cX8_appoints 115 = .ok (.iload_n 2, 1) := by decide +kernel
theorem dX8_appoints_116 : decode cX8_appoints 116 = .ok (.ifCond .ge 8, 3) := by decide +kernel
theorem dX8_appoints_119 : decode cX8_appoints 119 = .ok (.bipush 7, 2) := by decide +kernel
theorem dX8_appoints_121 : decode cX8_appoints 121 = .ok (.goto 4, 3) := by decide +kernel
theorem dX8_appoints_124 : decode cX8_appoints 124 = .ok (.iconst 5, 1) := by decide +kernel
theorem dX8_appoints_125 : decode cX8_appoints 125 = .ok (.iload_n 2, 1) := by decide +kernel
theorem dX8_appoints_126 : decode cX8_appoints 126 = .ok (.invokevirtual 51, 3) := by decide +kernel
theorem dX8_appoints_129 : decode cX8_appoints 129 = .ok (.return_, 1) := by decide +kernel
theorem dX8_ends_0 : decode cX8_ends 0 = .ok (.aload_n 0, 1) := by decide +kernel
theorem dX8_ends_1 : decode cX8_ends 1 = .ok (.getfield 7, 3) := by decide +kernel
theorem dX8_ends_4 : decode cX8_ends 4 = .ok (.bipush 9, 2) := by decide +kernel
theorem dX8_ends_6 : decode cX8_ends 6 = .ok (.iaload, 1) := by decide +kernel
theorem dX8_ends_7 : decode cX8_ends 7 = .ok (.istore_n 2, 1) := by decide +kernel
theorem dX8_ends_8 : decode cX8_ends 8 = .ok (.aload_n 0, 1) := by decide +kernel
theorem dX8_ends_9 : decode cX8_ends 9 = .ok (.getfield 7, 3) := by decide +kernel
theorem dX8_ends_12 : decode cX8_ends 12 = .ok (.iload_n 2, 1) := by decide +kernel
theorem dX8_ends_13 : decode cX8_ends 13 = .ok (.iconst 0, 1) := by decide +kernel
theorem dX8_ends_14 : decode cX8_ends 14 = .ok (.invokestatic 31, 3) := by decide +kernel
theorem dX8_ends_17 : decode cX8_ends 17 = .ok (.iaload, 1) := by decide +kernel
theorem dX8_ends_18 : decode cX8_ends 18 = .ok (.istore_n 3, 1) := by decide +kernel
theorem dX8_ends_19 : decode cX8_ends 19 = .ok (.aload_n 0, 1) := by decide +kernel
theorem dX8_ends_20 : decode cX8_ends 20 = .ok (.getfield 7, 3) := by decide +kernel
theorem dX8_ends_23 : decode cX8_ends 23 = .ok (.iload_n 2, 1) := by decide +kernel
theorem dX8_ends_24 : decode cX8_ends 24 = .ok (.iconst 3, 1) := by decide +kernel
theorem dX8_ends_25 : decode cX8_ends 25 = .ok (.invokestatic 31, 3) := by decide +kernel
theorem dX8_ends_28 : decode cX8_ends 28 = .ok (.aload_n 0, 1) := by decide +kernel
theorem dX8_ends_29 : decode cX8_ends 29 = .ok (.getfield 7, 3) := by decide +kernel
theorem dX8_ends_32 : decode cX8_ends 32 = .ok (.bipush 6, 2) := by decide +kernel
theorem dX8_ends_34 : decode cX8_ends 34 = .ok (.iaload, 1) := by decide +kernel
theorem dX8_ends_35 : decode cX8_ends 35 = .ok (.iastore, 1) := by decide +kernel
theorem dX8_ends_36 : decode cX8_ends 36 = .ok (.aload_n 0, 1) := by decide +kernel
theorem dX8_ends_37 : decode cX8_ends 37 = .ok (.getfield 7, 3) := by decide +kernel
theorem dX8_ends_40 : decode cX8_ends 40 = .ok (.iload_n 2, 1) := by decide +kernel
theorem dX8_ends_41 : decode cX8_ends 41 = .ok (.iconst 5, 1) := by decide +kernel
theorem dX8_ends_42 : decode cX8_ends 42 = .ok (.invokestatic 31, 3) := by decide +kernel
theorem dX8_ends_45 : decode cX8_ends 45 = .ok (.iload_n 1, 1) := by decide +kernel
theorem dX8_ends_46 : decode cX8_ends 46 = .ok (.iconst 3, 1) := by decide +kernel
theorem dX8_ends_47 : decode cX8_ends 47 = .ok (.if_icmp .ne 7, 3) := by decide +kernel
theorem dX8_ends_50 : decode cX8_ends 50 = .ok (.iconst 1, 1) := by decide +kernel
theorem dX8_ends_51 : decode cX8_ends 51 = .ok (.goto 4, 3) := by decide +kernel
theorem dX8_ends_54 : decode cX8_ends 54 = .ok (.iconst 0, 1) := by decide +kernel
theorem dX8_ends_55 : decode cX8_ends 55 = .ok (.iastore, 1) := by decide +kernel
theorem dX8_ends_56 : decode cX8_ends 56 = .ok (.iconst 0, 1) := by decide +kernel
theorem dX8_ends_57 : decode cX8_ends 57 = .ok (.istore 4, 2) := by decide +kernel
theorem dX8_ends_59 : decode cX8_ends 59 = .ok (.iload 4, 2) := by decide +kernel
theorem dX8_ends_61 : decode cX8_ends 61 = .ok (.bipush 10, 2) := by decide +kernel
theorem dX8_ends_63 : decode cX8_ends 63 = .ok (.if_icmp .ge 21, 3) := by decide +kernel
theorem dX8_ends_66 : decode cX8_ends 66 = .ok (.aload_n 0, 1) := by decide +kernel
theorem dX8_ends_67 : decode cX8_ends 67 = .ok (.getfield 7, 3) := by decide +kernel
theorem dX8_ends_70 : decode cX8_ends 70 = .ok (.iload 4, 2) := by decide +kernel
theorem dX8_ends_72 : decode cX8_ends 72 = .ok (.iconst 3, 1) := by decide +kernel
theorem dX8_ends_73 : decode cX8_ends 73 = .ok (.invokestatic 27, 3) := by decide +kernel
theorem dX8_ends_76 : decode cX8_ends 76 = .ok (.iconst 0, 1) := by decide +kernel
theorem dX8_ends_77 : decode cX8_ends 77 = .ok (.iastore, 1) := by decide +kernel
theorem dX8_ends_78 : decode cX8_ends 78 = .ok (.iinc 4 1, 3) := by decide +kernel
theorem dX8_ends_81 : decode cX8_ends 81 = .ok (.goto (-22), 3) := by decide +kernel
theorem dX8_ends_84 : decode cX8_ends 84 = .ok (.aload_n 0, 1) := by decide +kernel
theorem dX8_ends_85 : decode cX8_ends 85 = .ok (.iload_n 1, 1) := by decide +kernel
theorem dX8_ends_86 : decode cX8_ends 86 = .ok (.iload_n 3, 1) := by decide +kernel
theorem dX8_ends_87 : decode cX8_ends 87 = .ok (.invokevirtual 51, 3) := by decide +kernel
theorem dX8_ends_90 : decode cX8_ends 90 = .ok (.aload_n 0, 1) := by decide +kernel
theorem dX8_ends_91 : decode cX8_ends 91 = .ok (.iload_n 3, 1) := by decide +kernel
theorem dX8_ends_92 : decode cX8_ends 92 = .ok (.invokevirtual 55, 3) := by decide +kernel
theorem dX8_ends_95 : decode cX8_ends 95 = .ok (.return_, 1) := by decide +kernel
theorem dX8_signatures_0 : decode cX8_signatures 0 = .ok (.iconst 0, 1) := by decide +kernel
theorem dX8_signatures_1 : decode cX8_signatures 1 = .ok (.istore_n 1, 1) := by decide +kernel
theorem dX8_signatures_2 : decode cX8_signatures 2 = .ok (.iconst 0, 1) := by decide +kernel
theorem dX8_signatures_3 : decode cX8_signatures 3 = .ok (.istore_n 2, 1) := by decide +kernel
theorem dX8_signatures_4 : decode cX8_signatures 4 = .ok (.iload_n 2, 1) := by decide +kernel
theorem dX8_signatures_5 : decode cX8_signatures 5 = .ok (.aload_n 0, 1) := by decide +kernel
theorem dX8_signatures_6 : decode cX8_signatures 6 = .ok (.getfield 7, 3) := by decide +kernel
theorem dX8_signatures_9 : decode cX8_signatures 9 = .ok (.bipush 10, 2) := by decide +kernel
theorem dX8_signatures_11 : decode cX8_signatures 11 = .ok (.iaload, 1) := by decide +kernel
theorem dX8_signatures_12 : decode cX8_signatures 12 = .ok (.if_icmp .ge 39, 3) := by decide +kernel
theorem dX8_signatures_15 : decode cX8_signatures 15 = .ok (.iload_n 1, 1) := by decide +kernel
theorem dX8_signatures_16 : decode cX8_signatures 16 = .ok (.aload_n 0, 1) := by decide +kernel
theorem dX8_signatures_17 : decode cX8_signatures 17 = .ok (.iload_n 2, 1) := by decide +kernel
theorem dX8_signatures_18 : decode cX8_signatures 18 = .ok (.invokevirtual 41, 3) := by decide +kernel
theorem dX8_signatures_21 : decode cX8_signatures 21 = .ok (.ifCond .eq 21, 3) := by decide +kernel
theorem dX8_signatures_24 : decode cX8_signatures 24 = .ok (.aload_n 0, 1) := by decide +kernel
theorem dX8_signatures_25 : decode cX8_signatures 25 = .ok (.getfield 7, 3) := by decide +kernel
theorem dX8_signatures_28 : decode cX8_signatures 28 = .ok (.iload_n 2, 1) := by decide +kernel
theorem dX8_signatures_29 : decode cX8_signatures 29 = .ok (.iconst 3, 1) := by decide +kernel
theorem dX8_signatures_30 : decode cX8_signatures 30 = .ok (.invokestatic 27, 3) := by decide +kernel
theorem dX8_signatures_33 : decode cX8_signatures 33 = .ok (.iaload, 1) := by decide +kernel
theorem dX8_signatures_34 : decode cX8_signatures 34 = .ok (.iconst 1, 1) := by decide +kernel
theorem dX8_signatures_35 : decode cX8_signatures 35 = .ok (.if_icmp .ne 7, 3) := by decide +kernel
theorem dX8_signatures_38 : decode cX8_signatures 38 = .ok (.iconst 1, 1) := by decide +kernel
theorem dX8_signatures_39 : decode cX8_signatures 39 = .ok (.goto 4, 3) := by decide +kernel
theorem dX8_signatures_42 : decode cX8_signatures 42 = .ok (.iconst 0, 1) := by decide +kernel
theorem dX8_signatures_43 : decode cX8_signatures 43 = .ok (.iadd, 1) := by decide +kernel
theorem dX8_signatures_44 : decode cX8_signatures 44 = .ok (.istore_n 1, 1) := by decide +kernel
theorem dX8_signatures_45 : decode cX8_signatures 45 = .ok (.iinc 2 1, 3) := by decide +kernel
theorem dX8_signatures_48 : decode cX8_signatures 48 = .ok (.goto (-44), 3) := by decide +kernel
theorem dX8_signatures_51 : decode cX8_signatures 51 = .ok (.iload_n 1, 1) := by decide +kernel
theorem dX8_signatures_52 : decode cX8_signatures 52 = .ok (.ireturn, 1) := by decide +kernel
theorem dX8_presentMany_0 : decode cX8_presentMany 0 = .ok (.iconst 0, 1) := by decide +kernel
theorem dX8_presentMany_1 : decode cX8_presentMany 1 = .ok (.istore_n 1, 1) := by decide +kernel
theorem dX8_presentMany_2 : decode cX8_presentMany 2 = .ok (.iconst 0, 1) := by decide +kernel
theorem dX8_presentMany_3 : decode cX8_presentMany 3 = .ok (.istore_n 2, 1) := by decide +kernel
theorem dX8_presentMany_4 : decode cX8_presentMany 4 = .ok (.iload_n 2, 1) := by decide +kernel
theorem dX8_presentMany_5 : decode cX8_presentMany 5 = .ok (.aload_n 0, 1) := by decide +kernel
theorem dX8_presentMany_6 : decode cX8_presentMany 6 = .ok (.getfield 7, 3) := by decide +kernel
theorem dX8_presentMany_9 : decode cX8_presentMany 9 = .ok (.bipush 10, 2) := by decide +kernel
theorem dX8_presentMany_11 : decode cX8_presentMany 11 = .ok (.iaload, 1) := by decide +kernel
theorem dX8_presentMany_12 : decode cX8_presentMany 12 = .ok (.if_icmp .ge 22, 3) := by decide +kernel
theorem dX8_presentMany_15 : decode cX8_presentMany 15 = .ok (.iload_n 1, 1) := by decide +kernel
theorem dX8_presentMany_16 : decode cX8_presentMany 16 = .ok (.aload_n 0, 1) := by decide +kernel
theorem dX8_presentMany_17 : decode cX8_presentMany 17 = .ok (.getfield 7, 3) := by decide +kernel
theorem dX8_presentMany_20 : decode cX8_presentMany 20 = .ok (.iload_n 2, 1) := by decide +kernel
theorem dX8_presentMany_21 : decode cX8_presentMany 21 = .ok (.iconst 1, 1) := by decide +kernel
theorem dX8_presentMany_22 : decode cX8_presentMany 22 = .ok (.invokestatic 27, 3) := by decide +kernel
theorem dX8_presentMany_25 : decode cX8_presentMany 25 = .ok (.iaload, 1) := by decide +kernel
theorem dX8_presentMany_26 : decode cX8_presentMany 26 = .ok (.iadd, 1) := by decide +kernel
theorem dX8_presentMany_27 : decode cX8_presentMany 27 = .ok (.istore_n 1, 1) := by decide +kernel
theorem dX8_presentMany_28 : decode cX8_presentMany 28 = .ok (.iinc 2 1, 3) := by decide +kernel
theorem dX8_presentMany_31 : decode cX8_presentMany 31 = .ok (.goto (-27), 3) := by decide +kernel
theorem dX8_presentMany_34 : decode cX8_presentMany 34 = .ok (.iload_n 1, 1) := by decide +kernel
theorem dX8_presentMany_35 : decode cX8_presentMany 35 = .ok (.ireturn, 1) := by decide +kernel
theorem dX8_looks_0 : decode cX8_looks 0 = .ok (.aload_n 0, 1) := by decide +kernel
theorem dX8_looks_1 : decode cX8_looks 1 = .ok (.getfield 7, 3) := by decide +kernel
theorem dX8_looks_4 : decode cX8_looks 4 = .ok (.bipush 7, 2) := by decide +kernel
theorem dX8_looks_6 : decode cX8_looks 6 = .ok (.iaload, 1) := by decide +kernel
theorem dX8_looks_7 : decode cX8_looks 7 = .ok (.iconst 2, 1) := by decide +kernel
theorem dX8_looks_8 : decode cX8_looks 8 = .ok (.if_icmp .ne 39, 3) := by decide +kernel
theorem dX8_looks_11 : decode cX8_looks 11 = .ok (.aload_n 0, 1) := by decide +kernel
theorem dX8_looks_12 : decode cX8_looks 12 = .ok (.invokevirtual 59, 3) := by decide +kernel
theorem dX8_looks_15 : decode cX8_looks 15 = .ok (.iconst 1, 1) := by decide +kernel
theorem dX8_looks_16 : decode cX8_looks 16 = .ok (.isub, 1) := by decide +kernel
theorem dX8_looks_17 : decode cX8_looks 17 = .ok (.istore_n 1, 1) := by decide +kernel
theorem dX8_looks_18 : decode cX8_looks 18 = .ok (.aload_n 0, 1) := by decide +kernel
theorem dX8_looks_19 : decode cX8_looks 19 = .ok (.invokevirtual 63, 3) := by decide +kernel
theorem dX8_looks_22 : decode cX8_looks 22 = .ok (.istore_n 2, 1) := by decide +kernel
theorem dX8_looks_23 : decode cX8_looks 23 = .ok (.iload_n 2, 1) := by decide +kernel
theorem dX8_looks_24 : decode cX8_looks 24 = .ok (.ifCond .le 23, 3) := by decide +kernel
theorem dX8_looks_27 : decode cX8_looks 27 = .ok (.bipush 100, 2) := by decide +kernel
theorem dX8_looks_29 : decode cX8_looks 29 = .ok (.iload_n 2, 1) := by decide +kernel
theorem dX8_looks_30 : decode cX8_looks 30 = .ok (.imul, 1) := by decide +kernel
theorem dX8_looks_31 : decode cX8_looks 31 = .ok (.aload_n 0, 1) := by decide +kernel
theorem dX8_looks_32 : decode cX8_looks 32 = .ok (.getfield 7, 3) := by decide +kernel
theorem dX8_looks_35 : decode cX8_looks 35 = .ok (.iconst 3, 1) := by decide +kernel
theorem dX8_looks_36 : decode cX8_looks 36 = .ok (.iaload, 1) := by decide +kernel
theorem dX8_looks_37 : decode cX8_looks 37 = .ok (.iload_n 1, 1) := by decide +kernel
theorem dX8_looks_38 : decode cX8_looks 38 = .ok (.imul, 1) := by decide +kernel
theorem dX8_looks_39 : decode cX8_looks 39 = .ok (.if_icmp .lt 8, 3) := by decide +kernel
theorem dX8_looks_42 : decode cX8_looks 42 = .ok (.aload_n 0, 1) := by decide +kernel
theorem dX8_looks_43 : decode cX8_looks 43 = .ok (.iconst 3, 1) := by decide +kernel
theorem dX8_looks_44 : decode cX8_looks 44 = .ok (.invokevirtual 66, 3) := by decide +kernel
theorem dX8_looks_47 : decode cX8_looks 47 = .ok (.return_, 1) := by decide +kernel
theorem dX8_isIn_0 : decode cX8_isIn 0 = .ok (.iload_n 0, 1) := by decide +kernel
theorem dX8_isIn_1 : decode cX8_isIn 1 = .ok (.tableswitch 77 0 4 #[35, 45, 53, 61, 69], 35) := by decide +kernel
theorem dX8_isIn_36 : decode cX8_isIn 36 = .ok (.iload_n 1, 1) := by decide +kernel
theorem dX8_isIn_37 : decode cX8_isIn 37 = .ok (.bipush 10, 2) := by decide +kernel
theorem dX8_isIn_39 : decode cX8_isIn 39 = .ok (.sipush 1000, 3) := by decide +kernel
theorem dX8_isIn_42 : decode cX8_isIn 42 = .ok (.invokestatic 23, 3) := by decide +kernel
theorem dX8_isIn_45 : decode cX8_isIn 45 = .ok (.ireturn, 1) := by decide +kernel
theorem dX8_isIn_46 : decode cX8_isIn 46 = .ok (.iload_n 1, 1) := by decide +kernel
theorem dX8_isIn_47 : decode cX8_isIn 47 = .ok (.iconst 1, 1) := by decide +kernel
theorem dX8_isIn_48 : decode cX8_isIn 48 = .ok (.bipush 9, 2) := by decide +kernel
theorem dX8_isIn_50 : decode cX8_isIn 50 = .ok (.invokestatic 23, 3) := by decide +kernel
theorem dX8_isIn_53 : decode cX8_isIn 53 = .ok (.ireturn, 1) := by decide +kernel
theorem dX8_isIn_54 : decode cX8_isIn 54 = .ok (.iload_n 1, 1) := by decide +kernel
theorem dX8_isIn_55 : decode cX8_isIn 55 = .ok (.iconst 1, 1) := by decide +kernel
theorem dX8_isIn_56 : decode cX8_isIn 56 = .ok (.bipush 9, 2) := by decide +kernel
theorem dX8_isIn_58 : decode cX8_isIn 58 = .ok (.invokestatic 23, 3) := by decide +kernel
theorem dX8_isIn_61 : decode cX8_isIn 61 = .ok (.ireturn, 1) := by decide +kernel
theorem dX8_isIn_62 : decode cX8_isIn 62 = .ok (.iload_n 1, 1) := by decide +kernel
theorem dX8_isIn_63 : decode cX8_isIn 63 = .ok (.iconst 1, 1) := by decide +kernel
theorem dX8_isIn_64 : decode cX8_isIn 64 = .ok (.bipush 100, 2) := by decide +kernel
theorem dX8_isIn_66 : decode cX8_isIn 66 = .ok (.invokestatic 23, 3) := by decide +kernel
theorem dX8_isIn_69 : decode cX8_isIn 69 = .ok (.ireturn, 1) := by decide +kernel
theorem dX8_isIn_70 : decode cX8_isIn 70 = .ok (.iload_n 1, 1) := by decide +kernel
theorem dX8_isIn_71 : decode cX8_isIn 71 = .ok (.iconst 0, 1) := by decide +kernel
theorem dX8_isIn_72 : decode cX8_isIn 72 = .ok (.bipush 100, 2) := by decide +kernel
theorem dX8_isIn_74 : decode cX8_isIn 74 = .ok (.invokestatic 23, 3) := by decide +kernel
theorem dX8_isIn_77 : decode cX8_isIn 77 = .ok (.ireturn, 1) := by decide +kernel
theorem dX8_isIn_78 : decode cX8_isIn 78 = .ok (.iload_n 0, 1) := by decide +kernel
theorem dX8_isIn_79 : decode cX8_isIn 79 = .ok (.iconst 5, 1) := by decide +kernel
theorem dX8_isIn_80 : decode cX8_isIn 80 = .ok (.if_icmp .ne 17, 3) := by decide +kernel
theorem dX8_isIn_83 : decode cX8_isIn 83 = .ok (.iload_n 1, 1) := by decide +kernel
theorem dX8_isIn_84 : decode cX8_isIn 84 = .ok (.iconst 1, 1) := by decide +kernel
theorem dX8_isIn_85 : decode cX8_isIn 85 = .ok (.bipush 10, 2) := by decide +kernel
theorem dX8_isIn_87 : decode cX8_isIn 87 = .ok (.invokestatic 23, 3) := by decide +kernel
theorem dX8_isIn_90 : decode cX8_isIn 90 = .ok (.ifCond .eq 7, 3) := by decide +kernel
theorem dX8_isIn_93 : decode cX8_isIn 93 = .ok (.iconst 1, 1) := by decide +kernel
theorem dX8_isIn_94 : decode cX8_isIn 94 = .ok (.goto 4, 3) := by decide +kernel
theorem dX8_isIn_97 : decode cX8_isIn 97 = .ok (.iconst 0, 1) := by decide +kernel
theorem dX8_isIn_98 : decode cX8_isIn 98 = .ok (.ireturn, 1) := by decide +kernel
theorem dX8_set_0 : decode cX8_set 0 = .ok (.iload_n 1, 1) := by decide +kernel
theorem dX8_set_1 : decode cX8_set 1 = .ok (.iload_n 2, 1) := by decide +kernel
theorem dX8_set_2 : decode cX8_set 2 = .ok (.invokestatic 69, 3) := by decide +kernel
theorem dX8_set_5 : decode cX8_set 5 = .ok (.ifCond .ne 5, 3) := by decide +kernel
theorem dX8_set_8 : decode cX8_set 8 = .ok (.iconst (-1), 1) := by decide +kernel
theorem dX8_set_9 : decode cX8_set 9 = .ok (.ireturn, 1) := by decide +kernel
theorem dX8_set_10 : decode cX8_set 10 = .ok (.aload_n 0, 1) := by decide +kernel
theorem dX8_set_11 : decode cX8_set 11 = .ok (.invokevirtual 73, 3) := by decide +kernel
theorem dX8_set_14 : decode cX8_set 14 = .ok (.aload_n 0, 1) := by decide +kernel
theorem dX8_set_15 : decode cX8_set 15 = .ok (.getfield 7, 3) := by decide +kernel
theorem dX8_set_18 : decode cX8_set 18 = .ok (.iload_n 1, 1) := by decide +kernel
theorem dX8_set_19 : decode cX8_set 19 = .ok (.iaload, 1) := by decide +kernel
theorem dX8_set_20 : decode cX8_set 20 = .ok (.istore_n 3, 1) := by decide +kernel
theorem dX8_set_21 : decode cX8_set 21 = .ok (.aload_n 0, 1) := by decide +kernel
theorem dX8_set_22 : decode cX8_set 22 = .ok (.getfield 7, 3) := by decide +kernel
theorem dX8_set_25 : decode cX8_set 25 = .ok (.iload_n 1, 1) := by decide +kernel
theorem dX8_set_26 : decode cX8_set 26 = .ok (.iload_n 2, 1) := by decide +kernel
theorem dX8_set_27 : decode cX8_set 27 = .ok (.iastore, 1) := by decide +kernel
theorem dX8_set_28 : decode cX8_set 28 = .ok (.iload_n 1, 1) := by decide +kernel
theorem dX8_set_29 : decode cX8_set 29 = .ok (.iconst 3, 1) := by decide +kernel
theorem dX8_set_30 : decode cX8_set 30 = .ok (.if_icmp .ne 7, 3) := by decide +kernel
theorem dX8_set_33 : decode cX8_set 33 = .ok (.aload_n 0, 1) := by decide +kernel
theorem dX8_set_34 : decode cX8_set 34 = .ok (.invokevirtual 76, 3) := by decide +kernel
theorem dX8_set_37 : decode cX8_set 37 = .ok (.iload_n 3, 1) := by decide +kernel
theorem dX8_set_38 : decode cX8_set 38 = .ok (.ireturn, 1) := by decide +kernel
theorem dX8_join_0 : decode cX8_join 0 = .ok (.iload_n 1, 1) := by decide +kernel
theorem dX8_join_1 : decode cX8_join 1 = .ok (.iconst 0, 1) := by decide +kernel
theorem dX8_join_2 : decode cX8_join 2 = .ok (.sipush 996, 3) := by decide +kernel
theorem dX8_join_5 : decode cX8_join 5 = .ok (.invokestatic 23, 3) := by decide +kernel
theorem dX8_join_8 : decode cX8_join 8 = .ok (.ifCond .ne 5, 3) := by decide +kernel
theorem dX8_join_11 : decode cX8_join 11 = .ok (.iconst (-1), 1) := by decide +kernel
theorem dX8_join_12 : decode cX8_join 12 = .ok (.ireturn, 1) := by decide +kernel
theorem dX8_join_13 : decode cX8_join 13 = .ok (.aload_n 0, 1) := by decide +kernel
theorem dX8_join_14 : decode cX8_join 14 = .ok (.getfield 7, 3) := by decide +kernel
theorem dX8_join_17 : decode cX8_join 17 = .ok (.bipush 10, 2) := by decide +kernel
theorem dX8_join_19 : decode cX8_join 19 = .ok (.iaload, 1) := by decide +kernel
theorem dX8_join_20 : decode cX8_join 20 = .ok (.bipush 10, 2) := by decide +kernel
theorem dX8_join_22 : decode cX8_join 22 = .ok (.if_icmp .ne 6, 3) := by decide +kernel
theorem dX8_join_25 : decode cX8_join 25 = .ok (.bipush (-3), 2) := by decide +kernel
theorem dX8_join_27 : decode cX8_join 27 = .ok (.ireturn, 1) := by decide +kernel
theorem dX8_join_28 : decode cX8_join 28 = .ok (.aload_n 0, 1) := by decide +kernel
theorem dX8_join_29 : decode cX8_join 29 = .ok (.invokevirtual 73, 3) := by decide +kernel
theorem dX8_join_32 : decode cX8_join 32 = .ok (.aload_n 0, 1) := by decide +kernel
theorem dX8_join_33 : decode cX8_join 33 = .ok (.getfield 7, 3) := by decide +kernel
theorem dX8_join_36 : decode cX8_join 36 = .ok (.bipush 10, 2) := by decide +kernel
theorem dX8_join_38 : decode cX8_join 38 = .ok (.iaload, 1) := by decide +kernel
theorem dX8_join_39 : decode cX8_join 39 = .ok (.istore_n 2, 1) := by decide +kernel
theorem dX8_join_40 : decode cX8_join 40 = .ok (.iconst 0, 1) := by decide +kernel
theorem dX8_join_41 : decode cX8_join 41 = .ok (.istore_n 3, 1) := by decide +kernel
theorem dX8_join_42 : decode cX8_join 42 = .ok (.iload_n 3, 1) := by decide +kernel
theorem dX8_join_43 : decode cX8_join 43 = .ok (.bipush 15, 2) := by decide +kernel
theorem dX8_join_45 : decode cX8_join 45 = .ok (.if_icmp .ge 20, 3) := by decide +kernel
theorem dX8_join_48 : decode cX8_join 48 = .ok (.aload_n 0, 1) := by decide +kernel
theorem dX8_join_49 : decode cX8_join 49 = .ok (.getfield 7, 3) := by decide +kernel
theorem dX8_join_52 : decode cX8_join 52 = .ok (.iload_n 2, 1) := by decide +kernel
theorem dX8_join_53 : decode cX8_join 53 = .ok (.iload_n 3, 1) := by decide +kernel
theorem dX8_join_54 : decode cX8_join 54 = .ok (.invokestatic 27, 3) := by decide +kernel
theorem dX8_join_57 : decode cX8_join 57 = .ok (.iconst 0, 1) := by decide +kernel
theorem dX8_join_58 : decode cX8_join 58 = .ok (.iastore, 1) := by decide +kernel
theorem dX8_join_59 : decode cX8_join 59 = .ok (.iinc 3 1, 3) := by decide +kernel
theorem dX8_join_62 : decode cX8_join 62 = .ok (.goto (-20), 3) := by decide +kernel
theorem dX8_join_65 : decode cX8_join 65 = .ok (.aload_n 0, 1) := by decide +kernel
theorem dX8_join_66 : decode cX8_join 66 = .ok (.getfield 7, 3) := by decide +kernel
theorem dX8_join_69 : decode cX8_join 69 = .ok (.iload_n 2, 1) := by decide +kernel
theorem dX8_join_70 : decode cX8_join 70 = .ok (.iconst 0, 1) := by decide +kernel
theorem dX8_join_71 : decode cX8_join 71 = .ok (.invokestatic 27, 3) := by decide +kernel
theorem dX8_join_74 : decode cX8_join 74 = .ok (.iload_n 1, 1) := by decide +kernel
theorem dX8_join_75 : decode cX8_join 75 = .ok (.iastore, 1) := by decide +kernel
theorem dX8_join_76 : decode cX8_join 76 = .ok (.aload_n 0, 1) := by decide +kernel
theorem dX8_join_77 : decode cX8_join 77 = .ok (.getfield 7, 3) := by decide +kernel
theorem dX8_join_80 : decode cX8_join 80 = .ok (.iload_n 2, 1) := by decide +kernel
theorem dX8_join_81 : decode cX8_join 81 = .ok (.iconst 1, 1) := by decide +kernel
theorem dX8_join_82 : decode cX8_join 82 = .ok (.invokestatic 27, 3) := by decide +kernel
theorem dX8_join_85 : decode cX8_join 85 = .ok (.iconst 1, 1) := by decide +kernel
theorem dX8_join_86 : decode cX8_join 86 = .ok (.iastore, 1) := by decide +kernel
theorem dX8_join_87 : decode cX8_join 87 = .ok (.aload_n 0, 1) := by decide +kernel
theorem dX8_join_88 : decode cX8_join 88 = .ok (.getfield 7, 3) := by decide +kernel
theorem dX8_join_91 : decode cX8_join 91 = .ok (.bipush 10, 2) := by decide +kernel
theorem dX8_join_93 : decode cX8_join 93 = .ok (.dup2, 1) := by decide +kernel
theorem dX8_join_94 : decode cX8_join 94 = .ok (.iaload, 1) := by decide +kernel
theorem dX8_join_95 : decode cX8_join 95 = .ok (.iconst 1, 1) := by decide +kernel
theorem dX8_join_96 : decode cX8_join 96 = .ok (.iadd, 1) := by decide +kernel
theorem dX8_join_97 : decode cX8_join 97 = .ok (.iastore, 1) := by decide +kernel
theorem dX8_join_98 : decode cX8_join 98 = .ok (.aload_n 0, 1) := by decide +kernel
theorem dX8_join_99 : decode cX8_join 99 = .ok (.invokevirtual 76, 3) := by decide +kernel
theorem dX8_join_102 : decode cX8_join 102 = .ok (.iload_n 2, 1) := by decide +kernel
theorem dX8_join_103 : decode cX8_join 103 = .ok (.ireturn, 1) := by decide +kernel
theorem dX8_strikes_0 : decode cX8_strikes 0 = .ok (.iconst 0, 1) := by decide +kernel
theorem dX8_strikes_1 : decode cX8_strikes 1 = .ok (.istore_n 3, 1) := by decide +kernel
theorem dX8_strikes_2 : decode cX8_strikes 2 = .ok (.iconst 0, 1) := by decide +kernel
theorem dX8_strikes_3 : decode cX8_strikes 3 = .ok (.istore 4, 2) := by decide +kernel
theorem dX8_strikes_5 : decode cX8_strikes 5 = .ok (.iload 4, 2) := by decide +kernel
theorem dX8_strikes_7 : decode cX8_strikes 7 = .ok (.aload_n 0, 1) := by decide +kernel
theorem dX8_strikes_8 : decode cX8_strikes 8 = .ok (.getfield 7, 3) := by decide +kernel
theorem dX8_strikes_11 : decode cX8_strikes 11 = .ok (.iload_n 1, 1) := by decide +kernel
theorem dX8_strikes_12 : decode cX8_strikes 12 = .ok (.iconst 4, 1) := by decide +kernel
theorem dX8_strikes_13 : decode cX8_strikes 13 = .ok (.invokestatic 27, 3) := by decide +kernel
theorem dX8_strikes_16 : decode cX8_strikes 16 = .ok (.iaload, 1) := by decide +kernel
theorem dX8_strikes_17 : decode cX8_strikes 17 = .ok (.if_icmp .ge 52, 3) := by decide +kernel
theorem dX8_strikes_20 : decode cX8_strikes 20 = .ok (.aload_n 0, 1) := by decide +kernel
theorem dX8_strikes_21 : decode cX8_strikes 21 = .ok (.getfield 7, 3) := by decide +kernel
theorem dX8_strikes_24 : decode cX8_strikes 24 = .ok (.iload_n 1, 1) := by decide +kernel
theorem dX8_strikes_25 : decode cX8_strikes 25 = .ok (.iconst 5, 1) := by decide +kernel
theorem dX8_strikes_26 : decode cX8_strikes 26 = .ok (.iload 4, 2) := by decide +kernel
theorem dX8_strikes_28 : decode cX8_strikes 28 = .ok (.iadd, 1) := by decide +kernel
theorem dX8_strikes_29 : decode cX8_strikes 29 = .ok (.invokestatic 27, 3) := by decide +kernel
theorem dX8_strikes_32 : decode cX8_strikes 32 = .ok (.iaload, 1) := by decide +kernel
theorem dX8_strikes_33 : decode cX8_strikes 33 = .ok (.istore 5, 2) := by decide +kernel
theorem dX8_strikes_35 : decode cX8_strikes 35 = .ok (.aload_n 0, 1) := by decide +kernel
theorem dX8_strikes_36 : decode cX8_strikes 36 = .ok (.getfield 7, 3) := by decide +kernel
theorem dX8_strikes_39 : decode cX8_strikes 39 = .ok (.iload_n 1, 1) := by decide +kernel
theorem dX8_strikes_40 : decode cX8_strikes 40 = .ok (.iconst 5, 1) := by decide +kernel
theorem dX8_strikes_41 : decode cX8_strikes 41 = .ok (.iload_n 3, 1) := by decide +kernel
theorem dX8_strikes_42 : decode cX8_strikes 42 = .ok (.iadd, 1) := by decide +kernel
theorem dX8_strikes_43 : decode cX8_strikes 43 = .ok (.invokestatic 27, 3) := by decide +kernel
theorem dX8_strikes_46 : decode cX8_strikes 46 = .ok (.iload 5, 2) := by decide +kernel
theorem dX8_strikes_48 : decode cX8_strikes 48 = .ok (.iastore, 1) := by decide +kernel
theorem dX8_strikes_49 : decode cX8_strikes 49 = .ok (.iload_n 3, 1) := by decide +kernel
theorem dX8_strikes_50 : decode cX8_strikes 50 = .ok (.iload 5, 2) := by decide +kernel
theorem dX8_strikes_52 : decode cX8_strikes 52 = .ok (.iload_n 2, 1) := by decide +kernel
theorem dX8_strikes_53 : decode cX8_strikes 53 = .ok (.if_icmp .ne 7, 3) := by decide +kernel
theorem dX8_strikes_56 : decode cX8_strikes 56 = .ok (.iconst 0, 1) := by decide +kernel
theorem dX8_strikes_57 : decode cX8_strikes 57 = .ok (.goto 4, 3) := by decide +kernel
theorem dX8_strikes_60 : decode cX8_strikes 60 = .ok (.iconst 1, 1) := by decide +kernel
theorem dX8_strikes_61 : decode cX8_strikes 61 = .ok (.iadd, 1) := by decide +kernel
theorem dX8_strikes_62 : decode cX8_strikes 62 = .ok (.istore_n 3, 1) := by decide +kernel
theorem dX8_strikes_63 : decode cX8_strikes 63 = .ok (.iinc 4 1, 3) := by decide +kernel
theorem dX8_strikes_66 : decode cX8_strikes 66 = .ok (.goto (-61), 3) := by decide +kernel
theorem dX8_strikes_69 : decode cX8_strikes 69 = .ok (.aload_n 0, 1) := by decide +kernel
theorem dX8_strikes_70 : decode cX8_strikes 70 = .ok (.getfield 7, 3) := by decide +kernel
theorem dX8_strikes_73 : decode cX8_strikes 73 = .ok (.iload_n 1, 1) := by decide +kernel
theorem dX8_strikes_74 : decode cX8_strikes 74 = .ok (.iconst 4, 1) := by decide +kernel
theorem dX8_strikes_75 : decode cX8_strikes 75 = .ok (.invokestatic 27, 3) := by decide +kernel
theorem dX8_strikes_78 : decode cX8_strikes 78 = .ok (.iload_n 3, 1) := by decide +kernel
theorem dX8_strikes_79 : decode cX8_strikes 79 = .ok (.iastore, 1) := by decide +kernel
theorem dX8_strikes_80 : decode cX8_strikes 80 = .ok (.return_, 1) := by decide +kernel
theorem dX8_leaves_0 : decode cX8_leaves 0 = .ok (.aload_n 0, 1) := by decide +kernel
theorem dX8_leaves_1 : decode cX8_leaves 1 = .ok (.getfield 7, 3) := by decide +kernel
theorem dX8_leaves_4 : decode cX8_leaves 4 = .ok (.iload_n 1, 1) := by decide +kernel
theorem dX8_leaves_5 : decode cX8_leaves 5 = .ok (.iconst 1, 1) := by decide +kernel
theorem dX8_leaves_6 : decode cX8_leaves 6 = .ok (.invokestatic 27, 3) := by decide +kernel
theorem dX8_leaves_9 : decode cX8_leaves 9 = .ok (.iconst 0, 1) := by decide +kernel
theorem dX8_leaves_10 : decode cX8_leaves 10 = .ok (.iastore, 1) := by decide +kernel
theorem dX8_leaves_11 : decode cX8_leaves 11 = .ok (.aload_n 0, 1) := by decide +kernel
theorem dX8_leaves_12 : decode cX8_leaves 12 = .ok (.getfield 7, 3) := by decide +kernel
theorem dX8_leaves_15 : decode cX8_leaves 15 = .ok (.iload_n 1, 1) := by decide +kernel
theorem dX8_leaves_16 : decode cX8_leaves 16 = .ok (.iconst 2, 1) := by decide +kernel
theorem dX8_leaves_17 : decode cX8_leaves 17 = .ok (.invokestatic 27, 3) := by decide +kernel
theorem dX8_leaves_20 : decode cX8_leaves 20 = .ok (.iconst 0, 1) := by decide +kernel
theorem dX8_leaves_21 : decode cX8_leaves 21 = .ok (.iastore, 1) := by decide +kernel
theorem dX8_leaves_22 : decode cX8_leaves 22 = .ok (.aload_n 0, 1) := by decide +kernel
theorem dX8_leaves_23 : decode cX8_leaves 23 = .ok (.getfield 7, 3) := by decide +kernel
theorem dX8_leaves_26 : decode cX8_leaves 26 = .ok (.iload_n 1, 1) := by decide +kernel
theorem dX8_leaves_27 : decode cX8_leaves 27 = .ok (.iconst 4, 1) := by decide +kernel
theorem dX8_leaves_28 : decode cX8_leaves 28 = .ok (.invokestatic 27, 3) := by decide +kernel
theorem dX8_leaves_31 : decode cX8_leaves 31 = .ok (.iconst 0, 1) := by decide +kernel
theorem dX8_leaves_32 : decode cX8_leaves 32 = .ok (.iastore, 1) := by decide +kernel
theorem dX8_leaves_33 : decode cX8_leaves 33 = .ok (.iconst 0, 1) := by decide +kernel
theorem dX8_leaves_34 : decode cX8_leaves 34 = .ok (.istore_n 2, 1) := by decide +kernel
theorem dX8_leaves_35 : decode cX8_leaves 35 = .ok (.iload_n 2, 1) := by decide +kernel
theorem dX8_leaves_36 : decode cX8_leaves 36 = .ok (.aload_n 0, 1) := by decide +kernel
theorem dX8_leaves_37 : decode cX8_leaves 37 = .ok (.getfield 7, 3) := by decide +kernel
theorem dX8_leaves_40 : decode cX8_leaves 40 = .ok (.bipush 10, 2) := by decide +kernel
theorem dX8_leaves_42 : decode cX8_leaves 42 = .ok (.iaload, 1) := by decide +kernel
theorem dX8_leaves_43 : decode cX8_leaves 43 = .ok (.if_icmp .ge 15, 3) := by decide +kernel
theorem dX8_leaves_46 : decode cX8_leaves 46 = .ok (.aload_n 0, 1) := by decide +kernel
theorem dX8_leaves_47 : decode cX8_leaves 47 = .ok (.iload_n 2, 1) := by decide +kernel
theorem dX8_leaves_48 : decode cX8_leaves 48 = .ok (.iload_n 1, 1) := by decide +kernel
theorem dX8_leaves_49 : decode cX8_leaves 49 = .ok (.invokevirtual 79, 3) := by decide +kernel
theorem dX8_leaves_52 : decode cX8_leaves 52 = .ok (.iinc 2 1, 3) := by decide +kernel
theorem dX8_leaves_55 : decode cX8_leaves 55 = .ok (.goto (-20), 3) := by decide +kernel
theorem dX8_leaves_58 : decode cX8_leaves 58 = .ok (.aload_n 0, 1) := by decide +kernel
theorem dX8_leaves_59 : decode cX8_leaves 59 = .ok (.getfield 7, 3) := by decide +kernel
theorem dX8_leaves_62 : decode cX8_leaves 62 = .ok (.bipush 8, 2) := by decide +kernel
theorem dX8_leaves_64 : decode cX8_leaves 64 = .ok (.iaload, 1) := by decide +kernel
theorem dX8_leaves_65 : decode cX8_leaves 65 = .ok (.iload_n 1, 1) := by decide +kernel
theorem dX8_leaves_66 : decode cX8_leaves 66 = .ok (.if_icmp .ne 22, 3) := by decide +kernel
theorem dX8_leaves_69 : decode cX8_leaves 69 = .ok (.aload_n 0, 1) := by decide +kernel
theorem dX8_leaves_70 : decode cX8_leaves 70 = .ok (.getfield 7, 3) := by decide +kernel
theorem dX8_leaves_73 : decode cX8_leaves 73 = .ok (.bipush 7, 2) := by decide +kernel
theorem dX8_leaves_75 : decode cX8_leaves 75 = .ok (.iaload, 1) := by decide +kernel
theorem dX8_leaves_76 : decode cX8_leaves 76 = .ok (.iconst 2, 1) := by decide +kernel
theorem dX8_leaves_77 : decode cX8_leaves 77 = .ok (.if_icmp .ne 11, 3) := by decide +kernel
theorem dX8_leaves_80 : decode cX8_leaves 80 = .ok (.aload_n 0, 1) := by decide +kernel
theorem dX8_leaves_81 : decode cX8_leaves 81 = .ok (.iconst 4, 1) := by decide +kernel
theorem dX8_leaves_82 : decode cX8_leaves 82 = .ok (.invokevirtual 66, 3) := by decide +kernel
theorem dX8_leaves_85 : decode cX8_leaves 85 = .ok (.goto 31, 3) := by decide +kernel
theorem dX8_leaves_88 : decode cX8_leaves 88 = .ok (.aload_n 0, 1) := by decide +kernel
theorem dX8_leaves_89 : decode cX8_leaves 89 = .ok (.getfield 7, 3) := by decide +kernel
theorem dX8_leaves_92 : decode cX8_leaves 92 = .ok (.bipush 8, 2) := by decide +kernel
theorem dX8_leaves_94 : decode cX8_leaves 94 = .ok (.iaload, 1) := by decide +kernel
theorem dX8_leaves_95 : decode cX8_leaves 95 = .ok (.iload_n 1, 1) := by decide +kernel
theorem dX8_leaves_96 : decode cX8_leaves 96 = .ok (.if_icmp .ne 20, 3) := by decide +kernel
theorem dX8_leaves_99 : decode cX8_leaves 99 = .ok (.aload_n 0, 1) := by decide +kernel
theorem dX8_leaves_100 : decode cX8_leaves 100 = .ok (.getfield 7, 3) := by decide +kernel
theorem dX8_leaves_103 : decode cX8_leaves 103 = .ok (.bipush 7, 2) := by decide +kernel
theorem dX8_leaves_105 : decode cX8_leaves 105 = .ok (.iaload, 1) := by decide +kernel
theorem dX8_leaves_106 : decode cX8_leaves 106 = .ok (.iconst 1, 1) := by decide +kernel
theorem dX8_leaves_107 : decode cX8_leaves 107 = .ok (.if_icmp .ne 9, 3) := by decide +kernel
theorem dX8_leaves_110 : decode cX8_leaves 110 = .ok (.aload_n 0, 1) := by decide +kernel
theorem dX8_leaves_111 : decode cX8_leaves 111 = .ok (.bipush (-9), 2) := by decide +kernel
theorem dX8_leaves_113 : decode cX8_leaves 113 = .ok (.invokevirtual 55, 3) := by decide +kernel
theorem dX8_leaves_116 : decode cX8_leaves 116 = .ok (.return_, 1) := by decide +kernel
theorem dX8_setPresent_0 : decode cX8_setPresent 0 = .ok (.aload_n 0, 1) := by decide +kernel
theorem dX8_setPresent_1 : decode cX8_setPresent 1 = .ok (.iload_n 1, 1) := by decide +kernel
theorem dX8_setPresent_2 : decode cX8_setPresent 2 = .ok (.invokevirtual 82, 3) := by decide +kernel
theorem dX8_setPresent_5 : decode cX8_setPresent 5 = .ok (.ifCond .ne 5, 3) := by decide +kernel
theorem dX8_setPresent_8 : decode cX8_setPresent 8 = .ok (.iconst (-1), 1) := by decide +kernel
theorem dX8_setPresent_9 : decode cX8_setPresent 9 = .ok (.ireturn, 1) := by decide +kernel
theorem dX8_setPresent_10 : decode cX8_setPresent 10 = .ok (.aload_n 0, 1) := by decide +kernel
theorem dX8_setPresent_11 : decode cX8_setPresent 11 = .ok (.invokevirtual 73, 3) := by decide +kernel
theorem dX8_setPresent_14 : decode cX8_setPresent 14 = .ok (.aload_n 0, 1) := by decide +kernel
theorem dX8_setPresent_15 : decode cX8_setPresent 15 = .ok (.getfield 7, 3) := by decide +kernel
theorem dX8_setPresent_18 : decode cX8_setPresent 18 = .ok (.iload_n 1, 1) := by decide +kernel
theorem dX8_setPresent_19 : decode cX8_setPresent 19 = .ok (.iconst 1, 1) := by decide +kernel
theorem dX8_setPresent_20 : decode cX8_setPresent 20 = .ok (.invokestatic 27, 3) := by decide +kernel
theorem dX8_setPresent_23 : decode cX8_setPresent 23 = .ok (.iaload, 1) := by decide +kernel
theorem dX8_setPresent_24 : decode cX8_setPresent 24 = .ok (.istore_n 3, 1) := by decide +kernel
theorem dX8_setPresent_25 : decode cX8_setPresent 25 = .ok (.iload_n 2, 1) := by decide +kernel
theorem dX8_setPresent_26 : decode cX8_setPresent 26 = .ok (.ifCond .eq 25, 3) := by decide +kernel
theorem dX8_setPresent_29 : decode cX8_setPresent 29 = .ok (.iload_n 3, 1) := by decide +kernel
theorem dX8_setPresent_30 : decode cX8_setPresent 30 = .ok (.ifCond .ne 21, 3) := by decide +kernel
theorem dX8_setPresent_33 : decode cX8_setPresent 33 = .ok (.aload_n 0, 1) := by decide +kernel
theorem dX8_setPresent_34 : decode cX8_setPresent 34 = .ok (.getfield 7, 3) := by decide +kernel
theorem dX8_setPresent_37 : decode cX8_setPresent 37 = .ok (.iload_n 1, 1) := by decide +kernel
theorem dX8_setPresent_38 : decode cX8_setPresent 38 = .ok (.iconst 1, 1) := by decide +kernel
theorem dX8_setPresent_39 : decode cX8_setPresent 39 = .ok (.invokestatic 27, 3) := by decide +kernel
theorem dX8_setPresent_42 : decode cX8_setPresent 42 = .ok (.iconst 1, 1) := by decide +kernel
theorem dX8_setPresent_43 : decode cX8_setPresent 43 = .ok (.iastore, 1) := by decide +kernel
theorem dX8_setPresent_44 : decode cX8_setPresent 44 = .ok (.aload_n 0, 1) := by decide +kernel
theorem dX8_setPresent_45 : decode cX8_setPresent 45 = .ok (.invokevirtual 76, 3) := by decide +kernel
theorem dX8_setPresent_48 : decode cX8_setPresent 48 = .ok (.goto 21, 3) := by decide +kernel
theorem dX8_setPresent_51 : decode cX8_setPresent 51 = .ok (.iload_n 2, 1) := by decide +kernel
theorem dX8_setPresent_52 : decode cX8_setPresent 52 = .ok (.ifCond .ne 17, 3) := by decide +kernel
theorem dX8_setPresent_55 : decode cX8_setPresent 55 = .ok (.iload_n 3, 1) := by decide +kernel
theorem dX8_setPresent_56 : decode cX8_setPresent 56 = .ok (.iconst 1, 1) := by decide +kernel
theorem dX8_setPresent_57 : decode cX8_setPresent 57 = .ok (.if_icmp .ne 12, 3) := by decide +kernel
theorem dX8_setPresent_60 : decode cX8_setPresent 60 = .ok (.aload_n 0, 1) := by decide +kernel
theorem dX8_setPresent_61 : decode cX8_setPresent 61 = .ok (.iload_n 1, 1) := by decide +kernel
theorem dX8_setPresent_62 : decode cX8_setPresent 62 = .ok (.invokevirtual 85, 3) := by decide +kernel
theorem dX8_setPresent_65 : decode cX8_setPresent 65 = .ok (.aload_n 0, 1) := by decide +kernel
theorem dX8_setPresent_66 : decode cX8_setPresent 66 = .ok (.invokevirtual 76, 3) := by decide +kernel
theorem dX8_setPresent_69 : decode cX8_setPresent 69 = .ok (.iload_n 3, 1) := by decide +kernel
theorem dX8_setPresent_70 : decode cX8_setPresent 70 = .ok (.ireturn, 1) := by decide +kernel
theorem dX8_pass_0 : decode cX8_pass 0 = .ok (.iload_n 1, 1) := by decide +kernel
theorem dX8_pass_1 : decode cX8_pass 1 = .ok (.iconst 1, 1) := by decide +kernel
theorem dX8_pass_2 : decode cX8_pass 2 = .ok (.sipush 1000, 3) := by decide +kernel
theorem dX8_pass_5 : decode cX8_pass 5 = .ok (.invokestatic 23, 3) := by decide +kernel
theorem dX8_pass_8 : decode cX8_pass 8 = .ok (.ifCond .ne 5, 3) := by decide +kernel
theorem dX8_pass_11 : decode cX8_pass 11 = .ok (.iconst (-1), 1) := by decide +kernel
theorem dX8_pass_12 : decode cX8_pass 12 = .ok (.ireturn, 1) := by decide +kernel
theorem dX8_pass_13 : decode cX8_pass 13 = .ok (.aload_n 0, 1) := by decide +kernel
theorem dX8_pass_14 : decode cX8_pass 14 = .ok (.getfield 7, 3) := by decide +kernel
theorem dX8_pass_17 : decode cX8_pass 17 = .ok (.bipush 6, 2) := by decide +kernel
theorem dX8_pass_19 : decode cX8_pass 19 = .ok (.iaload, 1) := by decide +kernel
theorem dX8_pass_20 : decode cX8_pass 20 = .ok (.iload_n 1, 1) := by decide +kernel
theorem dX8_pass_21 : decode cX8_pass 21 = .ok (.iadd, 1) := by decide +kernel
theorem dX8_pass_22 : decode cX8_pass 22 = .ok (.ldc 88, 2) := by decide +kernel
theorem dX8_pass_24 : decode cX8_pass 24 = .ok (.if_icmp .le 6, 3) := by decide +kernel
theorem dX8_pass_27 : decode cX8_pass 27 = .ok (.bipush (-2), 2) := by decide +kernel
theorem dX8_pass_29 : decode cX8_pass 29 = .ok (.ireturn, 1) := by decide +kernel
theorem dX8_pass_30 : decode cX8_pass 30 = .ok (.aload_n 0, 1) := by decide +kernel
theorem dX8_pass_31 : decode cX8_pass 31 = .ok (.invokevirtual 73, 3) := by decide +kernel
theorem dX8_pass_34 : decode cX8_pass 34 = .ok (.aload_n 0, 1) := by decide +kernel
theorem dX8_pass_35 : decode cX8_pass 35 = .ok (.getfield 7, 3) := by decide +kernel
theorem dX8_pass_38 : decode cX8_pass 38 = .ok (.bipush 6, 2) := by decide +kernel
theorem dX8_pass_40 : decode cX8_pass 40 = .ok (.iaload, 1) := by decide +kernel
theorem dX8_pass_41 : decode cX8_pass 41 = .ok (.iload_n 1, 1) := by decide +kernel
theorem dX8_pass_42 : decode cX8_pass 42 = .ok (.iadd, 1) := by decide +kernel
theorem dX8_pass_43 : decode cX8_pass 43 = .ok (.istore_n 2, 1) := by decide +kernel
theorem dX8_pass_44 : decode cX8_pass 44 = .ok (.aload_n 0, 1) := by decide +kernel
theorem dX8_pass_45 : decode cX8_pass 45 = .ok (.getfield 7, 3) := by decide +kernel
theorem dX8_pass_48 : decode cX8_pass 48 = .ok (.bipush 7, 2) := by decide +kernel
theorem dX8_pass_50 : decode cX8_pass 50 = .ok (.iaload, 1) := by decide +kernel
theorem dX8_pass_51 : decode cX8_pass 51 = .ok (.iconst 2, 1) := by decide +kernel
theorem dX8_pass_52 : decode cX8_pass 52 = .ok (.if_icmp .ne 51, 3) := by decide +kernel
theorem dX8_pass_55 : decode cX8_pass 55 = .ok (.aload_n 0, 1) := by decide +kernel
theorem dX8_pass_56 : decode cX8_pass 56 = .ok (.getfield 7, 3) := by decide +kernel
theorem dX8_pass_59 : decode cX8_pass 59 = .ok (.aload_n 0, 1) := by decide +kernel
theorem dX8_pass_60 : decode cX8_pass 60 = .ok (.getfield 7, 3) := by decide +kernel
theorem dX8_pass_63 : decode cX8_pass 63 = .ok (.bipush 9, 2) := by decide +kernel
theorem dX8_pass_65 : decode cX8_pass 65 = .ok (.iaload, 1) := by decide +kernel
theorem dX8_pass_66 : decode cX8_pass 66 = .ok (.iconst 2, 1) := by decide +kernel
theorem dX8_pass_67 : decode cX8_pass 67 = .ok (.invokestatic 31, 3) := by decide +kernel
theorem dX8_pass_70 : decode cX8_pass 70 = .ok (.iaload, 1) := by decide +kernel
theorem dX8_pass_71 : decode cX8_pass 71 = .ok (.iload_n 2, 1) := by decide +kernel
theorem dX8_pass_72 : decode cX8_pass 72 = .ok (.if_icmp .gt 31, 3) := by decide +kernel
theorem dX8_pass_75 : decode cX8_pass 75 = .ok (.aload_n 0, 1) := by decide +kernel
theorem dX8_pass_76 : decode cX8_pass 76 = .ok (.getfield 7, 3) := by decide +kernel
theorem dX8_pass_79 : decode cX8_pass 79 = .ok (.bipush 6, 2) := by decide +kernel
theorem dX8_pass_81 : decode cX8_pass 81 = .ok (.aload_n 0, 1) := by decide +kernel
theorem dX8_pass_82 : decode cX8_pass 82 = .ok (.getfield 7, 3) := by decide +kernel
theorem dX8_pass_85 : decode cX8_pass 85 = .ok (.aload_n 0, 1) := by decide +kernel
theorem dX8_pass_86 : decode cX8_pass 86 = .ok (.getfield 7, 3) := by decide +kernel
theorem dX8_pass_89 : decode cX8_pass 89 = .ok (.bipush 9, 2) := by decide +kernel
theorem dX8_pass_91 : decode cX8_pass 91 = .ok (.iaload, 1) := by decide +kernel
theorem dX8_pass_92 : decode cX8_pass 92 = .ok (.iconst 2, 1) := by decide +kernel
theorem dX8_pass_93 : decode cX8_pass 93 = .ok (.invokestatic 31, 3) := by decide +kernel
theorem dX8_pass_96 : decode cX8_pass 96 = .ok (.iaload, 1) := by decide +kernel
theorem dX8_pass_97 : decode cX8_pass 97 = .ok (.iastore, 1) := by decide +kernel
theorem dX8_pass_98 : decode cX8_pass 98 = .ok (.aload_n 0, 1) := by decide +kernel
theorem dX8_pass_99 : decode cX8_pass 99 = .ok (.iconst 2, 1) := by decide +kernel
theorem dX8_pass_100 : decode cX8_pass 100 = .ok (.invokevirtual 66, 3) := by decide +kernel
theorem dX8_pass_103 : decode cX8_pass 103 = .ok (.aload_n 0, 1) := by decide +kernel
theorem dX8_pass_104 : decode cX8_pass 104 = .ok (.getfield 7, 3) := by decide +kernel
theorem dX8_pass_107 : decode cX8_pass 107 = .ok (.bipush 6, 2) := by decide +kernel
theorem dX8_pass_109 : decode cX8_pass 109 = .ok (.iload_n 2, 1) := by decide +kernel
theorem dX8_pass_110 : decode cX8_pass 110 = .ok (.iastore, 1) := by decide +kernel
theorem dX8_pass_111 : decode cX8_pass 111 = .ok (.iload_n 2, 1) := by decide +kernel
theorem dX8_pass_112 : decode cX8_pass 112 = .ok (.ireturn, 1) := by decide +kernel
theorem dX8_open_0 : decode cX8_open 0 = .ok (.aload_n 0, 1) := by decide +kernel
theorem dX8_open_1 : decode cX8_open 1 = .ok (.getfield 7, 3) := by decide +kernel
theorem dX8_open_4 : decode cX8_open 4 = .ok (.bipush 11, 2) := by decide +kernel
theorem dX8_open_6 : decode cX8_open 6 = .ok (.iaload, 1) := by decide +kernel
theorem dX8_open_7 : decode cX8_open 7 = .ok (.iconst 1, 1) := by decide +kernel
theorem dX8_open_8 : decode cX8_open 8 = .ok (.if_icmp .eq 14, 3) := by decide +kernel
theorem dX8_open_11 : decode cX8_open 11 = .ok (.aload_n 0, 1) := by decide +kernel
theorem dX8_open_12 : decode cX8_open 12 = .ok (.getfield 7, 3) := by decide +kernel
theorem dX8_open_15 : decode cX8_open 15 = .ok (.bipush 7, 2) := by decide +kernel
theorem dX8_open_17 : decode cX8_open 17 = .ok (.iaload, 1) := by decide +kernel
theorem dX8_open_18 : decode cX8_open 18 = .ok (.iconst 2, 1) := by decide +kernel
theorem dX8_open_19 : decode cX8_open 19 = .ok (.if_icmp .ne 6, 3) := by decide +kernel
theorem dX8_open_22 : decode cX8_open 22 = .ok (.bipush (-2), 2) := by decide +kernel
theorem dX8_open_24 : decode cX8_open 24 = .ok (.ireturn, 1) := by decide +kernel
theorem dX8_open_25 : decode cX8_open 25 = .ok (.aload_n 0, 1) := by decide +kernel
theorem dX8_open_26 : decode cX8_open 26 = .ok (.getfield 7, 3) := by decide +kernel
theorem dX8_open_29 : decode cX8_open 29 = .ok (.bipush 9, 2) := by decide +kernel
theorem dX8_open_31 : decode cX8_open 31 = .ok (.iaload, 1) := by decide +kernel
theorem dX8_open_32 : decode cX8_open 32 = .ok (.bipush 40, 2) := by decide +kernel
theorem dX8_open_34 : decode cX8_open 34 = .ok (.if_icmp .ne 6, 3) := by decide +kernel
theorem dX8_open_37 : decode cX8_open 37 = .ok (.bipush (-3), 2) := by decide +kernel
theorem dX8_open_39 : decode cX8_open 39 = .ok (.ireturn, 1) := by decide +kernel
theorem dX8_open_40 : decode cX8_open 40 = .ok (.aload_n 0, 1) := by decide +kernel
theorem dX8_open_41 : decode cX8_open 41 = .ok (.invokevirtual 73, 3) := by decide +kernel
theorem dX8_open_44 : decode cX8_open 44 = .ok (.aload_n 0, 1) := by decide +kernel
theorem dX8_open_45 : decode cX8_open 45 = .ok (.getfield 7, 3) := by decide +kernel
theorem dX8_open_48 : decode cX8_open 48 = .ok (.bipush 11, 2) := by decide +kernel
theorem dX8_open_50 : decode cX8_open 50 = .ok (.iconst 1, 1) := by decide +kernel
theorem dX8_open_51 : decode cX8_open 51 = .ok (.iastore, 1) := by decide +kernel
theorem dX8_open_52 : decode cX8_open 52 = .ok (.aload_n 0, 1) := by decide +kernel
theorem dX8_open_53 : decode cX8_open 53 = .ok (.getfield 7, 3) := by decide +kernel
theorem dX8_open_56 : decode cX8_open 56 = .ok (.bipush 9, 2) := by decide +kernel
theorem dX8_open_58 : decode cX8_open 58 = .ok (.iaload, 1) := by decide +kernel
theorem dX8_open_59 : decode cX8_open 59 = .ok (.iconst 1, 1) := by decide +kernel
theorem dX8_open_60 : decode cX8_open 60 = .ok (.iadd, 1) := by decide +kernel
theorem dX8_open_61 : decode cX8_open 61 = .ok (.ireturn, 1) := by decide +kernel
theorem dX8_candidates_0 : decode cX8_candidates 0 = .ok (.iconst 0, 1) := by decide +kernel
theorem dX8_candidates_1 : decode cX8_candidates 1 = .ok (.istore_n 1, 1) := by decide +kernel
theorem dX8_candidates_2 : decode cX8_candidates 2 = .ok (.iconst 0, 1) := by decide +kernel
theorem dX8_candidates_3 : decode cX8_candidates 3 = .ok (.istore_n 2, 1) := by decide +kernel
theorem dX8_candidates_4 : decode cX8_candidates 4 = .ok (.iload_n 2, 1) := by decide +kernel
theorem dX8_candidates_5 : decode cX8_candidates 5 = .ok (.aload_n 0, 1) := by decide +kernel
theorem dX8_candidates_6 : decode cX8_candidates 6 = .ok (.getfield 7, 3) := by decide +kernel
theorem dX8_candidates_9 : decode cX8_candidates 9 = .ok (.bipush 10, 2) := by decide +kernel
theorem dX8_candidates_11 : decode cX8_candidates 11 = .ok (.iaload, 1) := by decide +kernel
theorem dX8_candidates_12 : decode cX8_candidates 12 = .ok (.if_icmp .ge 22, 3) := by decide +kernel
theorem dX8_candidates_15 : decode cX8_candidates 15 = .ok (.iload_n 1, 1) := by decide +kernel
theorem dX8_candidates_16 : decode cX8_candidates 16 = .ok (.aload_n 0, 1) := by decide +kernel
theorem dX8_candidates_17 : decode cX8_candidates 17 = .ok (.getfield 7, 3) := by decide +kernel
theorem dX8_candidates_20 : decode cX8_candidates 20 = .ok (.iload_n 2, 1) := by decide +kernel
theorem dX8_candidates_21 : decode cX8_candidates 21 = .ok (.iconst 2, 1) := by decide +kernel
theorem dX8_candidates_22 : decode cX8_candidates 22 = .ok (.invokestatic 27, 3) := by decide +kernel
theorem dX8_candidates_25 : decode cX8_candidates 25 = .ok (.iaload, 1) := by decide +kernel
theorem dX8_candidates_26 : decode cX8_candidates 26 = .ok (.iadd, 1) := by decide +kernel
theorem dX8_candidates_27 : decode cX8_candidates 27 = .ok (.istore_n 1, 1) := by decide +kernel
theorem dX8_candidates_28 : decode cX8_candidates 28 = .ok (.iinc 2 1, 3) := by decide +kernel
theorem dX8_candidates_31 : decode cX8_candidates 31 = .ok (.goto (-27), 3) := by decide +kernel
theorem dX8_candidates_34 : decode cX8_candidates 34 = .ok (.iload_n 1, 1) := by decide +kernel
theorem dX8_candidates_35 : decode cX8_candidates 35 = .ok (.ireturn, 1) := by decide +kernel
theorem dX8_nominate_0 : decode cX8_nominate 0 = .ok (.aload_n 0, 1) := by decide +kernel
theorem dX8_nominate_1 : decode cX8_nominate 1 = .ok (.iload_n 1, 1) := by decide +kernel
theorem dX8_nominate_2 : decode cX8_nominate 2 = .ok (.invokevirtual 82, 3) := by decide +kernel
theorem dX8_nominate_5 : decode cX8_nominate 5 = .ok (.ifCond .ne 5, 3) := by decide +kernel
theorem dX8_nominate_8 : decode cX8_nominate 8 = .ok (.iconst (-1), 1) := by decide +kernel
theorem dX8_nominate_9 : decode cX8_nominate 9 = .ok (.ireturn, 1) := by decide +kernel
theorem dX8_nominate_10 : decode cX8_nominate 10 = .ok (.aload_n 0, 1) := by decide +kernel
theorem dX8_nominate_11 : decode cX8_nominate 11 = .ok (.getfield 7, 3) := by decide +kernel
theorem dX8_nominate_14 : decode cX8_nominate 14 = .ok (.bipush 11, 2) := by decide +kernel
theorem dX8_nominate_16 : decode cX8_nominate 16 = .ok (.iaload, 1) := by decide +kernel
theorem dX8_nominate_17 : decode cX8_nominate 17 = .ok (.ifCond .eq 17, 3) := by decide +kernel
theorem dX8_nominate_20 : decode cX8_nominate 20 = .ok (.aload_n 0, 1) := by decide +kernel
theorem dX8_nominate_21 : decode cX8_nominate 21 = .ok (.getfield 7, 3) := by decide +kernel
theorem dX8_nominate_24 : decode cX8_nominate 24 = .ok (.iload_n 1, 1) := by decide +kernel
theorem dX8_nominate_25 : decode cX8_nominate 25 = .ok (.iconst 2, 1) := by decide +kernel
theorem dX8_nominate_26 : decode cX8_nominate 26 = .ok (.invokestatic 27, 3) := by decide +kernel
theorem dX8_nominate_29 : decode cX8_nominate 29 = .ok (.iaload, 1) := by decide +kernel
theorem dX8_nominate_30 : decode cX8_nominate 30 = .ok (.iconst 1, 1) := by decide +kernel
theorem dX8_nominate_31 : decode cX8_nominate 31 = .ok (.if_icmp .ne 6, 3) := by decide +kernel
theorem dX8_nominate_34 : decode cX8_nominate 34 = .ok (.bipush (-2), 2) := by decide +kernel
theorem dX8_nominate_36 : decode cX8_nominate 36 = .ok (.ireturn, 1) := by decide +kernel
theorem dX8_nominate_37 : decode cX8_nominate 37 = .ok (.aload_n 0, 1) := by decide +kernel
theorem dX8_nominate_38 : decode cX8_nominate 38 = .ok (.iload_n 1, 1) := by decide +kernel
theorem dX8_nominate_39 : decode cX8_nominate 39 = .ok (.invokevirtual 89, 3) := by decide +kernel
theorem dX8_nominate_42 : decode cX8_nominate 42 = .ok (.ifCond .ne 6, 3) := by decide +kernel
theorem dX8_nominate_45 : decode cX8_nominate 45 = .ok (.bipush (-4), 2) := by decide +kernel
theorem dX8_nominate_47 : decode cX8_nominate 47 = .ok (.ireturn, 1) := by decide +kernel
theorem dX8_nominate_48 : decode cX8_nominate 48 = .ok (.aload_n 0, 1) := by decide +kernel
theorem dX8_nominate_49 : decode cX8_nominate 49 = .ok (.invokevirtual 73, 3) := by decide +kernel
theorem dX8_nominate_52 : decode cX8_nominate 52 = .ok (.aload_n 0, 1) := by decide +kernel
theorem dX8_nominate_53 : decode cX8_nominate 53 = .ok (.getfield 7, 3) := by decide +kernel
theorem dX8_nominate_56 : decode cX8_nominate 56 = .ok (.iload_n 1, 1) := by decide +kernel
theorem dX8_nominate_57 : decode cX8_nominate 57 = .ok (.iconst 2, 1) := by decide +kernel
theorem dX8_nominate_58 : decode cX8_nominate 58 = .ok (.invokestatic 27, 3) := by decide +kernel
theorem dX8_nominate_61 : decode cX8_nominate 61 = .ok (.iconst 1, 1) := by decide +kernel
theorem dX8_nominate_62 : decode cX8_nominate 62 = .ok (.iastore, 1) := by decide +kernel
theorem dX8_nominate_63 : decode cX8_nominate 63 = .ok (.aload_n 0, 1) := by decide +kernel
theorem dX8_nominate_64 : decode cX8_nominate 64 = .ok (.invokevirtual 92, 3) := by decide +kernel
theorem dX8_nominate_67 : decode cX8_nominate 67 = .ok (.ireturn, 1) := by decide +kernel
theorem dX8_ballots_0 : decode cX8_ballots 0 = .ok (.iconst 0, 1) := by decide +kernel
theorem dX8_ballots_1 : decode cX8_ballots 1 = .ok (.istore_n 1, 1) := by decide +kernel
theorem dX8_ballots_2 : decode cX8_ballots 2 = .ok (.iconst 0, 1) := by decide +kernel
theorem dX8_ballots_3 : decode cX8_ballots 3 = .ok (.istore_n 2, 1) := by decide +kernel
theorem dX8_ballots_4 : decode cX8_ballots 4 = .ok (.iload_n 2, 1) := by decide +kernel
theorem dX8_ballots_5 : decode cX8_ballots 5 = .ok (.aload_n 0, 1) := by decide +kernel
theorem dX8_ballots_6 : decode cX8_ballots 6 = .ok (.getfield 7, 3) := by decide +kernel
theorem dX8_ballots_9 : decode cX8_ballots 9 = .ok (.bipush 10, 2) := by decide +kernel
theorem dX8_ballots_11 : decode cX8_ballots 11 = .ok (.iaload, 1) := by decide +kernel
theorem dX8_ballots_12 : decode cX8_ballots 12 = .ok (.if_icmp .ge 30, 3) := by decide +kernel
theorem dX8_ballots_15 : decode cX8_ballots 15 = .ok (.iload_n 1, 1) := by decide +kernel
theorem dX8_ballots_16 : decode cX8_ballots 16 = .ok (.aload_n 0, 1) := by decide +kernel
theorem dX8_ballots_17 : decode cX8_ballots 17 = .ok (.getfield 7, 3) := by decide +kernel
theorem dX8_ballots_20 : decode cX8_ballots 20 = .ok (.iload_n 2, 1) := by decide +kernel
theorem dX8_ballots_21 : decode cX8_ballots 21 = .ok (.iconst 4, 1) := by decide +kernel
theorem dX8_ballots_22 : decode cX8_ballots 22 = .ok (.invokestatic 27, 3) := by decide +kernel
theorem dX8_ballots_25 : decode cX8_ballots 25 = .ok (.iaload, 1) := by decide +kernel
theorem dX8_ballots_26 : decode cX8_ballots 26 = .ok (.ifCond .le 7, 3) := by decide +kernel
theorem dX8_ballots_29 : decode cX8_ballots 29 = .ok (.iconst 1, 1) := by decide +kernel
theorem dX8_ballots_30 : decode cX8_ballots 30 = .ok (.goto 4, 3) := by decide +kernel
theorem dX8_ballots_33 : decode cX8_ballots 33 = .ok (.iconst 0, 1) := by decide +kernel
theorem dX8_ballots_34 : decode cX8_ballots 34 = .ok (.iadd, 1) := by decide +kernel
theorem dX8_ballots_35 : decode cX8_ballots 35 = .ok (.istore_n 1, 1) := by decide +kernel
theorem dX8_ballots_36 : decode cX8_ballots 36 = .ok (.iinc 2 1, 3) := by decide +kernel
theorem dX8_ballots_39 : decode cX8_ballots 39 = .ok (.goto (-35), 3) := by decide +kernel
theorem dX8_ballots_42 : decode cX8_ballots 42 = .ok (.iload_n 1, 1) := by decide +kernel
theorem dX8_ballots_43 : decode cX8_ballots 43 = .ok (.ireturn, 1) := by decide +kernel
theorem dX8_wrongAt_0 : decode cX8_wrongAt 0 = .ok (.iconst 0, 1) := by decide +kernel
theorem dX8_wrongAt_1 : decode cX8_wrongAt 1 = .ok (.istore_n 1, 1) := by decide +kernel
theorem dX8_wrongAt_2 : decode cX8_wrongAt 2 = .ok (.iconst 0, 1) := by decide +kernel
theorem dX8_wrongAt_3 : decode cX8_wrongAt 3 = .ok (.istore_n 2, 1) := by decide +kernel
theorem dX8_wrongAt_4 : decode cX8_wrongAt 4 = .ok (.iload_n 2, 1) := by decide +kernel
theorem dX8_wrongAt_5 : decode cX8_wrongAt 5 = .ok (.aload_n 0, 1) := by decide +kernel
theorem dX8_wrongAt_6 : decode cX8_wrongAt 6 = .ok (.getfield 95, 3) := by decide +kernel
theorem dX8_wrongAt_9 : decode cX8_wrongAt 9 = .ok (.if_icmp .ge 83, 3) := by decide +kernel
theorem dX8_wrongAt_12 : decode cX8_wrongAt 12 = .ok (.aload_n 0, 1) := by decide +kernel
theorem dX8_wrongAt_13 : decode cX8_wrongAt 13 = .ok (.getfield 16, 3) := by decide +kernel
theorem dX8_wrongAt_16 : decode cX8_wrongAt 16 = .ok (.iload_n 2, 1) := by decide +kernel
theorem dX8_wrongAt_17 : decode cX8_wrongAt 17 = .ok (.iaload, 1) := by decide +kernel
theorem dX8_wrongAt_18 : decode cX8_wrongAt 18 = .ok (.bipush 48, 2) := by decide +kernel
theorem dX8_wrongAt_20 : decode cX8_wrongAt 20 = .ok (.isub, 1) := by decide +kernel
theorem dX8_wrongAt_21 : decode cX8_wrongAt 21 = .ok (.istore_n 3, 1) := by decide +kernel
theorem dX8_wrongAt_22 : decode cX8_wrongAt 22 = .ok (.iload_n 2, 1) := by decide +kernel
theorem dX8_wrongAt_23 : decode cX8_wrongAt 23 = .ok (.iconst 2, 1) := by decide +kernel
theorem dX8_wrongAt_24 : decode cX8_wrongAt 24 = .ok (.irem, 1) := by decide +kernel
theorem dX8_wrongAt_25 : decode cX8_wrongAt 25 = .ok (.iconst 1, 1) := by decide +kernel
theorem dX8_wrongAt_26 : decode cX8_wrongAt 26 = .ok (.if_icmp .ne 16, 3) := by decide +kernel
theorem dX8_wrongAt_29 : decode cX8_wrongAt 29 = .ok (.aload_n 0, 1) := by decide +kernel
theorem dX8_wrongAt_30 : decode cX8_wrongAt 30 = .ok (.getfield 16, 3) := by decide +kernel
theorem dX8_wrongAt_33 : decode cX8_wrongAt 33 = .ok (.iload_n 2, 1) := by decide +kernel
theorem dX8_wrongAt_34 : decode cX8_wrongAt 34 = .ok (.iaload, 1) := by decide +kernel
theorem dX8_wrongAt_35 : decode cX8_wrongAt 35 = .ok (.bipush 62, 2) := by decide +kernel
theorem dX8_wrongAt_37 : decode cX8_wrongAt 37 = .ok (.if_icmp .eq 5, 3) := by decide +kernel
theorem dX8_wrongAt_40 : decode cX8_wrongAt 40 = .ok (.iload_n 2, 1) := by decide +kernel
theorem dX8_wrongAt_41 : decode cX8_wrongAt 41 = .ok (.ireturn, 1) := by decide +kernel
theorem dX8_wrongAt_42 : decode cX8_wrongAt 42 = .ok (.iload_n 2, 1) := by decide +kernel
theorem dX8_wrongAt_43 : decode cX8_wrongAt 43 = .ok (.iconst 2, 1) := by decide +kernel
theorem dX8_wrongAt_44 : decode cX8_wrongAt 44 = .ok (.irem, 1) := by decide +kernel
theorem dX8_wrongAt_45 : decode cX8_wrongAt 45 = .ok (.ifCond .ne 41, 3) := by decide +kernel
theorem dX8_wrongAt_48 : decode cX8_wrongAt 48 = .ok (.aload_n 0, 1) := by decide +kernel
theorem dX8_wrongAt_49 : decode cX8_wrongAt 49 = .ok (.iload_n 3, 1) := by decide +kernel
theorem dX8_wrongAt_50 : decode cX8_wrongAt 50 = .ok (.invokevirtual 82, 3) := by decide +kernel
theorem dX8_wrongAt_53 : decode cX8_wrongAt 53 = .ok (.ifCond .eq 25, 3) := by decide +kernel
theorem dX8_wrongAt_56 : decode cX8_wrongAt 56 = .ok (.aload_n 0, 1) := by decide +kernel
theorem dX8_wrongAt_57 : decode cX8_wrongAt 57 = .ok (.getfield 7, 3) := by decide +kernel
theorem dX8_wrongAt_60 : decode cX8_wrongAt 60 = .ok (.iload_n 3, 1) := by decide +kernel
theorem dX8_wrongAt_61 : decode cX8_wrongAt 61 = .ok (.iconst 2, 1) := by decide +kernel
theorem dX8_wrongAt_62 : decode cX8_wrongAt 62 = .ok (.invokestatic 27, 3) := by decide +kernel
theorem dX8_wrongAt_65 : decode cX8_wrongAt 65 = .ok (.iaload, 1) := by decide +kernel
theorem dX8_wrongAt_66 : decode cX8_wrongAt 66 = .ok (.ifCond .eq 12, 3) := by decide +kernel
theorem dX8_wrongAt_69 : decode cX8_wrongAt 69 = .ok (.iload_n 1, 1) := by decide +kernel
theorem dX8_wrongAt_70 : decode cX8_wrongAt 70 = .ok (.iload_n 3, 1) := by decide +kernel
theorem dX8_wrongAt_71 : decode cX8_wrongAt 71 = .ok (.ishr, 1) := by decide +kernel
theorem dX8_wrongAt_72 : decode cX8_wrongAt 72 = .ok (.iconst 1, 1) := by decide +kernel
theorem dX8_wrongAt_73 : decode cX8_wrongAt 73 = .ok (.iand, 1) := by decide +kernel
theorem dX8_wrongAt_74 : decode cX8_wrongAt 74 = .ok (.iconst 1, 1) := by decide +kernel
theorem dX8_wrongAt_75 : decode cX8_wrongAt 75 = .ok (.if_icmp .ne 5, 3) := by decide +kernel
theorem dX8_wrongAt_78 : decode cX8_wrongAt 78 = .ok (.iload_n 2, 1) := by decide +kernel
theorem dX8_wrongAt_79 : decode cX8_wrongAt 79 = .ok (.ireturn, 1) := by decide +kernel
theorem dX8_wrongAt_80 : decode cX8_wrongAt 80 = .ok (.iload_n 1, 1) := by decide +kernel
theorem dX8_wrongAt_81 : decode cX8_wrongAt 81 = .ok (.iconst 1, 1) := by decide +kernel
theorem dX8_wrongAt_82 : decode cX8_wrongAt 82 = .ok (.iload_n 3, 1) := by decide +kernel
theorem dX8_wrongAt_83 : decode cX8_wrongAt 83 = .ok (.ishl, 1) := by decide +kernel
theorem dX8_wrongAt_84 : decode cX8_wrongAt 84 = .ok (.ior, 1) := by decide +kernel
theorem dX8_wrongAt_85 : decode cX8_wrongAt 85 = .ok (.istore_n 1, 1) := by decide +kernel
theorem dX8_wrongAt_86 : decode cX8_wrongAt 86 = .ok (.iinc 2 1, 3) := by decide +kernel
theorem dX8_wrongAt_89 : decode cX8_wrongAt 89 = .ok (.goto (-85), 3) := by decide +kernel
theorem dX8_wrongAt_92 : decode cX8_wrongAt 92 = .ok (.aload_n 0, 1) := by decide +kernel
theorem dX8_wrongAt_93 : decode cX8_wrongAt 93 = .ok (.getfield 95, 3) := by decide +kernel
theorem dX8_wrongAt_96 : decode cX8_wrongAt 96 = .ok (.iconst 2, 1) := by decide +kernel
theorem dX8_wrongAt_97 : decode cX8_wrongAt 97 = .ok (.irem, 1) := by decide +kernel
theorem dX8_wrongAt_98 : decode cX8_wrongAt 98 = .ok (.iconst 1, 1) := by decide +kernel
theorem dX8_wrongAt_99 : decode cX8_wrongAt 99 = .ok (.if_icmp .ne 7, 3) := by decide +kernel
theorem dX8_wrongAt_102 : decode cX8_wrongAt 102 = .ok (.iconst (-1), 1) := by decide +kernel
theorem dX8_wrongAt_103 : decode cX8_wrongAt 103 = .ok (.goto 7, 3) := by decide +kernel
theorem dX8_wrongAt_106 : decode cX8_wrongAt 106 = .ok (.aload_n 0, 1) := by decide +kernel
theorem dX8_wrongAt_107 : decode cX8_wrongAt 107 = .ok (.getfield 95, 3) := by decide +kernel
theorem dX8_wrongAt_110 : decode cX8_wrongAt 110 = .ok (.ireturn, 1) := by decide +kernel
theorem dX8_cast_0 : decode cX8_cast 0 = .ok (.aload_n 0, 1) := by decide +kernel
theorem dX8_cast_1 : decode cX8_cast 1 = .ok (.iload_n 1, 1) := by decide +kernel
theorem dX8_cast_2 : decode cX8_cast 2 = .ok (.invokevirtual 82, 3) := by decide +kernel
theorem dX8_cast_5 : decode cX8_cast 5 = .ok (.ifCond .ne 5, 3) := by decide +kernel
theorem dX8_cast_8 : decode cX8_cast 8 = .ok (.iconst (-1), 1) := by decide +kernel
theorem dX8_cast_9 : decode cX8_cast 9 = .ok (.ireturn, 1) := by decide +kernel
theorem dX8_cast_10 : decode cX8_cast 10 = .ok (.aload_n 0, 1) := by decide +kernel
theorem dX8_cast_11 : decode cX8_cast 11 = .ok (.getfield 7, 3) := by decide +kernel
theorem dX8_cast_14 : decode cX8_cast 14 = .ok (.bipush 11, 2) := by decide +kernel
theorem dX8_cast_16 : decode cX8_cast 16 = .ok (.iaload, 1) := by decide +kernel
theorem dX8_cast_17 : decode cX8_cast 17 = .ok (.ifCond .eq 11, 3) := by decide +kernel
theorem dX8_cast_20 : decode cX8_cast 20 = .ok (.aload_n 0, 1) := by decide +kernel
theorem dX8_cast_21 : decode cX8_cast 21 = .ok (.iload_n 1, 1) := by decide +kernel
theorem dX8_cast_22 : decode cX8_cast 22 = .ok (.invokevirtual 41, 3) := by decide +kernel
theorem dX8_cast_25 : decode cX8_cast 25 = .ok (.ifCond .ne 6, 3) := by decide +kernel
theorem dX8_cast_28 : decode cX8_cast 28 = .ok (.bipush (-2), 2) := by decide +kernel
theorem dX8_cast_30 : decode cX8_cast 30 = .ok (.ireturn, 1) := by decide +kernel
theorem dX8_cast_31 : decode cX8_cast 31 = .ok (.aload_n 0, 1) := by decide +kernel
theorem dX8_cast_32 : decode cX8_cast 32 = .ok (.invokevirtual 98, 3) := by decide +kernel
theorem dX8_cast_35 : decode cX8_cast 35 = .ok (.istore_n 2, 1) := by decide +kernel
theorem dX8_cast_36 : decode cX8_cast 36 = .ok (.iload_n 2, 1) := by decide +kernel
theorem dX8_cast_37 : decode cX8_cast 37 = .ok (.ifCond .lt 8, 3) := by decide +kernel
theorem dX8_cast_40 : decode cX8_cast 40 = .ok (.bipush (-100), 2) := by decide +kernel
theorem dX8_cast_42 : decode cX8_cast 42 = .ok (.iload_n 2, 1) := by decide +kernel
theorem dX8_cast_43 : decode cX8_cast 43 = .ok (.isub, 1) := by decide +kernel
theorem dX8_cast_44 : decode cX8_cast 44 = .ok (.ireturn, 1) := by decide +kernel
theorem dX8_cast_45 : decode cX8_cast 45 = .ok (.aload_n 0, 1) := by decide +kernel
theorem dX8_cast_46 : decode cX8_cast 46 = .ok (.invokevirtual 73, 3) := by decide +kernel
theorem dX8_cast_49 : decode cX8_cast 49 = .ok (.aload_n 0, 1) := by decide +kernel
theorem dX8_cast_50 : decode cX8_cast 50 = .ok (.getfield 7, 3) := by decide +kernel
theorem dX8_cast_53 : decode cX8_cast 53 = .ok (.iload_n 1, 1) := by decide +kernel
theorem dX8_cast_54 : decode cX8_cast 54 = .ok (.iconst 4, 1) := by decide +kernel
theorem dX8_cast_55 : decode cX8_cast 55 = .ok (.invokestatic 27, 3) := by decide +kernel
theorem dX8_cast_58 : decode cX8_cast 58 = .ok (.aload_n 0, 1) := by decide +kernel
theorem dX8_cast_59 : decode cX8_cast 59 = .ok (.getfield 95, 3) := by decide +kernel
theorem dX8_cast_62 : decode cX8_cast 62 = .ok (.iconst 1, 1) := by decide +kernel
theorem dX8_cast_63 : decode cX8_cast 63 = .ok (.iadd, 1) := by decide +kernel
theorem dX8_cast_64 : decode cX8_cast 64 = .ok (.iconst 2, 1) := by decide +kernel
theorem dX8_cast_65 : decode cX8_cast 65 = .ok (.idiv, 1) := by decide +kernel
theorem dX8_cast_66 : decode cX8_cast 66 = .ok (.iastore, 1) := by decide +kernel
theorem dX8_cast_67 : decode cX8_cast 67 = .ok (.iconst 0, 1) := by decide +kernel
theorem dX8_cast_68 : decode cX8_cast 68 = .ok (.istore_n 3, 1) := by decide +kernel
theorem dX8_cast_69 : decode cX8_cast 69 = .ok (.iload_n 3, 1) := by decide +kernel
theorem dX8_cast_70 : decode cX8_cast 70 = .ok (.aload_n 0, 1) := by decide +kernel
theorem dX8_cast_71 : decode cX8_cast 71 = .ok (.getfield 7, 3) := by decide +kernel
theorem dX8_cast_74 : decode cX8_cast 74 = .ok (.iload_n 1, 1) := by decide +kernel
theorem dX8_cast_75 : decode cX8_cast 75 = .ok (.iconst 4, 1) := by decide +kernel
theorem dX8_cast_76 : decode cX8_cast 76 = .ok (.invokestatic 27, 3) := by decide +kernel
theorem dX8_cast_79 : decode cX8_cast 79 = .ok (.iaload, 1) := by decide +kernel
theorem dX8_cast_80 : decode cX8_cast 80 = .ok (.if_icmp .ge 32, 3) := by decide +kernel
theorem dX8_cast_83 : decode cX8_cast 83 = .ok (.aload_n 0, 1) := by decide +kernel
theorem dX8_cast_84 : decode cX8_cast 84 = .ok (.getfield 7, 3) := by decide +kernel
theorem dX8_cast_87 : decode cX8_cast 87 = .ok (.iload_n 1, 1) := by decide +kernel
theorem dX8_cast_88 : decode cX8_cast 88 = .ok (.iconst 5, 1) := by decide +kernel
theorem dX8_cast_89 : decode cX8_cast 89 = .ok (.iload_n 3, 1) := by decide +kernel
theorem dX8_cast_90 : decode cX8_cast 90 = .ok (.iadd, 1) := by decide +kernel
theorem dX8_cast_91 : decode cX8_cast 91 = .ok (.invokestatic 27, 3) := by decide +kernel
theorem dX8_cast_94 : decode cX8_cast 94 = .ok (.aload_n 0, 1) := by decide +kernel
theorem dX8_cast_95 : decode cX8_cast 95 = .ok (.getfield 16, 3) := by decide +kernel
theorem dX8_cast_98 : decode cX8_cast 98 = .ok (.iconst 2, 1) := by decide +kernel
theorem dX8_cast_99 : decode cX8_cast 99 = .ok (.iload_n 3, 1) := by decide +kernel
theorem dX8_cast_100 : decode cX8_cast 100 = .ok (.imul, 1) := by decide +kernel
theorem dX8_cast_101 : decode cX8_cast 101 = .ok (.iaload, 1) := by decide +kernel
theorem dX8_cast_102 : decode cX8_cast 102 = .ok (.bipush 48, 2) := by decide +kernel
theorem dX8_cast_104 : decode cX8_cast 104 = .ok (.isub, 1) := by decide +kernel
theorem dX8_cast_105 : decode cX8_cast 105 = .ok (.iastore, 1) := by decide +kernel
theorem dX8_cast_106 : decode cX8_cast 106 = .ok (.iinc 3 1, 3) := by decide +kernel
theorem dX8_cast_109 : decode cX8_cast 109 = .ok (.goto (-40), 3) := by decide +kernel
theorem dX8_cast_112 : decode cX8_cast 112 = .ok (.aload_n 0, 1) := by decide +kernel
theorem dX8_cast_113 : decode cX8_cast 113 = .ok (.iconst 0, 1) := by decide +kernel
theorem dX8_cast_114 : decode cX8_cast 114 = .ok (.putfield 95, 3) := by decide +kernel
theorem dX8_cast_117 : decode cX8_cast 117 = .ok (.aload_n 0, 1) := by decide +kernel
theorem dX8_cast_118 : decode cX8_cast 118 = .ok (.invokevirtual 101, 3) := by decide +kernel
theorem dX8_cast_121 : decode cX8_cast 121 = .ok (.ireturn, 1) := by decide +kernel
theorem dX8_firstOf_0 : decode cX8_firstOf 0 = .ok (.iconst 0, 1) := by decide +kernel
theorem dX8_firstOf_1 : decode cX8_firstOf 1 = .ok (.istore_n 2, 1) := by decide +kernel
theorem dX8_firstOf_2 : decode cX8_firstOf 2 = .ok (.iload_n 2, 1) := by decide +kernel
theorem dX8_firstOf_3 : decode cX8_firstOf 3 = .ok (.aload_n 0, 1) := by decide +kernel
theorem dX8_firstOf_4 : decode cX8_firstOf 4 = .ok (.getfield 7, 3) := by decide +kernel
theorem dX8_firstOf_7 : decode cX8_firstOf 7 = .ok (.iload_n 1, 1) := by decide +kernel
theorem dX8_firstOf_8 : decode cX8_firstOf 8 = .ok (.iconst 4, 1) := by decide +kernel
theorem dX8_firstOf_9 : decode cX8_firstOf 9 = .ok (.invokestatic 27, 3) := by decide +kernel
theorem dX8_firstOf_12 : decode cX8_firstOf 12 = .ok (.iaload, 1) := by decide +kernel
theorem dX8_firstOf_13 : decode cX8_firstOf 13 = .ok (.if_icmp .ge 36, 3) := by decide +kernel
theorem dX8_firstOf_16 : decode cX8_firstOf 16 = .ok (.aload_n 0, 1) := by decide +kernel
theorem dX8_firstOf_17 : decode cX8_firstOf 17 = .ok (.getfield 7, 3) := by decide +kernel
theorem dX8_firstOf_20 : decode cX8_firstOf 20 = .ok (.iload_n 1, 1) := by decide +kernel
theorem dX8_firstOf_21 : decode cX8_firstOf 21 = .ok (.iconst 5, 1) := by decide +kernel
theorem dX8_firstOf_22 : decode cX8_firstOf 22 = .ok (.iload_n 2, 1) := by decide +kernel
theorem dX8_firstOf_23 : decode cX8_firstOf 23 = .ok (.iadd, 1) := by decide +kernel
theorem dX8_firstOf_24 : decode cX8_firstOf 24 = .ok (.invokestatic 27, 3) := by decide +kernel
theorem dX8_firstOf_27 : decode cX8_firstOf 27 = .ok (.iaload, 1) := by decide +kernel
theorem dX8_firstOf_28 : decode cX8_firstOf 28 = .ok (.istore_n 3, 1) := by decide +kernel
theorem dX8_firstOf_29 : decode cX8_firstOf 29 = .ok (.aload_n 0, 1) := by decide +kernel
theorem dX8_firstOf_30 : decode cX8_firstOf 30 = .ok (.getfield 104, 3) := by decide +kernel
theorem dX8_firstOf_33 : decode cX8_firstOf 33 = .ok (.iload_n 3, 1) := by decide +kernel
theorem dX8_firstOf_34 : decode cX8_firstOf 34 = .ok (.ishr, 1) := by decide +kernel
theorem dX8_firstOf_35 : decode cX8_firstOf 35 = .ok (.iconst 1, 1) := by decide +kernel
theorem dX8_firstOf_36 : decode cX8_firstOf 36 = .ok (.iand, 1) := by decide +kernel
theorem dX8_firstOf_37 : decode cX8_firstOf 37 = .ok (.iconst 1, 1) := by decide +kernel
theorem dX8_firstOf_38 : decode cX8_firstOf 38 = .ok (.if_icmp .ne 5, 3) := by decide +kernel
theorem dX8_firstOf_41 : decode cX8_firstOf 41 = .ok (.iload_n 3, 1) := by decide +kernel
theorem dX8_firstOf_42 : decode cX8_firstOf 42 = .ok (.ireturn, 1) := by decide +kernel
theorem dX8_firstOf_43 : decode cX8_firstOf 43 = .ok (.iinc 2 1, 3) := by decide +kernel
theorem dX8_firstOf_46 : decode cX8_firstOf 46 = .ok (.goto (-44), 3) := by decide +kernel
theorem dX8_firstOf_49 : decode cX8_firstOf 49 = .ok (.bipush (-9), 2) := by decide +kernel
theorem dX8_firstOf_51 : decode cX8_firstOf 51 = .ok (.ireturn, 1) := by decide +kernel
theorem dX8_raceMany_0 : decode cX8_raceMany 0 = .ok (.iconst 0, 1) := by decide +kernel
theorem dX8_raceMany_1 : decode cX8_raceMany 1 = .ok (.istore_n 1, 1) := by decide +kernel
theorem dX8_raceMany_2 : decode cX8_raceMany 2 = .ok (.iconst 0, 1) := by decide +kernel
theorem dX8_raceMany_3 : decode cX8_raceMany 3 = .ok (.istore_n 2, 1) := by decide +kernel
theorem dX8_raceMany_4 : decode cX8_raceMany 4 = .ok (.iload_n 2, 1) := by decide +kernel
theorem dX8_raceMany_5 : decode cX8_raceMany 5 = .ok (.bipush 10, 2) := by decide +kernel
theorem dX8_raceMany_7 : decode cX8_raceMany 7 = .ok (.if_icmp .ge 20, 3) := by decide +kernel
theorem dX8_raceMany_10 : decode cX8_raceMany 10 = .ok (.iload_n 1, 1) := by decide +kernel
theorem dX8_raceMany_11 : decode cX8_raceMany 11 = .ok (.aload_n 0, 1) := by decide +kernel
theorem dX8_raceMany_12 : decode cX8_raceMany 12 = .ok (.getfield 104, 3) := by decide +kernel
theorem dX8_raceMany_15 : decode cX8_raceMany 15 = .ok (.iload_n 2, 1) := by decide +kernel
theorem dX8_raceMany_16 : decode cX8_raceMany 16 = .ok (.ishr, 1) := by decide +kernel
theorem dX8_raceMany_17 : decode cX8_raceMany 17 = .ok (.iconst 1, 1) := by decide +kernel
theorem dX8_raceMany_18 : decode cX8_raceMany 18 = .ok (.iand, 1) := by decide +kernel
theorem dX8_raceMany_19 : decode cX8_raceMany 19 = .ok (.iadd, 1) := by decide +kernel
theorem dX8_raceMany_20 : decode cX8_raceMany 20 = .ok (.istore_n 1, 1) := by decide +kernel
theorem dX8_raceMany_21 : decode cX8_raceMany 21 = .ok (.iinc 2 1, 3) := by decide +kernel
theorem dX8_raceMany_24 : decode cX8_raceMany 24 = .ok (.goto (-20), 3) := by decide +kernel
theorem dX8_raceMany_27 : decode cX8_raceMany 27 = .ok (.iload_n 1, 1) := by decide +kernel
theorem dX8_raceMany_28 : decode cX8_raceMany 28 = .ok (.ireturn, 1) := by decide +kernel
theorem dX8_tallyAt_0 : decode cX8_tallyAt 0 = .ok (.sipush 980, 3) := by decide +kernel
theorem dX8_tallyAt_3 : decode cX8_tallyAt 3 = .ok (.bipush 10, 2) := by decide +kernel
theorem dX8_tallyAt_5 : decode cX8_tallyAt 5 = .ok (.iload_n 1, 1) := by decide +kernel
theorem dX8_tallyAt_6 : decode cX8_tallyAt 6 = .ok (.imul, 1) := by decide +kernel
theorem dX8_tallyAt_7 : decode cX8_tallyAt 7 = .ok (.iadd, 1) := by decide +kernel
theorem dX8_tallyAt_8 : decode cX8_tallyAt 8 = .ok (.iload_n 2, 1) := by decide +kernel
theorem dX8_tallyAt_9 : decode cX8_tallyAt 9 = .ok (.iadd, 1) := by decide +kernel
theorem dX8_tallyAt_10 : decode cX8_tallyAt 10 = .ok (.ireturn, 1) := by decide +kernel
theorem dX8_isWeaker_0 : decode cX8_isWeaker 0 = .ok (.aload_n 0, 1) := by decide +kernel
theorem dX8_isWeaker_1 : decode cX8_isWeaker 1 = .ok (.getfield 7, 3) := by decide +kernel
theorem dX8_isWeaker_4 : decode cX8_isWeaker 4 = .ok (.aload_n 0, 1) := by decide +kernel
theorem dX8_isWeaker_5 : decode cX8_isWeaker 5 = .ok (.iload_n 1, 1) := by decide +kernel
theorem dX8_isWeaker_6 : decode cX8_isWeaker 6 = .ok (.iload_n 3, 1) := by decide +kernel
theorem dX8_isWeaker_7 : decode cX8_isWeaker 7 = .ok (.invokevirtual 107, 3) := by decide +kernel
theorem dX8_isWeaker_10 : decode cX8_isWeaker 10 = .ok (.iaload, 1) := by decide +kernel
theorem dX8_isWeaker_11 : decode cX8_isWeaker 11 = .ok (.aload_n 0, 1) := by decide +kernel
theorem dX8_isWeaker_12 : decode cX8_isWeaker 12 = .ok (.getfield 7, 3) := by decide +kernel
theorem dX8_isWeaker_15 : decode cX8_isWeaker 15 = .ok (.aload_n 0, 1) := by decide +kernel
theorem dX8_isWeaker_16 : decode cX8_isWeaker 16 = .ok (.iload_n 1, 1) := by decide +kernel
theorem dX8_isWeaker_17 : decode cX8_isWeaker 17 = .ok (.iload_n 2, 1) := by decide +kernel
theorem dX8_isWeaker_18 : decode cX8_isWeaker 18 = .ok (.invokevirtual 107, 3) := by decide +kernel
theorem dX8_isWeaker_21 : decode cX8_isWeaker 21 = .ok (.iaload, 1) := by decide +kernel
theorem dX8_isWeaker_22 : decode cX8_isWeaker 22 = .ok (.isub, 1) := by decide +kernel
theorem dX8_isWeaker_23 : decode cX8_isWeaker 23 = .ok (.istore 4, 2) := by decide +kernel
theorem dX8_isWeaker_25 : decode cX8_isWeaker 25 = .ok (.iload 4, 2) := by decide +kernel
theorem dX8_isWeaker_27 : decode cX8_isWeaker 27 = .ok (.ifCond .ne 17, 3) := by decide +kernel
theorem dX8_isWeaker_30 : decode cX8_isWeaker 30 = .ok (.aload_n 0, 1) := by decide +kernel
theorem dX8_isWeaker_31 : decode cX8_isWeaker 31 = .ok (.iload_n 3, 1) := by decide +kernel
theorem dX8_isWeaker_32 : decode cX8_isWeaker 32 = .ok (.invokevirtual 48, 3) := by decide +kernel
theorem dX8_isWeaker_35 : decode cX8_isWeaker 35 = .ok (.aload_n 0, 1) := by decide +kernel
theorem dX8_isWeaker_36 : decode cX8_isWeaker 36 = .ok (.iload_n 2, 1) := by decide +kernel
theorem dX8_isWeaker_37 : decode cX8_isWeaker 37 = .ok (.invokevirtual 48, 3) := by decide +kernel
theorem dX8_isWeaker_40 : decode cX8_isWeaker 40 = .ok (.isub, 1) := by decide +kernel
theorem dX8_isWeaker_41 : decode cX8_isWeaker 41 = .ok (.goto 5, 3) := by decide +kernel
theorem dX8_isWeaker_44 : decode cX8_isWeaker 44 = .ok (.iload 4, 2) := by decide +kernel
theorem dX8_isWeaker_46 : decode cX8_isWeaker 46 = .ok (.istore 4, 2) := by decide +kernel
theorem dX8_isWeaker_48 : decode cX8_isWeaker 48 = .ok (.iload 4, 2) := by decide +kernel
theorem dX8_isWeaker_50 : decode cX8_isWeaker 50 = .ok (.ifCond .ne 17, 3) := by decide +kernel
theorem dX8_isWeaker_53 : decode cX8_isWeaker 53 = .ok (.aload_n 0, 1) := by decide +kernel
theorem dX8_isWeaker_54 : decode cX8_isWeaker 54 = .ok (.iload_n 2, 1) := by decide +kernel
theorem dX8_isWeaker_55 : decode cX8_isWeaker 55 = .ok (.invokevirtual 45, 3) := by decide +kernel
theorem dX8_isWeaker_58 : decode cX8_isWeaker 58 = .ok (.aload_n 0, 1) := by decide +kernel
theorem dX8_isWeaker_59 : decode cX8_isWeaker 59 = .ok (.iload_n 3, 1) := by decide +kernel
theorem dX8_isWeaker_60 : decode cX8_isWeaker 60 = .ok (.invokevirtual 45, 3) := by decide +kernel
theorem dX8_isWeaker_63 : decode cX8_isWeaker 63 = .ok (.isub, 1) := by decide +kernel
theorem dX8_isWeaker_64 : decode cX8_isWeaker 64 = .ok (.goto 5, 3) := by decide +kernel
theorem dX8_isWeaker_67 : decode cX8_isWeaker 67 = .ok (.iload 4, 2) := by decide +kernel
theorem dX8_isWeaker_69 : decode cX8_isWeaker 69 = .ok (.istore 4, 2) := by decide +kernel
theorem dX8_isWeaker_71 : decode cX8_isWeaker 71 = .ok (.iload 4, 2) := by decide +kernel
theorem dX8_isWeaker_73 : decode cX8_isWeaker 73 = .ok (.ifCond .ne 16, 3) := by decide +kernel
theorem dX8_isWeaker_76 : decode cX8_isWeaker 76 = .ok (.iload_n 2, 1) := by decide +kernel
theorem dX8_isWeaker_77 : decode cX8_isWeaker 77 = .ok (.iload_n 3, 1) := by decide +kernel
theorem dX8_isWeaker_78 : decode cX8_isWeaker 78 = .ok (.if_icmp .le 7, 3) := by decide +kernel
theorem dX8_isWeaker_81 : decode cX8_isWeaker 81 = .ok (.iconst 1, 1) := by decide +kernel
theorem dX8_isWeaker_82 : decode cX8_isWeaker 82 = .ok (.goto 17, 3) := by decide +kernel
theorem dX8_isWeaker_85 : decode cX8_isWeaker 85 = .ok (.iconst 0, 1) := by decide +kernel
theorem dX8_isWeaker_86 : decode cX8_isWeaker 86 = .ok (.goto 13, 3) := by decide +kernel
theorem dX8_isWeaker_89 : decode cX8_isWeaker 89 = .ok (.iload 4, 2) := by decide +kernel
theorem dX8_isWeaker_91 : decode cX8_isWeaker 91 = .ok (.ifCond .le 7, 3) := by decide +kernel
theorem dX8_isWeaker_94 : decode cX8_isWeaker 94 = .ok (.iconst 1, 1) := by decide +kernel
theorem dX8_isWeaker_95 : decode cX8_isWeaker 95 = .ok (.goto 4, 3) := by decide +kernel
theorem dX8_isWeaker_98 : decode cX8_isWeaker 98 = .ok (.iconst 0, 1) := by decide +kernel
theorem dX8_isWeaker_99 : decode cX8_isWeaker 99 = .ok (.ireturn, 1) := by decide +kernel
theorem dX8_holdsRound_0 : decode cX8_holdsRound 0 = .ok (.iconst 0, 1) := by decide +kernel
theorem dX8_holdsRound_1 : decode cX8_holdsRound 1 = .ok (.istore_n 2, 1) := by decide +kernel
theorem dX8_holdsRound_2 : decode cX8_holdsRound 2 = .ok (.iconst 0, 1) := by decide +kernel
theorem dX8_holdsRound_3 : decode cX8_holdsRound 3 = .ok (.istore_n 3, 1) := by decide +kernel
theorem dX8_holdsRound_4 : decode cX8_holdsRound 4 = .ok (.iload_n 3, 1) := by decide +kernel
theorem dX8_holdsRound_5 : decode cX8_holdsRound 5 = .ok (.bipush 10, 2) := by decide +kernel
theorem dX8_holdsRound_7 : decode cX8_holdsRound 7 = .ok (.if_icmp .ge 38, 3) := by decide +kernel
theorem dX8_holdsRound_10 : decode cX8_holdsRound 10 = .ok (.aload_n 0, 1) := by decide +kernel
theorem dX8_holdsRound_11 : decode cX8_holdsRound 11 = .ok (.getfield 7, 3) := by decide +kernel
theorem dX8_holdsRound_14 : decode cX8_holdsRound 14 = .ok (.aload_n 0, 1) := by decide +kernel
theorem dX8_holdsRound_15 : decode cX8_holdsRound 15 = .ok (.iload_n 1, 1) := by decide +kernel
theorem dX8_holdsRound_16 : decode cX8_holdsRound 16 = .ok (.iload_n 3, 1) := by decide +kernel
theorem dX8_holdsRound_17 : decode cX8_holdsRound 17 = .ok (.invokevirtual 107, 3) := by decide +kernel
theorem dX8_holdsRound_20 : decode cX8_holdsRound 20 = .ok (.aload_n 0, 1) := by decide +kernel
theorem dX8_holdsRound_21 : decode cX8_holdsRound 21 = .ok (.getfield 104, 3) := by decide +kernel
theorem dX8_holdsRound_24 : decode cX8_holdsRound 24 = .ok (.iload_n 3, 1) := by decide +kernel
theorem dX8_holdsRound_25 : decode cX8_holdsRound 25 = .ok (.ishr, 1) := by decide +kernel
theorem dX8_holdsRound_26 : decode cX8_holdsRound 26 = .ok (.iconst 1, 1) := by decide +kernel
theorem dX8_holdsRound_27 : decode cX8_holdsRound 27 = .ok (.iand, 1) := by decide +kernel
theorem dX8_holdsRound_28 : decode cX8_holdsRound 28 = .ok (.iconst 1, 1) := by decide +kernel
theorem dX8_holdsRound_29 : decode cX8_holdsRound 29 = .ok (.if_icmp .ne 7, 3) := by decide +kernel
theorem dX8_holdsRound_32 : decode cX8_holdsRound 32 = .ok (.iconst 0, 1) := by decide +kernel
theorem dX8_holdsRound_33 : decode cX8_holdsRound 33 = .ok (.goto 5, 3) := by decide +kernel
theorem dX8_holdsRound_36 : decode cX8_holdsRound 36 = .ok (.bipush (-9), 2) := by decide +kernel
theorem dX8_holdsRound_38 : decode cX8_holdsRound 38 = .ok (.iastore, 1) := by decide +kernel
theorem dX8_holdsRound_39 : decode cX8_holdsRound 39 = .ok (.iinc 3 1, 3) := by decide +kernel
theorem dX8_holdsRound_42 : decode cX8_holdsRound 42 = .ok (.goto (-38), 3) := by decide +kernel
theorem dX8_holdsRound_45 : decode cX8_holdsRound 45 = .ok (.iconst 0, 1) := by decide +kernel
theorem dX8_holdsRound_46 : decode cX8_holdsRound 46 = .ok (.istore_n 3, 1) := by decide +kernel
theorem dX8_holdsRound_47 : decode cX8_holdsRound 47 = .ok (.iload_n 3, 1) := by decide +kernel
theorem dX8_holdsRound_48 : decode cX8_holdsRound 48 = .ok (.aload_n 0, 1) := by decide +kernel
theorem dX8_holdsRound_49 : decode cX8_holdsRound 49 = .ok (.getfield 7, 3) := by decide +kernel
theorem dX8_holdsRound_52 : decode cX8_holdsRound 52 = .ok (.bipush 10, 2) := by decide +kernel
theorem dX8_holdsRound_54 : decode cX8_holdsRound 54 = .ok (.iaload, 1) := by decide +kernel
theorem dX8_holdsRound_55 : decode cX8_holdsRound 55 = .ok (.if_icmp .ge 40, 3) := by decide +kernel
theorem dX8_holdsRound_58 : decode cX8_holdsRound 58 = .ok (.aload_n 0, 1) := by decide +kernel
theorem dX8_holdsRound_59 : decode cX8_holdsRound 59 = .ok (.iload_n 3, 1) := by decide +kernel
theorem dX8_holdsRound_60 : decode cX8_holdsRound 60 = .ok (.invokevirtual 110, 3) := by decide +kernel
theorem dX8_holdsRound_63 : decode cX8_holdsRound 63 = .ok (.istore 4, 2) := by decide +kernel
theorem dX8_holdsRound_65 : decode cX8_holdsRound 65 = .ok (.iload 4, 2) := by decide +kernel
theorem dX8_holdsRound_67 : decode cX8_holdsRound 67 = .ok (.ifCond .lt 22, 3) := by decide +kernel
theorem dX8_holdsRound_70 : decode cX8_holdsRound 70 = .ok (.aload_n 0, 1) := by decide +kernel
theorem dX8_holdsRound_71 : decode cX8_holdsRound 71 = .ok (.getfield 7, 3) := by decide +kernel
theorem dX8_holdsRound_74 : decode cX8_holdsRound 74 = .ok (.aload_n 0, 1) := by decide +kernel
theorem dX8_holdsRound_75 : decode cX8_holdsRound 75 = .ok (.iload_n 1, 1) := by decide +kernel
theorem dX8_holdsRound_76 : decode cX8_holdsRound 76 = .ok (.iload 4, 2) := by decide +kernel
theorem dX8_holdsRound_78 : decode cX8_holdsRound 78 = .ok (.invokevirtual 107, 3) := by decide +kernel
theorem dX8_holdsRound_81 : decode cX8_holdsRound 81 = .ok (.dup2, 1) := by decide +kernel
theorem dX8_holdsRound_82 : decode cX8_holdsRound 82 = .ok (.iaload, 1) := by decide +kernel
theorem dX8_holdsRound_83 : decode cX8_holdsRound 83 = .ok (.iconst 1, 1) := by decide +kernel
theorem dX8_holdsRound_84 : decode cX8_holdsRound 84 = .ok (.iadd, 1) := by decide +kernel
theorem dX8_holdsRound_85 : decode cX8_holdsRound 85 = .ok (.iastore, 1) := by decide +kernel
theorem dX8_holdsRound_86 : decode cX8_holdsRound 86 = .ok (.iinc 2 1, 3) := by decide +kernel
theorem dX8_holdsRound_89 : decode cX8_holdsRound 89 = .ok (.iinc 3 1, 3) := by decide +kernel
theorem dX8_holdsRound_92 : decode cX8_holdsRound 92 = .ok (.goto (-45), 3) := by decide +kernel
theorem dX8_holdsRound_95 : decode cX8_holdsRound 95 = .ok (.bipush (-9), 2) := by decide +kernel
theorem dX8_holdsRound_97 : decode cX8_holdsRound 97 = .ok (.istore_n 3, 1) := by decide +kernel
theorem dX8_holdsRound_98 : decode cX8_holdsRound 98 = .ok (.iconst 0, 1) := by decide +kernel
theorem dX8_holdsRound_99 : decode cX8_holdsRound 99 = .ok (.istore 4, 2) := by decide +kernel
theorem dX8_holdsRound_101 : decode cX8_holdsRound 101 = .ok (.iload 4, 2) := by decide +kernel
theorem dX8_holdsRound_103 : decode cX8_holdsRound 103 = .ok (.bipush 10, 2) := by decide +kernel
theorem dX8_holdsRound_105 : decode cX8_holdsRound 105 = .ok (.if_icmp .ge 73, 3) := by decide +kernel
theorem dX8_holdsRound_108 : decode cX8_holdsRound 108 = .ok (.aload_n 0, 1) := by decide +kernel
theorem dX8_holdsRound_109 : decode cX8_holdsRound 109 = .ok (.getfield 104, 3) := by decide +kernel
theorem dX8_holdsRound_112 : decode cX8_holdsRound 112 = .ok (.iload 4, 2) := by decide +kernel
theorem dX8_holdsRound_114 : decode cX8_holdsRound 114 = .ok (.ishr, 1) := by decide +kernel
theorem dX8_holdsRound_115 : decode cX8_holdsRound 115 = .ok (.iconst 1, 1) := by decide +kernel
theorem dX8_holdsRound_116 : decode cX8_holdsRound 116 = .ok (.iand, 1) := by decide +kernel
theorem dX8_holdsRound_117 : decode cX8_holdsRound 117 = .ok (.iconst 1, 1) := by decide +kernel
theorem dX8_holdsRound_118 : decode cX8_holdsRound 118 = .ok (.if_icmp .ne 54, 3) := by decide +kernel
theorem dX8_holdsRound_121 : decode cX8_holdsRound 121 = .ok (.iconst 2, 1) := by decide +kernel
theorem dX8_holdsRound_122 : decode cX8_holdsRound 122 = .ok (.aload_n 0, 1) := by decide +kernel
theorem dX8_holdsRound_123 : decode cX8_holdsRound 123 = .ok (.getfield 7, 3) := by decide +kernel
theorem dX8_holdsRound_126 : decode cX8_holdsRound 126 = .ok (.aload_n 0, 1) := by decide +kernel
theorem dX8_holdsRound_127 : decode cX8_holdsRound 127 = .ok (.iload_n 1, 1) := by decide +kernel
theorem dX8_holdsRound_128 : decode cX8_holdsRound 128 = .ok (.iload 4, 2) := by decide +kernel
theorem dX8_holdsRound_130 : decode cX8_holdsRound 130 = .ok (.invokevirtual 107, 3) := by decide +kernel
theorem dX8_holdsRound_133 : decode cX8_holdsRound 133 = .ok (.iaload, 1) := by decide +kernel
theorem dX8_holdsRound_134 : decode cX8_holdsRound 134 = .ok (.imul, 1) := by decide +kernel
theorem dX8_holdsRound_135 : decode cX8_holdsRound 135 = .ok (.iload_n 2, 1) := by decide +kernel
theorem dX8_holdsRound_136 : decode cX8_holdsRound 136 = .ok (.if_icmp .gt 11, 3) := by decide +kernel
theorem dX8_holdsRound_139 : decode cX8_holdsRound 139 = .ok (.aload_n 0, 1) := by decide +kernel
theorem dX8_holdsRound_140 : decode cX8_holdsRound 140 = .ok (.invokevirtual 113, 3) := by decide +kernel
theorem dX8_holdsRound_143 : decode cX8_holdsRound 143 = .ok (.iconst 1, 1) := by decide +kernel
theorem dX8_holdsRound_144 : decode cX8_holdsRound 144 = .ok (.if_icmp .ne 6, 3) := by decide +kernel
theorem dX8_holdsRound_147 : decode cX8_holdsRound 147 = .ok (.iload 4, 2) := by decide +kernel
theorem dX8_holdsRound_149 : decode cX8_holdsRound 149 = .ok (.ireturn, 1) := by decide +kernel
theorem dX8_holdsRound_150 : decode cX8_holdsRound 150 = .ok (.iload_n 3, 1) := by decide +kernel
theorem dX8_holdsRound_151 : decode cX8_holdsRound 151 = .ok (.ifCond .lt 14, 3) := by decide +kernel
theorem dX8_holdsRound_154 : decode cX8_holdsRound 154 = .ok (.aload_n 0, 1) := by decide +kernel
theorem dX8_holdsRound_155 : decode cX8_holdsRound 155 = .ok (.iload_n 1, 1) := by decide +kernel
theorem dX8_holdsRound_156 : decode cX8_holdsRound 156 = .ok (.iload 4, 2) := by decide +kernel
theorem dX8_holdsRound_158 : decode cX8_holdsRound 158 = .ok (.iload_n 3, 1) := by decide +kernel
theorem dX8_holdsRound_159 : decode cX8_holdsRound 159 = .ok (.invokevirtual 116, 3) := by decide +kernel
theorem dX8_holdsRound_162 : decode cX8_holdsRound 162 = .ok (.ifCond .eq 8, 3) := by decide +kernel
theorem dX8_holdsRound_165 : decode cX8_holdsRound 165 = .ok (.iload 4, 2) := by decide +kernel
theorem dX8_holdsRound_167 : decode cX8_holdsRound 167 = .ok (.goto 4, 3) := by decide +kernel
theorem dX8_holdsRound_170 : decode cX8_holdsRound 170 = .ok (.iload_n 3, 1) := by decide +kernel
theorem dX8_holdsRound_171 : decode cX8_holdsRound 171 = .ok (.istore_n 3, 1) := by decide +kernel
theorem dX8_holdsRound_172 : decode cX8_holdsRound 172 = .ok (.iinc 4 1, 3) := by decide +kernel
theorem dX8_holdsRound_175 : decode cX8_holdsRound 175 = .ok (.goto (-74), 3) := by decide +kernel
theorem dX8_holdsRound_178 : decode cX8_holdsRound 178 = .ok (.aload_n 0, 1) := by decide +kernel
theorem dX8_holdsRound_179 : decode cX8_holdsRound 179 = .ok (.dup, 1) := by decide +kernel
theorem dX8_holdsRound_180 : decode cX8_holdsRound 180 = .ok (.getfield 104, 3) := by decide +kernel
theorem dX8_holdsRound_183 : decode cX8_holdsRound 183 = .ok (.iconst 1, 1) := by decide +kernel
theorem dX8_holdsRound_184 : decode cX8_holdsRound 184 = .ok (.iload_n 3, 1) := by decide +kernel
theorem dX8_holdsRound_185 : decode cX8_holdsRound 185 = .ok (.ishl, 1) := by decide +kernel
theorem dX8_holdsRound_186 : decode cX8_holdsRound 186 = .ok (.iconst (-1), 1) := by decide +kernel
theorem dX8_holdsRound_187 : decode cX8_holdsRound 187 = .ok (.ixor, 1) := by decide +kernel
theorem dX8_holdsRound_188 : decode cX8_holdsRound 188 = .ok (.iand, 1) := by decide +kernel
theorem dX8_holdsRound_189 : decode cX8_holdsRound 189 = .ok (.putfield 104, 3) := by decide +kernel
theorem dX8_holdsRound_192 : decode cX8_holdsRound 192 = .ok (.bipush (-9), 2) := by decide +kernel
theorem dX8_holdsRound_194 : decode cX8_holdsRound 194 = .ok (.ireturn, 1) := by decide +kernel
theorem dX8_begins_0 : decode cX8_begins 0 = .ok (.aload_n 0, 1) := by decide +kernel
theorem dX8_begins_1 : decode cX8_begins 1 = .ok (.getfield 7, 3) := by decide +kernel
theorem dX8_begins_4 : decode cX8_begins 4 = .ok (.bipush 9, 2) := by decide +kernel
theorem dX8_begins_6 : decode cX8_begins 6 = .ok (.dup2, 1) := by decide +kernel
theorem dX8_begins_7 : decode cX8_begins 7 = .ok (.iaload, 1) := by decide +kernel
theorem dX8_begins_8 : decode cX8_begins 8 = .ok (.iconst 1, 1) := by decide +kernel
theorem dX8_begins_9 : decode cX8_begins 9 = .ok (.iadd, 1) := by decide +kernel
theorem dX8_begins_10 : decode cX8_begins 10 = .ok (.iastore, 1) := by decide +kernel
theorem dX8_begins_11 : decode cX8_begins 11 = .ok (.aload_n 0, 1) := by decide +kernel
theorem dX8_begins_12 : decode cX8_begins 12 = .ok (.getfield 7, 3) := by decide +kernel
theorem dX8_begins_15 : decode cX8_begins 15 = .ok (.bipush 9, 2) := by decide +kernel
theorem dX8_begins_17 : decode cX8_begins 17 = .ok (.iaload, 1) := by decide +kernel
theorem dX8_begins_18 : decode cX8_begins 18 = .ok (.istore_n 2, 1) := by decide +kernel
theorem dX8_begins_19 : decode cX8_begins 19 = .ok (.iconst 0, 1) := by decide +kernel
theorem dX8_begins_20 : decode cX8_begins 20 = .ok (.istore_n 3, 1) := by decide +kernel
theorem dX8_begins_21 : decode cX8_begins 21 = .ok (.iload_n 3, 1) := by decide +kernel
theorem dX8_begins_22 : decode cX8_begins 22 = .ok (.bipush 18, 2) := by decide +kernel
theorem dX8_begins_24 : decode cX8_begins 24 = .ok (.if_icmp .ge 20, 3) := by decide +kernel
theorem dX8_begins_27 : decode cX8_begins 27 = .ok (.aload_n 0, 1) := by decide +kernel
theorem dX8_begins_28 : decode cX8_begins 28 = .ok (.getfield 7, 3) := by decide +kernel
theorem dX8_begins_31 : decode cX8_begins 31 = .ok (.iload_n 2, 1) := by decide +kernel
theorem dX8_begins_32 : decode cX8_begins 32 = .ok (.iload_n 3, 1) := by decide +kernel
theorem dX8_begins_33 : decode cX8_begins 33 = .ok (.invokestatic 31, 3) := by decide +kernel
theorem dX8_begins_36 : decode cX8_begins 36 = .ok (.iconst 0, 1) := by decide +kernel
theorem dX8_begins_37 : decode cX8_begins 37 = .ok (.iastore, 1) := by decide +kernel
theorem dX8_begins_38 : decode cX8_begins 38 = .ok (.iinc 3 1, 3) := by decide +kernel
theorem dX8_begins_41 : decode cX8_begins 41 = .ok (.goto (-20), 3) := by decide +kernel
theorem dX8_begins_44 : decode cX8_begins 44 = .ok (.aload_n 0, 1) := by decide +kernel
theorem dX8_begins_45 : decode cX8_begins 45 = .ok (.getfield 7, 3) := by decide +kernel
theorem dX8_begins_48 : decode cX8_begins 48 = .ok (.iload_n 2, 1) := by decide +kernel
theorem dX8_begins_49 : decode cX8_begins 49 = .ok (.iconst 0, 1) := by decide +kernel
theorem dX8_begins_50 : decode cX8_begins 50 = .ok (.invokestatic 31, 3) := by decide +kernel
theorem dX8_begins_53 : decode cX8_begins 53 = .ok (.iload_n 1, 1) := by decide +kernel
theorem dX8_begins_54 : decode cX8_begins 54 = .ok (.iastore, 1) := by decide +kernel
theorem dX8_begins_55 : decode cX8_begins 55 = .ok (.aload_n 0, 1) := by decide +kernel
theorem dX8_begins_56 : decode cX8_begins 56 = .ok (.getfield 7, 3) := by decide +kernel
theorem dX8_begins_59 : decode cX8_begins 59 = .ok (.iload_n 2, 1) := by decide +kernel
theorem dX8_begins_60 : decode cX8_begins 60 = .ok (.iconst 1, 1) := by decide +kernel
theorem dX8_begins_61 : decode cX8_begins 61 = .ok (.invokestatic 31, 3) := by decide +kernel
theorem dX8_begins_64 : decode cX8_begins 64 = .ok (.aload_n 0, 1) := by decide +kernel
theorem dX8_begins_65 : decode cX8_begins 65 = .ok (.getfield 7, 3) := by decide +kernel
theorem dX8_begins_68 : decode cX8_begins 68 = .ok (.bipush 6, 2) := by decide +kernel
theorem dX8_begins_70 : decode cX8_begins 70 = .ok (.iaload, 1) := by decide +kernel
theorem dX8_begins_71 : decode cX8_begins 71 = .ok (.iastore, 1) := by decide +kernel
theorem dX8_begins_72 : decode cX8_begins 72 = .ok (.aload_n 0, 1) := by decide +kernel
theorem dX8_begins_73 : decode cX8_begins 73 = .ok (.getfield 7, 3) := by decide +kernel
theorem dX8_begins_76 : decode cX8_begins 76 = .ok (.iload_n 2, 1) := by decide +kernel
theorem dX8_begins_77 : decode cX8_begins 77 = .ok (.iconst 2, 1) := by decide +kernel
theorem dX8_begins_78 : decode cX8_begins 78 = .ok (.invokestatic 31, 3) := by decide +kernel
theorem dX8_begins_81 : decode cX8_begins 81 = .ok (.aload_n 0, 1) := by decide +kernel
theorem dX8_begins_82 : decode cX8_begins 82 = .ok (.getfield 7, 3) := by decide +kernel
theorem dX8_begins_85 : decode cX8_begins 85 = .ok (.bipush 6, 2) := by decide +kernel
theorem dX8_begins_87 : decode cX8_begins 87 = .ok (.iaload, 1) := by decide +kernel
theorem dX8_begins_88 : decode cX8_begins 88 = .ok (.aload_n 0, 1) := by decide +kernel
theorem dX8_begins_89 : decode cX8_begins 89 = .ok (.getfield 7, 3) := by decide +kernel
theorem dX8_begins_92 : decode cX8_begins 92 = .ok (.iconst 0, 1) := by decide +kernel
theorem dX8_begins_93 : decode cX8_begins 93 = .ok (.iaload, 1) := by decide +kernel
theorem dX8_begins_94 : decode cX8_begins 94 = .ok (.iadd, 1) := by decide +kernel
theorem dX8_begins_95 : decode cX8_begins 95 = .ok (.iastore, 1) := by decide +kernel
theorem dX8_begins_96 : decode cX8_begins 96 = .ok (.aload_n 0, 1) := by decide +kernel
theorem dX8_begins_97 : decode cX8_begins 97 = .ok (.getfield 7, 3) := by decide +kernel
theorem dX8_begins_100 : decode cX8_begins 100 = .ok (.iload_n 2, 1) := by decide +kernel
theorem dX8_begins_101 : decode cX8_begins 101 = .ok (.iconst 3, 1) := by decide +kernel
theorem dX8_begins_102 : decode cX8_begins 102 = .ok (.invokestatic 31, 3) := by decide +kernel
theorem dX8_begins_105 : decode cX8_begins 105 = .ok (.bipush (-9), 2) := by decide +kernel
theorem dX8_begins_107 : decode cX8_begins 107 = .ok (.iastore, 1) := by decide +kernel
theorem dX8_begins_108 : decode cX8_begins 108 = .ok (.iconst 0, 1) := by decide +kernel
theorem dX8_begins_109 : decode cX8_begins 109 = .ok (.istore_n 3, 1) := by decide +kernel
theorem dX8_begins_110 : decode cX8_begins 110 = .ok (.iload_n 3, 1) := by decide +kernel
theorem dX8_begins_111 : decode cX8_begins 111 = .ok (.aload_n 0, 1) := by decide +kernel
theorem dX8_begins_112 : decode cX8_begins 112 = .ok (.getfield 7, 3) := by decide +kernel
theorem dX8_begins_115 : decode cX8_begins 115 = .ok (.bipush 10, 2) := by decide +kernel
theorem dX8_begins_117 : decode cX8_begins 117 = .ok (.iaload, 1) := by decide +kernel
theorem dX8_begins_118 : decode cX8_begins 118 = .ok (.if_icmp .ge 35, 3) := by decide +kernel
theorem dX8_begins_121 : decode cX8_begins 121 = .ok (.aload_n 0, 1) := by decide +kernel
theorem dX8_begins_122 : decode cX8_begins 122 = .ok (.getfield 7, 3) := by decide +kernel
theorem dX8_begins_125 : decode cX8_begins 125 = .ok (.iload_n 2, 1) := by decide +kernel
theorem dX8_begins_126 : decode cX8_begins 126 = .ok (.bipush 6, 2) := by decide +kernel
theorem dX8_begins_128 : decode cX8_begins 128 = .ok (.invokestatic 31, 3) := by decide +kernel
theorem dX8_begins_131 : decode cX8_begins 131 = .ok (.dup2, 1) := by decide +kernel
theorem dX8_begins_132 : decode cX8_begins 132 = .ok (.iaload, 1) := by decide +kernel
theorem dX8_begins_133 : decode cX8_begins 133 = .ok (.aload_n 0, 1) := by decide +kernel
theorem dX8_begins_134 : decode cX8_begins 134 = .ok (.getfield 7, 3) := by decide +kernel
theorem dX8_begins_137 : decode cX8_begins 137 = .ok (.iload_n 3, 1) := by decide +kernel
theorem dX8_begins_138 : decode cX8_begins 138 = .ok (.iconst 1, 1) := by decide +kernel
theorem dX8_begins_139 : decode cX8_begins 139 = .ok (.invokestatic 27, 3) := by decide +kernel
theorem dX8_begins_142 : decode cX8_begins 142 = .ok (.iaload, 1) := by decide +kernel
theorem dX8_begins_143 : decode cX8_begins 143 = .ok (.iload_n 3, 1) := by decide +kernel
theorem dX8_begins_144 : decode cX8_begins 144 = .ok (.ishl, 1) := by decide +kernel
theorem dX8_begins_145 : decode cX8_begins 145 = .ok (.ior, 1) := by decide +kernel
theorem dX8_begins_146 : decode cX8_begins 146 = .ok (.iastore, 1) := by decide +kernel
theorem dX8_begins_147 : decode cX8_begins 147 = .ok (.iinc 3 1, 3) := by decide +kernel
theorem dX8_begins_150 : decode cX8_begins 150 = .ok (.goto (-40), 3) := by decide +kernel
theorem dX8_begins_153 : decode cX8_begins 153 = .ok (.aload_n 0, 1) := by decide +kernel
theorem dX8_begins_154 : decode cX8_begins 154 = .ok (.getfield 7, 3) := by decide +kernel
theorem dX8_begins_157 : decode cX8_begins 157 = .ok (.bipush 7, 2) := by decide +kernel
theorem dX8_begins_159 : decode cX8_begins 159 = .ok (.iconst 2, 1) := by decide +kernel
theorem dX8_begins_160 : decode cX8_begins 160 = .ok (.iastore, 1) := by decide +kernel
theorem dX8_begins_161 : decode cX8_begins 161 = .ok (.aload_n 0, 1) := by decide +kernel
theorem dX8_begins_162 : decode cX8_begins 162 = .ok (.getfield 7, 3) := by decide +kernel
theorem dX8_begins_165 : decode cX8_begins 165 = .ok (.bipush 8, 2) := by decide +kernel
theorem dX8_begins_167 : decode cX8_begins 167 = .ok (.iload_n 1, 1) := by decide +kernel
theorem dX8_begins_168 : decode cX8_begins 168 = .ok (.iastore, 1) := by decide +kernel
theorem dX8_begins_169 : decode cX8_begins 169 = .ok (.aload_n 0, 1) := by decide +kernel
theorem dX8_begins_170 : decode cX8_begins 170 = .ok (.iconst 1, 1) := by decide +kernel
theorem dX8_begins_171 : decode cX8_begins 171 = .ok (.iload_n 1, 1) := by decide +kernel
theorem dX8_begins_172 : decode cX8_begins 172 = .ok (.invokevirtual 51, 3) := by decide +kernel
theorem dX8_begins_175 : decode cX8_begins 175 = .ok (.return_, 1) := by decide +kernel
theorem dX8_close_0 : decode cX8_close 0 = .ok (.aload_n 0, 1) := by decide +kernel
theorem dX8_close_1 : decode cX8_close 1 = .ok (.getfield 7, 3) := by decide +kernel
theorem dX8_close_4 : decode cX8_close 4 = .ok (.bipush 11, 2) := by decide +kernel
theorem dX8_close_6 : decode cX8_close 6 = .ok (.iaload, 1) := by decide +kernel
theorem dX8_close_7 : decode cX8_close 7 = .ok (.ifCond .eq 10, 3) := by decide +kernel
theorem dX8_close_10 : decode cX8_close 10 = .ok (.aload_n 0, 1) := by decide +kernel
theorem dX8_close_11 : decode cX8_close 11 = .ok (.invokevirtual 92, 3) := by decide +kernel
theorem dX8_close_14 : decode cX8_close 14 = .ok (.ifCond .ne 6, 3) := by decide +kernel
theorem dX8_close_17 : decode cX8_close 17 = .ok (.bipush (-2), 2) := by decide +kernel
theorem dX8_close_19 : decode cX8_close 19 = .ok (.ireturn, 1) := by decide +kernel
theorem dX8_close_20 : decode cX8_close 20 = .ok (.aload_n 0, 1) := by decide +kernel
theorem dX8_close_21 : decode cX8_close 21 = .ok (.invokevirtual 73, 3) := by decide +kernel
theorem dX8_close_24 : decode cX8_close 24 = .ok (.bipush (-9), 2) := by decide +kernel
theorem dX8_close_26 : decode cX8_close 26 = .ok (.istore_n 1, 1) := by decide +kernel
theorem dX8_close_27 : decode cX8_close 27 = .ok (.aload_n 0, 1) := by decide +kernel
theorem dX8_close_28 : decode cX8_close 28 = .ok (.getfield 7, 3) := by decide +kernel
theorem dX8_close_31 : decode cX8_close 31 = .ok (.bipush 13, 2) := by decide +kernel
theorem dX8_close_33 : decode cX8_close 33 = .ok (.iconst 0, 1) := by decide +kernel
theorem dX8_close_34 : decode cX8_close 34 = .ok (.iastore, 1) := by decide +kernel
theorem dX8_close_35 : decode cX8_close 35 = .ok (.aload_n 0, 1) := by decide +kernel
theorem dX8_close_36 : decode cX8_close 36 = .ok (.iconst 0, 1) := by decide +kernel
theorem dX8_close_37 : decode cX8_close 37 = .ok (.putfield 104, 3) := by decide +kernel
theorem dX8_close_40 : decode cX8_close 40 = .ok (.iconst 0, 1) := by decide +kernel
theorem dX8_close_41 : decode cX8_close 41 = .ok (.istore_n 2, 1) := by decide +kernel
theorem dX8_close_42 : decode cX8_close 42 = .ok (.iload_n 2, 1) := by decide +kernel
theorem dX8_close_43 : decode cX8_close 43 = .ok (.aload_n 0, 1) := by decide +kernel
theorem dX8_close_44 : decode cX8_close 44 = .ok (.getfield 7, 3) := by decide +kernel
theorem dX8_close_47 : decode cX8_close 47 = .ok (.bipush 10, 2) := by decide +kernel
theorem dX8_close_49 : decode cX8_close 49 = .ok (.iaload, 1) := by decide +kernel
theorem dX8_close_50 : decode cX8_close 50 = .ok (.if_icmp .ge 30, 3) := by decide +kernel
theorem dX8_close_53 : decode cX8_close 53 = .ok (.aload_n 0, 1) := by decide +kernel
theorem dX8_close_54 : decode cX8_close 54 = .ok (.dup, 1) := by decide +kernel
theorem dX8_close_55 : decode cX8_close 55 = .ok (.getfield 104, 3) := by decide +kernel
theorem dX8_close_58 : decode cX8_close 58 = .ok (.aload_n 0, 1) := by decide +kernel
theorem dX8_close_59 : decode cX8_close 59 = .ok (.getfield 7, 3) := by decide +kernel
theorem dX8_close_62 : decode cX8_close 62 = .ok (.iload_n 2, 1) := by decide +kernel
theorem dX8_close_63 : decode cX8_close 63 = .ok (.iconst 2, 1) := by decide +kernel
theorem dX8_close_64 : decode cX8_close 64 = .ok (.invokestatic 27, 3) := by decide +kernel
theorem dX8_close_67 : decode cX8_close 67 = .ok (.iaload, 1) := by decide +kernel
theorem dX8_close_68 : decode cX8_close 68 = .ok (.iload_n 2, 1) := by decide +kernel
theorem dX8_close_69 : decode cX8_close 69 = .ok (.ishl, 1) := by decide +kernel
theorem dX8_close_70 : decode cX8_close 70 = .ok (.ior, 1) := by decide +kernel
theorem dX8_close_71 : decode cX8_close 71 = .ok (.putfield 104, 3) := by decide +kernel
theorem dX8_close_74 : decode cX8_close 74 = .ok (.iinc 2 1, 3) := by decide +kernel
theorem dX8_close_77 : decode cX8_close 77 = .ok (.goto (-35), 3) := by decide +kernel
theorem dX8_close_80 : decode cX8_close 80 = .ok (.bipush 100, 2) := by decide +kernel
theorem dX8_close_82 : decode cX8_close 82 = .ok (.aload_n 0, 1) := by decide +kernel
theorem dX8_close_83 : decode cX8_close 83 = .ok (.invokevirtual 101, 3) := by decide +kernel
theorem dX8_close_86 : decode cX8_close 86 = .ok (.imul, 1) := by decide +kernel
theorem dX8_close_87 : decode cX8_close 87 = .ok (.aload_n 0, 1) := by decide +kernel
theorem dX8_close_88 : decode cX8_close 88 = .ok (.getfield 7, 3) := by decide +kernel
theorem dX8_close_91 : decode cX8_close 91 = .ok (.iconst 4, 1) := by decide +kernel
theorem dX8_close_92 : decode cX8_close 92 = .ok (.iaload, 1) := by decide +kernel
theorem dX8_close_93 : decode cX8_close 93 = .ok (.aload_n 0, 1) := by decide +kernel
theorem dX8_close_94 : decode cX8_close 94 = .ok (.invokevirtual 59, 3) := by decide +kernel
theorem dX8_close_97 : decode cX8_close 97 = .ok (.imul, 1) := by decide +kernel
theorem dX8_close_98 : decode cX8_close 98 = .ok (.if_icmp .lt 7, 3) := by decide +kernel
theorem dX8_close_101 : decode cX8_close 101 = .ok (.iconst 1, 1) := by decide +kernel
theorem dX8_close_102 : decode cX8_close 102 = .ok (.goto 4, 3) := by decide +kernel
theorem dX8_close_105 : decode cX8_close 105 = .ok (.iconst 0, 1) := by decide +kernel
theorem dX8_close_106 : decode cX8_close 106 = .ok (.istore_n 2, 1) := by decide +kernel
theorem dX8_close_107 : decode cX8_close 107 = .ok (.iload_n 2, 1) := by decide +kernel
theorem dX8_close_108 : decode cX8_close 108 = .ok (.ifCond .eq 33, 3) := by decide +kernel
theorem dX8_close_111 : decode cX8_close 111 = .ok (.iload_n 1, 1) := by decide +kernel
theorem dX8_close_112 : decode cX8_close 112 = .ok (.ifCond .ge 29, 3) := by decide +kernel
theorem dX8_close_115 : decode cX8_close 115 = .ok (.aload_n 0, 1) := by decide +kernel
theorem dX8_close_116 : decode cX8_close 116 = .ok (.aload_n 0, 1) := by decide +kernel
theorem dX8_close_117 : decode cX8_close 117 = .ok (.getfield 7, 3) := by decide +kernel
theorem dX8_close_120 : decode cX8_close 120 = .ok (.bipush 13, 2) := by decide +kernel
theorem dX8_close_122 : decode cX8_close 122 = .ok (.iaload, 1) := by decide +kernel
theorem dX8_close_123 : decode cX8_close 123 = .ok (.invokevirtual 119, 3) := by decide +kernel
theorem dX8_close_126 : decode cX8_close 126 = .ok (.istore_n 1, 1) := by decide +kernel
theorem dX8_close_127 : decode cX8_close 127 = .ok (.aload_n 0, 1) := by decide +kernel
theorem dX8_close_128 : decode cX8_close 128 = .ok (.getfield 7, 3) := by decide +kernel
theorem dX8_close_131 : decode cX8_close 131 = .ok (.bipush 13, 2) := by decide +kernel
theorem dX8_close_133 : decode cX8_close 133 = .ok (.dup2, 1) := by decide +kernel
theorem dX8_close_134 : decode cX8_close 134 = .ok (.iaload, 1) := by decide +kernel
theorem dX8_close_135 : decode cX8_close 135 = .ok (.iconst 1, 1) := by decide +kernel
theorem dX8_close_136 : decode cX8_close 136 = .ok (.iadd, 1) := by decide +kernel
theorem dX8_close_137 : decode cX8_close 137 = .ok (.iastore, 1) := by decide +kernel
theorem dX8_close_138 : decode cX8_close 138 = .ok (.goto (-31), 3) := by decide +kernel
theorem dX8_close_141 : decode cX8_close 141 = .ok (.aload_n 0, 1) := by decide +kernel
theorem dX8_close_142 : decode cX8_close 142 = .ok (.getfield 7, 3) := by decide +kernel
theorem dX8_close_145 : decode cX8_close 145 = .ok (.bipush 11, 2) := by decide +kernel
theorem dX8_close_147 : decode cX8_close 147 = .ok (.iconst 0, 1) := by decide +kernel
theorem dX8_close_148 : decode cX8_close 148 = .ok (.iastore, 1) := by decide +kernel
theorem dX8_close_149 : decode cX8_close 149 = .ok (.iconst 0, 1) := by decide +kernel
theorem dX8_close_150 : decode cX8_close 150 = .ok (.istore_n 3, 1) := by decide +kernel
theorem dX8_close_151 : decode cX8_close 151 = .ok (.iload_n 3, 1) := by decide +kernel
theorem dX8_close_152 : decode cX8_close 152 = .ok (.bipush 10, 2) := by decide +kernel
theorem dX8_close_154 : decode cX8_close 154 = .ok (.if_icmp .ge 31, 3) := by decide +kernel
theorem dX8_close_157 : decode cX8_close 157 = .ok (.aload_n 0, 1) := by decide +kernel
theorem dX8_close_158 : decode cX8_close 158 = .ok (.getfield 7, 3) := by decide +kernel
theorem dX8_close_161 : decode cX8_close 161 = .ok (.iload_n 3, 1) := by decide +kernel
theorem dX8_close_162 : decode cX8_close 162 = .ok (.iconst 2, 1) := by decide +kernel
theorem dX8_close_163 : decode cX8_close 163 = .ok (.invokestatic 27, 3) := by decide +kernel
theorem dX8_close_166 : decode cX8_close 166 = .ok (.iconst 0, 1) := by decide +kernel
theorem dX8_close_167 : decode cX8_close 167 = .ok (.iastore, 1) := by decide +kernel
theorem dX8_close_168 : decode cX8_close 168 = .ok (.aload_n 0, 1) := by decide +kernel
theorem dX8_close_169 : decode cX8_close 169 = .ok (.getfield 7, 3) := by decide +kernel
theorem dX8_close_172 : decode cX8_close 172 = .ok (.iload_n 3, 1) := by decide +kernel
theorem dX8_close_173 : decode cX8_close 173 = .ok (.iconst 4, 1) := by decide +kernel
theorem dX8_close_174 : decode cX8_close 174 = .ok (.invokestatic 27, 3) := by decide +kernel
theorem dX8_close_177 : decode cX8_close 177 = .ok (.iconst 0, 1) := by decide +kernel
theorem dX8_close_178 : decode cX8_close 178 = .ok (.iastore, 1) := by decide +kernel
theorem dX8_close_179 : decode cX8_close 179 = .ok (.iinc 3 1, 3) := by decide +kernel
theorem dX8_close_182 : decode cX8_close 182 = .ok (.goto (-31), 3) := by decide +kernel
theorem dX8_close_185 : decode cX8_close 185 = .ok (.iload_n 1, 1) := by decide +kernel
theorem dX8_close_186 : decode cX8_close 186 = .ok (.ifCond .ge 14, 3) := by decide +kernel
theorem dX8_close_189 : decode cX8_close 189 = .ok (.aload_n 0, 1) := by decide +kernel
theorem dX8_close_190 : decode cX8_close 190 = .ok (.bipush 6, 2) := by decide +kernel
theorem dX8_close_192 : decode cX8_close 192 = .ok (.bipush (-9), 2) := by decide +kernel
theorem dX8_close_194 : decode cX8_close 194 = .ok (.invokevirtual 51, 3) := by decide +kernel
theorem dX8_close_197 : decode cX8_close 197 = .ok (.goto 8, 3) := by decide +kernel
theorem dX8_close_200 : decode cX8_close 200 = .ok (.aload_n 0, 1) := by decide +kernel
theorem dX8_close_201 : decode cX8_close 201 = .ok (.iload_n 1, 1) := by decide +kernel
theorem dX8_close_202 : decode cX8_close 202 = .ok (.invokevirtual 122, 3) := by decide +kernel
theorem dX8_close_205 : decode cX8_close 205 = .ok (.iload_n 1, 1) := by decide +kernel
theorem dX8_close_206 : decode cX8_close 206 = .ok (.ireturn, 1) := by decide +kernel
theorem dX8_rounds_0 : decode cX8_rounds 0 = .ok (.aload_n 0, 1) := by decide +kernel
theorem dX8_rounds_1 : decode cX8_rounds 1 = .ok (.getfield 7, 3) := by decide +kernel
theorem dX8_rounds_4 : decode cX8_rounds 4 = .ok (.bipush 13, 2) := by decide +kernel
theorem dX8_rounds_6 : decode cX8_rounds 6 = .ok (.iaload, 1) := by decide +kernel
theorem dX8_rounds_7 : decode cX8_rounds 7 = .ok (.ireturn, 1) := by decide +kernel
theorem dX8_tally_0 : decode cX8_tally 0 = .ok (.iload_n 1, 1) := by decide +kernel
theorem dX8_tally_1 : decode cX8_tally 1 = .ok (.iconst 0, 1) := by decide +kernel
theorem dX8_tally_2 : decode cX8_tally 2 = .ok (.aload_n 0, 1) := by decide +kernel
theorem dX8_tally_3 : decode cX8_tally 3 = .ok (.getfield 7, 3) := by decide +kernel
theorem dX8_tally_6 : decode cX8_tally 6 = .ok (.bipush 13, 2) := by decide +kernel
theorem dX8_tally_8 : decode cX8_tally 8 = .ok (.iaload, 1) := by decide +kernel
theorem dX8_tally_9 : decode cX8_tally 9 = .ok (.iconst 1, 1) := by decide +kernel
theorem dX8_tally_10 : decode cX8_tally 10 = .ok (.isub, 1) := by decide +kernel
theorem dX8_tally_11 : decode cX8_tally 11 = .ok (.invokestatic 23, 3) := by decide +kernel
theorem dX8_tally_14 : decode cX8_tally 14 = .ok (.ifCond .eq 25, 3) := by decide +kernel
theorem dX8_tally_17 : decode cX8_tally 17 = .ok (.aload_n 0, 1) := by decide +kernel
theorem dX8_tally_18 : decode cX8_tally 18 = .ok (.iload_n 2, 1) := by decide +kernel
theorem dX8_tally_19 : decode cX8_tally 19 = .ok (.invokevirtual 82, 3) := by decide +kernel
theorem dX8_tally_22 : decode cX8_tally 22 = .ok (.ifCond .eq 17, 3) := by decide +kernel
theorem dX8_tally_25 : decode cX8_tally 25 = .ok (.aload_n 0, 1) := by decide +kernel
theorem dX8_tally_26 : decode cX8_tally 26 = .ok (.getfield 7, 3) := by decide +kernel
theorem dX8_tally_29 : decode cX8_tally 29 = .ok (.aload_n 0, 1) := by decide +kernel
theorem dX8_tally_30 : decode cX8_tally 30 = .ok (.iload_n 1, 1) := by decide +kernel
theorem dX8_tally_31 : decode cX8_tally 31 = .ok (.iload_n 2, 1) := by decide +kernel
theorem dX8_tally_32 : decode cX8_tally 32 = .ok (.invokevirtual 107, 3) := by decide +kernel
theorem dX8_tally_35 : decode cX8_tally 35 = .ok (.iaload, 1) := by decide +kernel
theorem dX8_tally_36 : decode cX8_tally 36 = .ok (.goto 4, 3) := by decide +kernel
theorem dX8_tally_39 : decode cX8_tally 39 = .ok (.iconst (-1), 1) := by decide +kernel
theorem dX8_tally_40 : decode cX8_tally 40 = .ok (.ireturn, 1) := by decide +kernel
theorem dX8_ballot_0 : decode cX8_ballot 0 = .ok (.aload_n 0, 1) := by decide +kernel
theorem dX8_ballot_1 : decode cX8_ballot 1 = .ok (.iload_n 1, 1) := by decide +kernel
theorem dX8_ballot_2 : decode cX8_ballot 2 = .ok (.invokevirtual 82, 3) := by decide +kernel
theorem dX8_ballot_5 : decode cX8_ballot 5 = .ok (.ifCond .eq 7, 3) := by decide +kernel
theorem dX8_ballot_8 : decode cX8_ballot 8 = .ok (.iload_n 2, 1) := by decide +kernel
theorem dX8_ballot_9 : decode cX8_ballot 9 = .ok (.ifCond .ge 5, 3) := by decide +kernel
theorem dX8_ballot_12 : decode cX8_ballot 12 = .ok (.iconst (-1), 1) := by decide +kernel
theorem dX8_ballot_13 : decode cX8_ballot 13 = .ok (.ireturn, 1) := by decide +kernel
theorem dX8_ballot_14 : decode cX8_ballot 14 = .ok (.aload_n 0, 1) := by decide +kernel
theorem dX8_ballot_15 : decode cX8_ballot 15 = .ok (.getfield 7, 3) := by decide +kernel
theorem dX8_ballot_18 : decode cX8_ballot 18 = .ok (.bipush 11, 2) := by decide +kernel
theorem dX8_ballot_20 : decode cX8_ballot 20 = .ok (.iaload, 1) := by decide +kernel
theorem dX8_ballot_21 : decode cX8_ballot 21 = .ok (.ifCond .ne 6, 3) := by decide +kernel
theorem dX8_ballot_24 : decode cX8_ballot 24 = .ok (.bipush (-2), 2) := by decide +kernel
theorem dX8_ballot_26 : decode cX8_ballot 26 = .ok (.ireturn, 1) := by decide +kernel
theorem dX8_ballot_27 : decode cX8_ballot 27 = .ok (.iload_n 2, 1) := by decide +kernel
theorem dX8_ballot_28 : decode cX8_ballot 28 = .ok (.aload_n 0, 1) := by decide +kernel
theorem dX8_ballot_29 : decode cX8_ballot 29 = .ok (.getfield 7, 3) := by decide +kernel
theorem dX8_ballot_32 : decode cX8_ballot 32 = .ok (.iload_n 1, 1) := by decide +kernel
theorem dX8_ballot_33 : decode cX8_ballot 33 = .ok (.iconst 4, 1) := by decide +kernel
theorem dX8_ballot_34 : decode cX8_ballot 34 = .ok (.invokestatic 27, 3) := by decide +kernel
theorem dX8_ballot_37 : decode cX8_ballot 37 = .ok (.iaload, 1) := by decide +kernel
theorem dX8_ballot_38 : decode cX8_ballot 38 = .ok (.if_icmp .ge 18, 3) := by decide +kernel
theorem dX8_ballot_41 : decode cX8_ballot 41 = .ok (.aload_n 0, 1) := by decide +kernel
theorem dX8_ballot_42 : decode cX8_ballot 42 = .ok (.getfield 7, 3) := by decide +kernel
theorem dX8_ballot_45 : decode cX8_ballot 45 = .ok (.iload_n 1, 1) := by decide +kernel
theorem dX8_ballot_46 : decode cX8_ballot 46 = .ok (.iconst 5, 1) := by decide +kernel
theorem dX8_ballot_47 : decode cX8_ballot 47 = .ok (.iload_n 2, 1) := by decide +kernel
theorem dX8_ballot_48 : decode cX8_ballot 48 = .ok (.iadd, 1) := by decide +kernel
theorem dX8_ballot_49 : decode cX8_ballot 49 = .ok (.invokestatic 27, 3) := by decide +kernel
theorem dX8_ballot_52 : decode cX8_ballot 52 = .ok (.iaload, 1) := by decide +kernel
theorem dX8_ballot_53 : decode cX8_ballot 53 = .ok (.goto 5, 3) := by decide +kernel
theorem dX8_ballot_56 : decode cX8_ballot 56 = .ok (.bipush (-9), 2) := by decide +kernel
theorem dX8_ballot_58 : decode cX8_ballot 58 = .ok (.ireturn, 1) := by decide +kernel
theorem dX8_office_0 : decode cX8_office 0 = .ok (.aload_n 0, 1) := by decide +kernel
theorem dX8_office_1 : decode cX8_office 1 = .ok (.getfield 7, 3) := by decide +kernel
theorem dX8_office_4 : decode cX8_office 4 = .ok (.bipush 7, 2) := by decide +kernel
theorem dX8_office_6 : decode cX8_office 6 = .ok (.iaload, 1) := by decide +kernel
theorem dX8_office_7 : decode cX8_office 7 = .ok (.ireturn, 1) := by decide +kernel
theorem dX8_holder_0 : decode cX8_holder 0 = .ok (.aload_n 0, 1) := by decide +kernel
theorem dX8_holder_1 : decode cX8_holder 1 = .ok (.getfield 7, 3) := by decide +kernel
theorem dX8_holder_4 : decode cX8_holder 4 = .ok (.bipush 8, 2) := by decide +kernel
theorem dX8_holder_6 : decode cX8_holder 6 = .ok (.iaload, 1) := by decide +kernel
theorem dX8_holder_7 : decode cX8_holder 7 = .ok (.ireturn, 1) := by decide +kernel
theorem dX8_deed_0 : decode cX8_deed 0 = .ok (.aload_n 0, 1) := by decide +kernel
theorem dX8_deed_1 : decode cX8_deed 1 = .ok (.getfield 7, 3) := by decide +kernel
theorem dX8_deed_4 : decode cX8_deed 4 = .ok (.bipush 7, 2) := by decide +kernel
theorem dX8_deed_6 : decode cX8_deed 6 = .ok (.iaload, 1) := by decide +kernel
theorem dX8_deed_7 : decode cX8_deed 7 = .ok (.iconst 2, 1) := by decide +kernel
theorem dX8_deed_8 : decode cX8_deed 8 = .ok (.if_icmp .ne 32, 3) := by decide +kernel
theorem dX8_deed_11 : decode cX8_deed 11 = .ok (.aload_n 0, 1) := by decide +kernel
theorem dX8_deed_12 : decode cX8_deed 12 = .ok (.getfield 7, 3) := by decide +kernel
theorem dX8_deed_15 : decode cX8_deed 15 = .ok (.aload_n 0, 1) := by decide +kernel
theorem dX8_deed_16 : decode cX8_deed 16 = .ok (.getfield 7, 3) := by decide +kernel
theorem dX8_deed_19 : decode cX8_deed 19 = .ok (.bipush 9, 2) := by decide +kernel
theorem dX8_deed_21 : decode cX8_deed 21 = .ok (.iaload, 1) := by decide +kernel
theorem dX8_deed_22 : decode cX8_deed 22 = .ok (.iconst 4, 1) := by decide +kernel
theorem dX8_deed_23 : decode cX8_deed 23 = .ok (.invokestatic 31, 3) := by decide +kernel
theorem dX8_deed_26 : decode cX8_deed 26 = .ok (.iaload, 1) := by decide +kernel
theorem dX8_deed_27 : decode cX8_deed 27 = .ok (.iload_n 1, 1) := by decide +kernel
theorem dX8_deed_28 : decode cX8_deed 28 = .ok (.ifCond .eq 7, 3) := by decide +kernel
theorem dX8_deed_31 : decode cX8_deed 31 = .ok (.iconst 1, 1) := by decide +kernel
theorem dX8_deed_32 : decode cX8_deed 32 = .ok (.goto 4, 3) := by decide +kernel
theorem dX8_deed_35 : decode cX8_deed 35 = .ok (.iconst (-1), 1) := by decide +kernel
theorem dX8_deed_36 : decode cX8_deed 36 = .ok (.iadd, 1) := by decide +kernel
theorem dX8_deed_37 : decode cX8_deed 37 = .ok (.goto 5, 3) := by decide +kernel
theorem dX8_deed_40 : decode cX8_deed 40 = .ok (.bipush 99, 2) := by decide +kernel
theorem dX8_deed_42 : decode cX8_deed 42 = .ok (.istore_n 2, 1) := by decide +kernel
theorem dX8_deed_43 : decode cX8_deed 43 = .ok (.iload_n 2, 1) := by decide +kernel
theorem dX8_deed_44 : decode cX8_deed 44 = .ok (.bipush (-20), 2) := by decide +kernel
theorem dX8_deed_46 : decode cX8_deed 46 = .ok (.bipush 20, 2) := by decide +kernel
theorem dX8_deed_48 : decode cX8_deed 48 = .ok (.invokestatic 23, 3) := by decide +kernel
theorem dX8_deed_51 : decode cX8_deed 51 = .ok (.ifCond .ne 6, 3) := by decide +kernel
theorem dX8_deed_54 : decode cX8_deed 54 = .ok (.bipush (-2), 2) := by decide +kernel
theorem dX8_deed_56 : decode cX8_deed 56 = .ok (.ireturn, 1) := by decide +kernel
theorem dX8_deed_57 : decode cX8_deed 57 = .ok (.aload_n 0, 1) := by decide +kernel
theorem dX8_deed_58 : decode cX8_deed 58 = .ok (.invokevirtual 73, 3) := by decide +kernel
theorem dX8_deed_61 : decode cX8_deed 61 = .ok (.aload_n 0, 1) := by decide +kernel
theorem dX8_deed_62 : decode cX8_deed 62 = .ok (.getfield 7, 3) := by decide +kernel
theorem dX8_deed_65 : decode cX8_deed 65 = .ok (.aload_n 0, 1) := by decide +kernel
theorem dX8_deed_66 : decode cX8_deed 66 = .ok (.getfield 7, 3) := by decide +kernel
theorem dX8_deed_69 : decode cX8_deed 69 = .ok (.bipush 9, 2) := by decide +kernel
theorem dX8_deed_71 : decode cX8_deed 71 = .ok (.iaload, 1) := by decide +kernel
theorem dX8_deed_72 : decode cX8_deed 72 = .ok (.iconst 4, 1) := by decide +kernel
theorem dX8_deed_73 : decode cX8_deed 73 = .ok (.invokestatic 31, 3) := by decide +kernel
theorem dX8_deed_76 : decode cX8_deed 76 = .ok (.iload_n 2, 1) := by decide +kernel
theorem dX8_deed_77 : decode cX8_deed 77 = .ok (.iastore, 1) := by decide +kernel
theorem dX8_deed_78 : decode cX8_deed 78 = .ok (.iload_n 2, 1) := by decide +kernel
theorem dX8_deed_79 : decode cX8_deed 79 = .ok (.ireturn, 1) := by decide +kernel
theorem dX8_sign_0 : decode cX8_sign 0 = .ok (.aload_n 0, 1) := by decide +kernel
theorem dX8_sign_1 : decode cX8_sign 1 = .ok (.iload_n 1, 1) := by decide +kernel
theorem dX8_sign_2 : decode cX8_sign 2 = .ok (.invokevirtual 82, 3) := by decide +kernel
theorem dX8_sign_5 : decode cX8_sign 5 = .ok (.ifCond .ne 5, 3) := by decide +kernel
theorem dX8_sign_8 : decode cX8_sign 8 = .ok (.iconst (-1), 1) := by decide +kernel
theorem dX8_sign_9 : decode cX8_sign 9 = .ok (.ireturn, 1) := by decide +kernel
theorem dX8_sign_10 : decode cX8_sign 10 = .ok (.aload_n 0, 1) := by decide +kernel
theorem dX8_sign_11 : decode cX8_sign 11 = .ok (.getfield 7, 3) := by decide +kernel
theorem dX8_sign_14 : decode cX8_sign 14 = .ok (.bipush 7, 2) := by decide +kernel
theorem dX8_sign_16 : decode cX8_sign 16 = .ok (.iaload, 1) := by decide +kernel
theorem dX8_sign_17 : decode cX8_sign 17 = .ok (.iconst 2, 1) := by decide +kernel
theorem dX8_sign_18 : decode cX8_sign 18 = .ok (.if_icmp .ne 44, 3) := by decide +kernel
theorem dX8_sign_21 : decode cX8_sign 21 = .ok (.aload_n 0, 1) := by decide +kernel
theorem dX8_sign_22 : decode cX8_sign 22 = .ok (.iload_n 1, 1) := by decide +kernel
theorem dX8_sign_23 : decode cX8_sign 23 = .ok (.invokevirtual 41, 3) := by decide +kernel
theorem dX8_sign_26 : decode cX8_sign 26 = .ok (.ifCond .eq 36, 3) := by decide +kernel
theorem dX8_sign_29 : decode cX8_sign 29 = .ok (.iload_n 1, 1) := by decide +kernel
theorem dX8_sign_30 : decode cX8_sign 30 = .ok (.aload_n 0, 1) := by decide +kernel
theorem dX8_sign_31 : decode cX8_sign 31 = .ok (.getfield 7, 3) := by decide +kernel
theorem dX8_sign_34 : decode cX8_sign 34 = .ok (.bipush 8, 2) := by decide +kernel
theorem dX8_sign_36 : decode cX8_sign 36 = .ok (.iaload, 1) := by decide +kernel
theorem dX8_sign_37 : decode cX8_sign 37 = .ok (.if_icmp .eq 25, 3) := by decide +kernel
theorem dX8_sign_40 : decode cX8_sign 40 = .ok (.aload_n 0, 1) := by decide +kernel
theorem dX8_sign_41 : decode cX8_sign 41 = .ok (.getfield 7, 3) := by decide +kernel
theorem dX8_sign_44 : decode cX8_sign 44 = .ok (.iload_n 1, 1) := by decide +kernel
theorem dX8_sign_45 : decode cX8_sign 45 = .ok (.iconst 3, 1) := by decide +kernel
theorem dX8_sign_46 : decode cX8_sign 46 = .ok (.invokestatic 27, 3) := by decide +kernel
theorem dX8_sign_49 : decode cX8_sign 49 = .ok (.iaload, 1) := by decide +kernel
theorem dX8_sign_50 : decode cX8_sign 50 = .ok (.iload_n 2, 1) := by decide +kernel
theorem dX8_sign_51 : decode cX8_sign 51 = .ok (.ifCond .eq 7, 3) := by decide +kernel
theorem dX8_sign_54 : decode cX8_sign 54 = .ok (.iconst 1, 1) := by decide +kernel
theorem dX8_sign_55 : decode cX8_sign 55 = .ok (.goto 4, 3) := by decide +kernel
theorem dX8_sign_58 : decode cX8_sign 58 = .ok (.iconst 0, 1) := by decide +kernel
theorem dX8_sign_59 : decode cX8_sign 59 = .ok (.if_icmp .ne 6, 3) := by decide +kernel
theorem dX8_sign_62 : decode cX8_sign 62 = .ok (.bipush (-2), 2) := by decide +kernel
theorem dX8_sign_64 : decode cX8_sign 64 = .ok (.ireturn, 1) := by decide +kernel
theorem dX8_sign_65 : decode cX8_sign 65 = .ok (.aload_n 0, 1) := by decide +kernel
theorem dX8_sign_66 : decode cX8_sign 66 = .ok (.invokevirtual 73, 3) := by decide +kernel
theorem dX8_sign_69 : decode cX8_sign 69 = .ok (.aload_n 0, 1) := by decide +kernel
theorem dX8_sign_70 : decode cX8_sign 70 = .ok (.getfield 7, 3) := by decide +kernel
theorem dX8_sign_73 : decode cX8_sign 73 = .ok (.iload_n 1, 1) := by decide +kernel
theorem dX8_sign_74 : decode cX8_sign 74 = .ok (.iconst 3, 1) := by decide +kernel
theorem dX8_sign_75 : decode cX8_sign 75 = .ok (.invokestatic 27, 3) := by decide +kernel
theorem dX8_sign_78 : decode cX8_sign 78 = .ok (.iload_n 2, 1) := by decide +kernel
theorem dX8_sign_79 : decode cX8_sign 79 = .ok (.ifCond .eq 7, 3) := by decide +kernel
theorem dX8_sign_82 : decode cX8_sign 82 = .ok (.iconst 1, 1) := by decide +kernel
theorem dX8_sign_83 : decode cX8_sign 83 = .ok (.goto 4, 3) := by decide +kernel
theorem dX8_sign_86 : decode cX8_sign 86 = .ok (.iconst 0, 1) := by decide +kernel
theorem dX8_sign_87 : decode cX8_sign 87 = .ok (.iastore, 1) := by decide +kernel
theorem dX8_sign_88 : decode cX8_sign 88 = .ok (.iload_n 2, 1) := by decide +kernel
theorem dX8_sign_89 : decode cX8_sign 89 = .ok (.ifCond .eq 7, 3) := by decide +kernel
theorem dX8_sign_92 : decode cX8_sign 92 = .ok (.aload_n 0, 1) := by decide +kernel
theorem dX8_sign_93 : decode cX8_sign 93 = .ok (.invokevirtual 76, 3) := by decide +kernel
theorem dX8_sign_96 : decode cX8_sign 96 = .ok (.aload_n 0, 1) := by decide +kernel
theorem dX8_sign_97 : decode cX8_sign 97 = .ok (.getfield 7, 3) := by decide +kernel
theorem dX8_sign_100 : decode cX8_sign 100 = .ok (.bipush 7, 2) := by decide +kernel
theorem dX8_sign_102 : decode cX8_sign 102 = .ok (.iaload, 1) := by decide +kernel
theorem dX8_sign_103 : decode cX8_sign 103 = .ok (.iconst 2, 1) := by decide +kernel
theorem dX8_sign_104 : decode cX8_sign 104 = .ok (.if_icmp .ne 10, 3) := by decide +kernel
theorem dX8_sign_107 : decode cX8_sign 107 = .ok (.aload_n 0, 1) := by decide +kernel
theorem dX8_sign_108 : decode cX8_sign 108 = .ok (.invokevirtual 63, 3) := by decide +kernel
theorem dX8_sign_111 : decode cX8_sign 111 = .ok (.goto 4, 3) := by decide +kernel
theorem dX8_sign_114 : decode cX8_sign 114 = .ok (.iconst 0, 1) := by decide +kernel
theorem dX8_sign_115 : decode cX8_sign 115 = .ok (.ireturn, 1) := by decide +kernel
theorem dX8_grade_0 : decode cX8_grade 0 = .ok (.aload_n 0, 1) := by decide +kernel
theorem dX8_grade_1 : decode cX8_grade 1 = .ok (.iload_n 1, 1) := by decide +kernel
theorem dX8_grade_2 : decode cX8_grade 2 = .ok (.invokevirtual 82, 3) := by decide +kernel
theorem dX8_grade_5 : decode cX8_grade 5 = .ok (.ifCond .eq 21, 3) := by decide +kernel
theorem dX8_grade_8 : decode cX8_grade 8 = .ok (.aload_n 0, 1) := by decide +kernel
theorem dX8_grade_9 : decode cX8_grade 9 = .ok (.iload_n 2, 1) := by decide +kernel
theorem dX8_grade_10 : decode cX8_grade 10 = .ok (.invokevirtual 125, 3) := by decide +kernel
theorem dX8_grade_13 : decode cX8_grade 13 = .ok (.ifCond .eq 13, 3) := by decide +kernel
theorem dX8_grade_16 : decode cX8_grade 16 = .ok (.iload_n 3, 1) := by decide +kernel
theorem dX8_grade_17 : decode cX8_grade 17 = .ok (.iconst 0, 1) := by decide +kernel
theorem dX8_grade_18 : decode cX8_grade 18 = .ok (.bipush 10, 2) := by decide +kernel
theorem dX8_grade_20 : decode cX8_grade 20 = .ok (.invokestatic 23, 3) := by decide +kernel
theorem dX8_grade_23 : decode cX8_grade 23 = .ok (.ifCond .ne 5, 3) := by decide +kernel
theorem dX8_grade_26 : decode cX8_grade 26 = .ok (.iconst (-1), 1) := by decide +kernel
theorem dX8_grade_27 : decode cX8_grade 27 = .ok (.ireturn, 1) := by decide +kernel
theorem dX8_grade_28 : decode cX8_grade 28 = .ok (.aload_n 0, 1) := by decide +kernel
theorem dX8_grade_29 : decode cX8_grade 29 = .ok (.getfield 7, 3) := by decide +kernel
theorem dX8_grade_32 : decode cX8_grade 32 = .ok (.iload_n 2, 1) := by decide +kernel
theorem dX8_grade_33 : decode cX8_grade 33 = .ok (.iconst 3, 1) := by decide +kernel
theorem dX8_grade_34 : decode cX8_grade 34 = .ok (.invokestatic 31, 3) := by decide +kernel
theorem dX8_grade_37 : decode cX8_grade 37 = .ok (.iaload, 1) := by decide +kernel
theorem dX8_grade_38 : decode cX8_grade 38 = .ok (.bipush (-9), 2) := by decide +kernel
theorem dX8_grade_40 : decode cX8_grade 40 = .ok (.if_icmp .eq 30, 3) := by decide +kernel
theorem dX8_grade_43 : decode cX8_grade 43 = .ok (.aload_n 0, 1) := by decide +kernel
theorem dX8_grade_44 : decode cX8_grade 44 = .ok (.getfield 7, 3) := by decide +kernel
theorem dX8_grade_47 : decode cX8_grade 47 = .ok (.bipush 6, 2) := by decide +kernel
theorem dX8_grade_49 : decode cX8_grade 49 = .ok (.iaload, 1) := by decide +kernel
theorem dX8_grade_50 : decode cX8_grade 50 = .ok (.aload_n 0, 1) := by decide +kernel
theorem dX8_grade_51 : decode cX8_grade 51 = .ok (.getfield 7, 3) := by decide +kernel
theorem dX8_grade_54 : decode cX8_grade 54 = .ok (.iload_n 2, 1) := by decide +kernel
theorem dX8_grade_55 : decode cX8_grade 55 = .ok (.iconst 3, 1) := by decide +kernel
theorem dX8_grade_56 : decode cX8_grade 56 = .ok (.invokestatic 31, 3) := by decide +kernel
theorem dX8_grade_59 : decode cX8_grade 59 = .ok (.iaload, 1) := by decide +kernel
theorem dX8_grade_60 : decode cX8_grade 60 = .ok (.isub, 1) := by decide +kernel
theorem dX8_grade_61 : decode cX8_grade 61 = .ok (.bipush 50, 2) := by decide +kernel
theorem dX8_grade_63 : decode cX8_grade 63 = .ok (.if_icmp .gt 7, 3) := by decide +kernel
theorem dX8_grade_66 : decode cX8_grade 66 = .ok (.iconst 1, 1) := by decide +kernel
theorem dX8_grade_67 : decode cX8_grade 67 = .ok (.goto 4, 3) := by decide +kernel
theorem dX8_grade_70 : decode cX8_grade 70 = .ok (.iconst 0, 1) := by decide +kernel
theorem dX8_grade_71 : decode cX8_grade 71 = .ok (.istore 5, 2) := by decide +kernel
theorem dX8_grade_73 : decode cX8_grade 73 = .ok (.iload 5, 2) := by decide +kernel
theorem dX8_grade_75 : decode cX8_grade 75 = .ok (.ifCond .eq 35, 3) := by decide +kernel
theorem dX8_grade_78 : decode cX8_grade 78 = .ok (.iload_n 1, 1) := by decide +kernel
theorem dX8_grade_79 : decode cX8_grade 79 = .ok (.aload_n 0, 1) := by decide +kernel
theorem dX8_grade_80 : decode cX8_grade 80 = .ok (.getfield 7, 3) := by decide +kernel
theorem dX8_grade_83 : decode cX8_grade 83 = .ok (.iload_n 2, 1) := by decide +kernel
theorem dX8_grade_84 : decode cX8_grade 84 = .ok (.iconst 0, 1) := by decide +kernel
theorem dX8_grade_85 : decode cX8_grade 85 = .ok (.invokestatic 31, 3) := by decide +kernel
theorem dX8_grade_88 : decode cX8_grade 88 = .ok (.iaload, 1) := by decide +kernel
theorem dX8_grade_89 : decode cX8_grade 89 = .ok (.if_icmp .eq 21, 3) := by decide +kernel
theorem dX8_grade_92 : decode cX8_grade 92 = .ok (.aload_n 0, 1) := by decide +kernel
theorem dX8_grade_93 : decode cX8_grade 93 = .ok (.getfield 7, 3) := by decide +kernel
theorem dX8_grade_96 : decode cX8_grade 96 = .ok (.iload_n 2, 1) := by decide +kernel
theorem dX8_grade_97 : decode cX8_grade 97 = .ok (.bipush 6, 2) := by decide +kernel
theorem dX8_grade_99 : decode cX8_grade 99 = .ok (.invokestatic 31, 3) := by decide +kernel
theorem dX8_grade_102 : decode cX8_grade 102 = .ok (.iaload, 1) := by decide +kernel
theorem dX8_grade_103 : decode cX8_grade 103 = .ok (.iload_n 1, 1) := by decide +kernel
theorem dX8_grade_104 : decode cX8_grade 104 = .ok (.ishr, 1) := by decide +kernel
theorem dX8_grade_105 : decode cX8_grade 105 = .ok (.iconst 1, 1) := by decide +kernel
theorem dX8_grade_106 : decode cX8_grade 106 = .ok (.iand, 1) := by decide +kernel
theorem dX8_grade_107 : decode cX8_grade 107 = .ok (.ifCond .ne 6, 3) := by decide +kernel
theorem dX8_grade_110 : decode cX8_grade 110 = .ok (.bipush (-2), 2) := by decide +kernel
theorem dX8_grade_112 : decode cX8_grade 112 = .ok (.ireturn, 1) := by decide +kernel
theorem dX8_grade_113 : decode cX8_grade 113 = .ok (.iload 4, 2) := by decide +kernel
theorem dX8_grade_115 : decode cX8_grade 115 = .ok (.bipush 31, 2) := by decide +kernel
theorem dX8_grade_117 : decode cX8_grade 117 = .ok (.iload_n 2, 1) := by decide +kernel
theorem dX8_grade_118 : decode cX8_grade 118 = .ok (.imul, 1) := by decide +kernel
theorem dX8_grade_119 : decode cX8_grade 119 = .ok (.bipush 17, 2) := by decide +kernel
theorem dX8_grade_121 : decode cX8_grade 121 = .ok (.iload_n 1, 1) := by decide +kernel
theorem dX8_grade_122 : decode cX8_grade 122 = .ok (.imul, 1) := by decide +kernel
theorem dX8_grade_123 : decode cX8_grade 123 = .ok (.iadd, 1) := by decide +kernel
theorem dX8_grade_124 : decode cX8_grade 124 = .ok (.bipush 7, 2) := by decide +kernel
theorem dX8_grade_126 : decode cX8_grade 126 = .ok (.iload_n 3, 1) := by decide +kernel
theorem dX8_grade_127 : decode cX8_grade 127 = .ok (.imul, 1) := by decide +kernel
theorem dX8_grade_128 : decode cX8_grade 128 = .ok (.iadd, 1) := by decide +kernel
theorem dX8_grade_129 : decode cX8_grade 129 = .ok (.aload_n 0, 1) := by decide +kernel
theorem dX8_grade_130 : decode cX8_grade 130 = .ok (.getfield 7, 3) := by decide +kernel
theorem dX8_grade_133 : decode cX8_grade 133 = .ok (.iload_n 1, 1) := by decide +kernel
theorem dX8_grade_134 : decode cX8_grade 134 = .ok (.iconst 0, 1) := by decide +kernel
theorem dX8_grade_135 : decode cX8_grade 135 = .ok (.invokestatic 27, 3) := by decide +kernel
theorem dX8_grade_138 : decode cX8_grade 138 = .ok (.iaload, 1) := by decide +kernel
theorem dX8_grade_139 : decode cX8_grade 139 = .ok (.iadd, 1) := by decide +kernel
theorem dX8_grade_140 : decode cX8_grade 140 = .ok (.sipush 997, 3) := by decide +kernel
theorem dX8_grade_143 : decode cX8_grade 143 = .ok (.irem, 1) := by decide +kernel
theorem dX8_grade_144 : decode cX8_grade 144 = .ok (.if_icmp .eq 6, 3) := by decide +kernel
theorem dX8_grade_147 : decode cX8_grade 147 = .ok (.bipush (-5), 2) := by decide +kernel
theorem dX8_grade_149 : decode cX8_grade 149 = .ok (.ireturn, 1) := by decide +kernel
theorem dX8_grade_150 : decode cX8_grade 150 = .ok (.aload_n 0, 1) := by decide +kernel
theorem dX8_grade_151 : decode cX8_grade 151 = .ok (.invokevirtual 73, 3) := by decide +kernel
theorem dX8_grade_154 : decode cX8_grade 154 = .ok (.aload_n 0, 1) := by decide +kernel
theorem dX8_grade_155 : decode cX8_grade 155 = .ok (.getfield 7, 3) := by decide +kernel
theorem dX8_grade_158 : decode cX8_grade 158 = .ok (.iload_n 2, 1) := by decide +kernel
theorem dX8_grade_159 : decode cX8_grade 159 = .ok (.bipush 7, 2) := by decide +kernel
theorem dX8_grade_161 : decode cX8_grade 161 = .ok (.invokestatic 31, 3) := by decide +kernel
theorem dX8_grade_164 : decode cX8_grade 164 = .ok (.dup2, 1) := by decide +kernel
theorem dX8_grade_165 : decode cX8_grade 165 = .ok (.iaload, 1) := by decide +kernel
theorem dX8_grade_166 : decode cX8_grade 166 = .ok (.iconst 1, 1) := by decide +kernel
theorem dX8_grade_167 : decode cX8_grade 167 = .ok (.iload_n 1, 1) := by decide +kernel
theorem dX8_grade_168 : decode cX8_grade 168 = .ok (.ishl, 1) := by decide +kernel
theorem dX8_grade_169 : decode cX8_grade 169 = .ok (.ior, 1) := by decide +kernel
theorem dX8_grade_170 : decode cX8_grade 170 = .ok (.iastore, 1) := by decide +kernel
theorem dX8_grade_171 : decode cX8_grade 171 = .ok (.aload_n 0, 1) := by decide +kernel
theorem dX8_grade_172 : decode cX8_grade 172 = .ok (.getfield 7, 3) := by decide +kernel
theorem dX8_grade_175 : decode cX8_grade 175 = .ok (.iload_n 2, 1) := by decide +kernel
theorem dX8_grade_176 : decode cX8_grade 176 = .ok (.bipush 8, 2) := by decide +kernel
theorem dX8_grade_178 : decode cX8_grade 178 = .ok (.iload_n 1, 1) := by decide +kernel
theorem dX8_grade_179 : decode cX8_grade 179 = .ok (.iadd, 1) := by decide +kernel
theorem dX8_grade_180 : decode cX8_grade 180 = .ok (.invokestatic 31, 3) := by decide +kernel
theorem dX8_grade_183 : decode cX8_grade 183 = .ok (.iload_n 3, 1) := by decide +kernel
theorem dX8_grade_184 : decode cX8_grade 184 = .ok (.iastore, 1) := by decide +kernel
theorem dX8_grade_185 : decode cX8_grade 185 = .ok (.aload_n 0, 1) := by decide +kernel
theorem dX8_grade_186 : decode cX8_grade 186 = .ok (.iload_n 2, 1) := by decide +kernel
theorem dX8_grade_187 : decode cX8_grade 187 = .ok (.invokevirtual 34, 3) := by decide +kernel
theorem dX8_grade_190 : decode cX8_grade 190 = .ok (.ireturn, 1) := by decide +kernel
theorem dX8_toldOf_0 : decode cX8_toldOf 0 = .ok (.iload_n 2, 1) := by decide +kernel
theorem dX8_toldOf_1 : decode cX8_toldOf 1 = .ok (.bipush 6, 2) := by decide +kernel
theorem dX8_toldOf_3 : decode cX8_toldOf 3 = .ok (.if_icmp .ge 14, 3) := by decide +kernel
theorem dX8_toldOf_6 : decode cX8_toldOf 6 = .ok (.aload_n 0, 1) := by decide +kernel
theorem dX8_toldOf_7 : decode cX8_toldOf 7 = .ok (.getfield 7, 3) := by decide +kernel
theorem dX8_toldOf_10 : decode cX8_toldOf 10 = .ok (.iload_n 1, 1) := by decide +kernel
theorem dX8_toldOf_11 : decode cX8_toldOf 11 = .ok (.iload_n 2, 1) := by decide +kernel
theorem dX8_toldOf_12 : decode cX8_toldOf 12 = .ok (.invokestatic 31, 3) := by decide +kernel
theorem dX8_toldOf_15 : decode cX8_toldOf 15 = .ok (.iaload, 1) := by decide +kernel
theorem dX8_toldOf_16 : decode cX8_toldOf 16 = .ok (.ireturn, 1) := by decide +kernel
theorem dX8_toldOf_17 : decode cX8_toldOf 17 = .ok (.iload_n 2, 1) := by decide +kernel
theorem dX8_toldOf_18 : decode cX8_toldOf 18 = .ok (.bipush 6, 2) := by decide +kernel
theorem dX8_toldOf_20 : decode cX8_toldOf 20 = .ok (.if_icmp .ne 11, 3) := by decide +kernel
theorem dX8_toldOf_23 : decode cX8_toldOf 23 = .ok (.aload_n 0, 1) := by decide +kernel
theorem dX8_toldOf_24 : decode cX8_toldOf 24 = .ok (.iload_n 1, 1) := by decide +kernel
theorem dX8_toldOf_25 : decode cX8_toldOf 25 = .ok (.invokevirtual 34, 3) := by decide +kernel
theorem dX8_toldOf_28 : decode cX8_toldOf 28 = .ok (.goto 28, 3) := by decide +kernel
theorem dX8_toldOf_31 : decode cX8_toldOf 31 = .ok (.aload_n 0, 1) := by decide +kernel
theorem dX8_toldOf_32 : decode cX8_toldOf 32 = .ok (.getfield 7, 3) := by decide +kernel
theorem dX8_toldOf_35 : decode cX8_toldOf 35 = .ok (.iload_n 1, 1) := by decide +kernel
theorem dX8_toldOf_36 : decode cX8_toldOf 36 = .ok (.iconst 3, 1) := by decide +kernel
theorem dX8_toldOf_37 : decode cX8_toldOf 37 = .ok (.invokestatic 31, 3) := by decide +kernel
theorem dX8_toldOf_40 : decode cX8_toldOf 40 = .ok (.iaload, 1) := by decide +kernel
theorem dX8_toldOf_41 : decode cX8_toldOf 41 = .ok (.bipush (-9), 2) := by decide +kernel
theorem dX8_toldOf_43 : decode cX8_toldOf 43 = .ok (.if_icmp .ne 8, 3) := by decide +kernel
theorem dX8_toldOf_46 : decode cX8_toldOf 46 = .ok (.bipush (-9), 2) := by decide +kernel
theorem dX8_toldOf_48 : decode cX8_toldOf 48 = .ok (.goto 8, 3) := by decide +kernel
theorem dX8_toldOf_51 : decode cX8_toldOf 51 = .ok (.aload_n 0, 1) := by decide +kernel
theorem dX8_toldOf_52 : decode cX8_toldOf 52 = .ok (.iload_n 1, 1) := by decide +kernel
theorem dX8_toldOf_53 : decode cX8_toldOf 53 = .ok (.invokevirtual 38, 3) := by decide +kernel
theorem dX8_toldOf_56 : decode cX8_toldOf 56 = .ok (.ireturn, 1) := by decide +kernel
theorem dX8_term_0 : decode cX8_term 0 = .ok (.aload_n 0, 1) := by decide +kernel
theorem dX8_term_1 : decode cX8_term 1 = .ok (.iload_n 1, 1) := by decide +kernel
theorem dX8_term_2 : decode cX8_term 2 = .ok (.invokevirtual 125, 3) := by decide +kernel
theorem dX8_term_5 : decode cX8_term 5 = .ok (.ifCond .eq 22, 3) := by decide +kernel
theorem dX8_term_8 : decode cX8_term 8 = .ok (.iload_n 2, 1) := by decide +kernel
theorem dX8_term_9 : decode cX8_term 9 = .ok (.iconst 0, 1) := by decide +kernel
theorem dX8_term_10 : decode cX8_term 10 = .ok (.bipush 7, 2) := by decide +kernel
theorem dX8_term_12 : decode cX8_term 12 = .ok (.invokestatic 23, 3) := by decide +kernel
theorem dX8_term_15 : decode cX8_term 15 = .ok (.ifCond .eq 12, 3) := by decide +kernel
theorem dX8_term_18 : decode cX8_term 18 = .ok (.aload_n 0, 1) := by decide +kernel
theorem dX8_term_19 : decode cX8_term 19 = .ok (.iload_n 1, 1) := by decide +kernel
theorem dX8_term_20 : decode cX8_term 20 = .ok (.iload_n 2, 1) := by decide +kernel
theorem dX8_term_21 : decode cX8_term 21 = .ok (.invokevirtual 128, 3) := by decide +kernel
theorem dX8_term_24 : decode cX8_term 24 = .ok (.goto 4, 3) := by decide +kernel
theorem dX8_term_27 : decode cX8_term 27 = .ok (.iconst (-1), 1) := by decide +kernel
theorem dX8_term_28 : decode cX8_term 28 = .ok (.ireturn, 1) := by decide +kernel
theorem dX8_points_0 : decode cX8_points 0 = .ok (.aload_n 0, 1) := by decide +kernel
theorem dX8_points_1 : decode cX8_points 1 = .ok (.iload_n 1, 1) := by decide +kernel
theorem dX8_points_2 : decode cX8_points 2 = .ok (.invokevirtual 82, 3) := by decide +kernel
theorem dX8_points_5 : decode cX8_points 5 = .ok (.ifCond .eq 11, 3) := by decide +kernel
theorem dX8_points_8 : decode cX8_points 8 = .ok (.aload_n 0, 1) := by decide +kernel
theorem dX8_points_9 : decode cX8_points 9 = .ok (.iload_n 2, 1) := by decide +kernel
theorem dX8_points_10 : decode cX8_points 10 = .ok (.invokevirtual 125, 3) := by decide +kernel
theorem dX8_points_13 : decode cX8_points 13 = .ok (.ifCond .ne 5, 3) := by decide +kernel
theorem dX8_points_16 : decode cX8_points 16 = .ok (.iconst (-1), 1) := by decide +kernel
theorem dX8_points_17 : decode cX8_points 17 = .ok (.ireturn, 1) := by decide +kernel
theorem dX8_points_18 : decode cX8_points 18 = .ok (.aload_n 0, 1) := by decide +kernel
theorem dX8_points_19 : decode cX8_points 19 = .ok (.getfield 7, 3) := by decide +kernel
theorem dX8_points_22 : decode cX8_points 22 = .ok (.iload_n 2, 1) := by decide +kernel
theorem dX8_points_23 : decode cX8_points 23 = .ok (.bipush 7, 2) := by decide +kernel
theorem dX8_points_25 : decode cX8_points 25 = .ok (.invokestatic 31, 3) := by decide +kernel
theorem dX8_points_28 : decode cX8_points 28 = .ok (.iaload, 1) := by decide +kernel
theorem dX8_points_29 : decode cX8_points 29 = .ok (.iload_n 1, 1) := by decide +kernel
theorem dX8_points_30 : decode cX8_points 30 = .ok (.ishr, 1) := by decide +kernel
theorem dX8_points_31 : decode cX8_points 31 = .ok (.iconst 1, 1) := by decide +kernel
theorem dX8_points_32 : decode cX8_points 32 = .ok (.iand, 1) := by decide +kernel
theorem dX8_points_33 : decode cX8_points 33 = .ok (.iconst 1, 1) := by decide +kernel
theorem dX8_points_34 : decode cX8_points 34 = .ok (.if_icmp .ne 19, 3) := by decide +kernel
theorem dX8_points_37 : decode cX8_points 37 = .ok (.aload_n 0, 1) := by decide +kernel
theorem dX8_points_38 : decode cX8_points 38 = .ok (.getfield 7, 3) := by decide +kernel
theorem dX8_points_41 : decode cX8_points 41 = .ok (.iload_n 2, 1) := by decide +kernel
theorem dX8_points_42 : decode cX8_points 42 = .ok (.bipush 8, 2) := by decide +kernel
theorem dX8_points_44 : decode cX8_points 44 = .ok (.iload_n 1, 1) := by decide +kernel
theorem dX8_points_45 : decode cX8_points 45 = .ok (.iadd, 1) := by decide +kernel
theorem dX8_points_46 : decode cX8_points 46 = .ok (.invokestatic 31, 3) := by decide +kernel
theorem dX8_points_49 : decode cX8_points 49 = .ok (.iaload, 1) := by decide +kernel
theorem dX8_points_50 : decode cX8_points 50 = .ok (.goto 5, 3) := by decide +kernel
theorem dX8_points_53 : decode cX8_points 53 = .ok (.bipush (-9), 2) := by decide +kernel
theorem dX8_points_55 : decode cX8_points 55 = .ok (.ireturn, 1) := by decide +kernel
theorem dX8_terms_0 : decode cX8_terms 0 = .ok (.aload_n 0, 1) := by decide +kernel
theorem dX8_terms_1 : decode cX8_terms 1 = .ok (.getfield 7, 3) := by decide +kernel
theorem dX8_terms_4 : decode cX8_terms 4 = .ok (.bipush 9, 2) := by decide +kernel
theorem dX8_terms_6 : decode cX8_terms 6 = .ok (.iaload, 1) := by decide +kernel
theorem dX8_terms_7 : decode cX8_terms 7 = .ok (.ireturn, 1) := by decide +kernel
theorem dX8_told_0 : decode cX8_told 0 = .ok (.iload_n 2, 1) := by decide +kernel
theorem dX8_told_1 : decode cX8_told 1 = .ok (.tableswitch 83 0 4 #[35, 41, 47, 58, 72], 35) := by decide +kernel
theorem dX8_told_36 : decode cX8_told 36 = .ok (.aload_n 0, 1) := by decide +kernel
theorem dX8_told_37 : decode cX8_told 37 = .ok (.iload_n 1, 1) := by decide +kernel
theorem dX8_told_38 : decode cX8_told 38 = .ok (.invokevirtual 48, 3) := by decide +kernel
theorem dX8_told_41 : decode cX8_told 41 = .ok (.ireturn, 1) := by decide +kernel
theorem dX8_told_42 : decode cX8_told 42 = .ok (.aload_n 0, 1) := by decide +kernel
theorem dX8_told_43 : decode cX8_told 43 = .ok (.iload_n 1, 1) := by decide +kernel
theorem dX8_told_44 : decode cX8_told 44 = .ok (.invokevirtual 45, 3) := by decide +kernel
theorem dX8_told_47 : decode cX8_told 47 = .ok (.ireturn, 1) := by decide +kernel
theorem dX8_told_48 : decode cX8_told 48 = .ok (.aload_n 0, 1) := by decide +kernel
theorem dX8_told_49 : decode cX8_told 49 = .ok (.getfield 7, 3) := by decide +kernel
theorem dX8_told_52 : decode cX8_told 52 = .ok (.iload_n 1, 1) := by decide +kernel
theorem dX8_told_53 : decode cX8_told 53 = .ok (.iconst 1, 1) := by decide +kernel
theorem dX8_told_54 : decode cX8_told 54 = .ok (.invokestatic 27, 3) := by decide +kernel
theorem dX8_told_57 : decode cX8_told 57 = .ok (.iaload, 1) := by decide +kernel
theorem dX8_told_58 : decode cX8_told 58 = .ok (.ireturn, 1) := by decide +kernel
theorem dX8_told_59 : decode cX8_told 59 = .ok (.aload_n 0, 1) := by decide +kernel
theorem dX8_told_60 : decode cX8_told 60 = .ok (.iload_n 1, 1) := by decide +kernel
theorem dX8_told_61 : decode cX8_told 61 = .ok (.invokevirtual 89, 3) := by decide +kernel
theorem dX8_told_64 : decode cX8_told 64 = .ok (.ifCond .eq 7, 3) := by decide +kernel
theorem dX8_told_67 : decode cX8_told 67 = .ok (.iconst 1, 1) := by decide +kernel
theorem dX8_told_68 : decode cX8_told 68 = .ok (.goto 4, 3) := by decide +kernel
theorem dX8_told_71 : decode cX8_told 71 = .ok (.iconst 0, 1) := by decide +kernel
theorem dX8_told_72 : decode cX8_told 72 = .ok (.ireturn, 1) := by decide +kernel
theorem dX8_told_73 : decode cX8_told 73 = .ok (.aload_n 0, 1) := by decide +kernel
theorem dX8_told_74 : decode cX8_told 74 = .ok (.getfield 7, 3) := by decide +kernel
theorem dX8_told_77 : decode cX8_told 77 = .ok (.iload_n 1, 1) := by decide +kernel
theorem dX8_told_78 : decode cX8_told 78 = .ok (.iconst 2, 1) := by decide +kernel
theorem dX8_told_79 : decode cX8_told 79 = .ok (.invokestatic 27, 3) := by decide +kernel
theorem dX8_told_82 : decode cX8_told 82 = .ok (.iaload, 1) := by decide +kernel
theorem dX8_told_83 : decode cX8_told 83 = .ok (.ireturn, 1) := by decide +kernel
theorem dX8_told_84 : decode cX8_told 84 = .ok (.aload_n 0, 1) := by decide +kernel
theorem dX8_told_85 : decode cX8_told 85 = .ok (.getfield 7, 3) := by decide +kernel
theorem dX8_told_88 : decode cX8_told 88 = .ok (.iload_n 1, 1) := by decide +kernel
theorem dX8_told_89 : decode cX8_told 89 = .ok (.iconst 3, 1) := by decide +kernel
theorem dX8_told_90 : decode cX8_told 90 = .ok (.invokestatic 27, 3) := by decide +kernel
theorem dX8_told_93 : decode cX8_told 93 = .ok (.iaload, 1) := by decide +kernel
theorem dX8_told_94 : decode cX8_told 94 = .ok (.ireturn, 1) := by decide +kernel
theorem dX8_member_0 : decode cX8_member 0 = .ok (.aload_n 0, 1) := by decide +kernel
theorem dX8_member_1 : decode cX8_member 1 = .ok (.iload_n 1, 1) := by decide +kernel
theorem dX8_member_2 : decode cX8_member 2 = .ok (.invokevirtual 82, 3) := by decide +kernel
theorem dX8_member_5 : decode cX8_member 5 = .ok (.ifCond .eq 21, 3) := by decide +kernel
theorem dX8_member_8 : decode cX8_member 8 = .ok (.iload_n 2, 1) := by decide +kernel
theorem dX8_member_9 : decode cX8_member 9 = .ok (.iconst 0, 1) := by decide +kernel
theorem dX8_member_10 : decode cX8_member 10 = .ok (.iconst 5, 1) := by decide +kernel
theorem dX8_member_11 : decode cX8_member 11 = .ok (.invokestatic 23, 3) := by decide +kernel
theorem dX8_member_14 : decode cX8_member 14 = .ok (.ifCond .eq 12, 3) := by decide +kernel
theorem dX8_member_17 : decode cX8_member 17 = .ok (.aload_n 0, 1) := by decide +kernel
theorem dX8_member_18 : decode cX8_member 18 = .ok (.iload_n 1, 1) := by decide +kernel
theorem dX8_member_19 : decode cX8_member 19 = .ok (.iload_n 2, 1) := by decide +kernel
theorem dX8_member_20 : decode cX8_member 20 = .ok (.invokevirtual 131, 3) := by decide +kernel
theorem dX8_member_23 : decode cX8_member 23 = .ok (.goto 4, 3) := by decide +kernel
theorem dX8_member_26 : decode cX8_member 26 = .ok (.iconst (-1), 1) := by decide +kernel
theorem dX8_member_27 : decode cX8_member 27 = .ok (.ireturn, 1) := by decide +kernel
theorem dX8_time_0 : decode cX8_time 0 = .ok (.aload_n 0, 1) := by decide +kernel
theorem dX8_time_1 : decode cX8_time 1 = .ok (.getfield 7, 3) := by decide +kernel
theorem dX8_time_4 : decode cX8_time 4 = .ok (.bipush 6, 2) := by decide +kernel
theorem dX8_time_6 : decode cX8_time 6 = .ok (.iaload, 1) := by decide +kernel
theorem dX8_time_7 : decode cX8_time 7 = .ok (.ireturn, 1) := by decide +kernel
theorem dX8_events_0 : decode cX8_events 0 = .ok (.aload_n 0, 1) := by decide +kernel
theorem dX8_events_1 : decode cX8_events 1 = .ok (.getfield 7, 3) := by decide +kernel
theorem dX8_events_4 : decode cX8_events 4 = .ok (.bipush 12, 2) := by decide +kernel
theorem dX8_events_6 : decode cX8_events 6 = .ok (.iaload, 1) := by decide +kernel
theorem dX8_events_7 : decode cX8_events 7 = .ok (.ireturn, 1) := by decide +kernel
theorem dX8_event_0 : decode cX8_event 0 = .ok (.iload_n 1, 1) := by decide +kernel
theorem dX8_event_1 : decode cX8_event 1 = .ok (.ifCond .lt 12, 3) := by decide +kernel
theorem dX8_event_4 : decode cX8_event 4 = .ok (.iload_n 2, 1) := by decide +kernel
theorem dX8_event_5 : decode cX8_event 5 = .ok (.iconst 0, 1) := by decide +kernel
theorem dX8_event_6 : decode cX8_event 6 = .ok (.iconst 2, 1) := by decide +kernel
theorem dX8_event_7 : decode cX8_event 7 = .ok (.invokestatic 23, 3) := by decide +kernel
theorem dX8_event_10 : decode cX8_event 10 = .ok (.ifCond .ne 5, 3) := by decide +kernel
theorem dX8_event_13 : decode cX8_event 13 = .ok (.iconst (-1), 1) := by decide +kernel
theorem dX8_event_14 : decode cX8_event 14 = .ok (.ireturn, 1) := by decide +kernel
theorem dX8_event_15 : decode cX8_event 15 = .ok (.iload_n 1, 1) := by decide +kernel
theorem dX8_event_16 : decode cX8_event 16 = .ok (.bipush 20, 2) := by decide +kernel
theorem dX8_event_18 : decode cX8_event 18 = .ok (.if_icmp .ge 44, 3) := by decide +kernel
theorem dX8_event_21 : decode cX8_event 21 = .ok (.iload_n 1, 1) := by decide +kernel
theorem dX8_event_22 : decode cX8_event 22 = .ok (.aload_n 0, 1) := by decide +kernel
theorem dX8_event_23 : decode cX8_event 23 = .ok (.getfield 7, 3) := by decide +kernel
theorem dX8_event_26 : decode cX8_event 26 = .ok (.bipush 12, 2) := by decide +kernel
theorem dX8_event_28 : decode cX8_event 28 = .ok (.iaload, 1) := by decide +kernel
theorem dX8_event_29 : decode cX8_event 29 = .ok (.if_icmp .ge 33, 3) := by decide +kernel
theorem dX8_event_32 : decode cX8_event 32 = .ok (.aload_n 0, 1) := by decide +kernel
theorem dX8_event_33 : decode cX8_event 33 = .ok (.getfield 7, 3) := by decide +kernel
theorem dX8_event_36 : decode cX8_event 36 = .ok (.sipush 910, 3) := by decide +kernel
theorem dX8_event_39 : decode cX8_event 39 = .ok (.iconst 3, 1) := by decide +kernel
theorem dX8_event_40 : decode cX8_event 40 = .ok (.aload_n 0, 1) := by decide +kernel
theorem dX8_event_41 : decode cX8_event 41 = .ok (.getfield 7, 3) := by decide +kernel
theorem dX8_event_44 : decode cX8_event 44 = .ok (.bipush 12, 2) := by decide +kernel
theorem dX8_event_46 : decode cX8_event 46 = .ok (.iaload, 1) := by decide +kernel
theorem dX8_event_47 : decode cX8_event 47 = .ok (.iconst 1, 1) := by decide +kernel
theorem dX8_event_48 : decode cX8_event 48 = .ok (.isub, 1) := by decide +kernel
theorem dX8_event_49 : decode cX8_event 49 = .ok (.iload_n 1, 1) := by decide +kernel
theorem dX8_event_50 : decode cX8_event 50 = .ok (.isub, 1) := by decide +kernel
theorem dX8_event_51 : decode cX8_event 51 = .ok (.bipush 20, 2) := by decide +kernel
theorem dX8_event_53 : decode cX8_event 53 = .ok (.irem, 1) := by decide +kernel
theorem dX8_event_54 : decode cX8_event 54 = .ok (.imul, 1) := by decide +kernel
theorem dX8_event_55 : decode cX8_event 55 = .ok (.iadd, 1) := by decide +kernel
theorem dX8_event_56 : decode cX8_event 56 = .ok (.iload_n 2, 1) := by decide +kernel
theorem dX8_event_57 : decode cX8_event 57 = .ok (.iadd, 1) := by decide +kernel
theorem dX8_event_58 : decode cX8_event 58 = .ok (.iaload, 1) := by decide +kernel
theorem dX8_event_59 : decode cX8_event 59 = .ok (.goto 5, 3) := by decide +kernel
theorem dX8_event_62 : decode cX8_event 62 = .ok (.bipush (-9), 2) := by decide +kernel
theorem dX8_event_64 : decode cX8_event 64 = .ok (.ireturn, 1) := by decide +kernel
theorem dX8_type_0 : decode cX8_type 0 = .ok (.iload_n 1, 1) := by decide +kernel
theorem dX8_type_1 : decode cX8_type 1 = .ok (.bipush 32, 2) := by decide +kernel
theorem dX8_type_3 : decode cX8_type 3 = .ok (.bipush 126, 2) := by decide +kernel
theorem dX8_type_5 : decode cX8_type 5 = .ok (.invokestatic 23, 3) := by decide +kernel
theorem dX8_type_8 : decode cX8_type 8 = .ok (.ifCond .ne 5, 3) := by decide +kernel
theorem dX8_type_11 : decode cX8_type 11 = .ok (.iconst (-1), 1) := by decide +kernel
theorem dX8_type_12 : decode cX8_type 12 = .ok (.ireturn, 1) := by decide +kernel
theorem dX8_type_13 : decode cX8_type 13 = .ok (.aload_n 0, 1) := by decide +kernel
theorem dX8_type_14 : decode cX8_type 14 = .ok (.getfield 95, 3) := by decide +kernel
theorem dX8_type_17 : decode cX8_type 17 = .ok (.bipush 40, 2) := by decide +kernel
theorem dX8_type_19 : decode cX8_type 19 = .ok (.if_icmp .ne 6, 3) := by decide +kernel
theorem dX8_type_22 : decode cX8_type 22 = .ok (.bipush (-3), 2) := by decide +kernel
theorem dX8_type_24 : decode cX8_type 24 = .ok (.ireturn, 1) := by decide +kernel
theorem dX8_type_25 : decode cX8_type 25 = .ok (.aload_n 0, 1) := by decide +kernel
theorem dX8_type_26 : decode cX8_type 26 = .ok (.getfield 16, 3) := by decide +kernel
theorem dX8_type_29 : decode cX8_type 29 = .ok (.aload_n 0, 1) := by decide +kernel
theorem dX8_type_30 : decode cX8_type 30 = .ok (.getfield 95, 3) := by decide +kernel
theorem dX8_type_33 : decode cX8_type 33 = .ok (.iload_n 1, 1) := by decide +kernel
theorem dX8_type_34 : decode cX8_type 34 = .ok (.iastore, 1) := by decide +kernel
theorem dX8_type_35 : decode cX8_type 35 = .ok (.aload_n 0, 1) := by decide +kernel
theorem dX8_type_36 : decode cX8_type 36 = .ok (.dup, 1) := by decide +kernel
theorem dX8_type_37 : decode cX8_type 37 = .ok (.getfield 95, 3) := by decide +kernel
theorem dX8_type_40 : decode cX8_type 40 = .ok (.iconst 1, 1) := by decide +kernel
theorem dX8_type_41 : decode cX8_type 41 = .ok (.iadd, 1) := by decide +kernel
theorem dX8_type_42 : decode cX8_type 42 = .ok (.putfield 95, 3) := by decide +kernel
theorem dX8_type_45 : decode cX8_type 45 = .ok (.aload_n 0, 1) := by decide +kernel
theorem dX8_type_46 : decode cX8_type 46 = .ok (.getfield 95, 3) := by decide +kernel
theorem dX8_type_49 : decode cX8_type 49 = .ok (.ireturn, 1) := by decide +kernel
theorem dX8_clear_0 : decode cX8_clear 0 = .ok (.aload_n 0, 1) := by decide +kernel
theorem dX8_clear_1 : decode cX8_clear 1 = .ok (.getfield 95, 3) := by decide +kernel
theorem dX8_clear_4 : decode cX8_clear 4 = .ok (.istore_n 1, 1) := by decide +kernel
theorem dX8_clear_5 : decode cX8_clear 5 = .ok (.aload_n 0, 1) := by decide +kernel
theorem dX8_clear_6 : decode cX8_clear 6 = .ok (.iconst 0, 1) := by decide +kernel
theorem dX8_clear_7 : decode cX8_clear 7 = .ok (.putfield 95, 3) := by decide +kernel
theorem dX8_clear_10 : decode cX8_clear 10 = .ok (.iload_n 1, 1) := by decide +kernel
theorem dX8_clear_11 : decode cX8_clear 11 = .ok (.ireturn, 1) := by decide +kernel
theorem dX8_undo_0 : decode cX8_undo 0 = .ok (.aload_n 0, 1) := by decide +kernel
theorem dX8_undo_1 : decode cX8_undo 1 = .ok (.getfield 19, 3) := by decide +kernel
theorem dX8_undo_4 : decode cX8_undo 4 = .ok (.ifCond .ne 6, 3) := by decide +kernel
theorem dX8_undo_7 : decode cX8_undo 7 = .ok (.bipush (-9), 2) := by decide +kernel
theorem dX8_undo_9 : decode cX8_undo 9 = .ok (.ireturn, 1) := by decide +kernel
theorem dX8_undo_10 : decode cX8_undo 10 = .ok (.aload_n 0, 1) := by decide +kernel
theorem dX8_undo_11 : decode cX8_undo 11 = .ok (.dup, 1) := by decide +kernel
theorem dX8_undo_12 : decode cX8_undo 12 = .ok (.getfield 19, 3) := by decide +kernel
theorem dX8_undo_15 : decode cX8_undo 15 = .ok (.iconst 1, 1) := by decide +kernel
theorem dX8_undo_16 : decode cX8_undo 16 = .ok (.isub, 1) := by decide +kernel
theorem dX8_undo_17 : decode cX8_undo 17 = .ok (.putfield 19, 3) := by decide +kernel
theorem dX8_undo_20 : decode cX8_undo 20 = .ok (.iconst 0, 1) := by decide +kernel
theorem dX8_undo_21 : decode cX8_undo 21 = .ok (.istore_n 1, 1) := by decide +kernel
theorem dX8_undo_22 : decode cX8_undo 22 = .ok (.iload_n 1, 1) := by decide +kernel
theorem dX8_undo_23 : decode cX8_undo 23 = .ok (.sipush 1100, 3) := by decide +kernel
theorem dX8_undo_26 : decode cX8_undo 26 = .ok (.if_icmp .ge 30, 3) := by decide +kernel
theorem dX8_undo_29 : decode cX8_undo 29 = .ok (.aload_n 0, 1) := by decide +kernel
theorem dX8_undo_30 : decode cX8_undo 30 = .ok (.getfield 7, 3) := by decide +kernel
theorem dX8_undo_33 : decode cX8_undo 33 = .ok (.iload_n 1, 1) := by decide +kernel
theorem dX8_undo_34 : decode cX8_undo 34 = .ok (.aload_n 0, 1) := by decide +kernel
theorem dX8_undo_35 : decode cX8_undo 35 = .ok (.getfield 13, 3) := by decide +kernel
theorem dX8_undo_38 : decode cX8_undo 38 = .ok (.sipush 1100, 3) := by decide +kernel
theorem dX8_undo_41 : decode cX8_undo 41 = .ok (.aload_n 0, 1) := by decide +kernel
theorem dX8_undo_42 : decode cX8_undo 42 = .ok (.getfield 19, 3) := by decide +kernel
theorem dX8_undo_45 : decode cX8_undo 45 = .ok (.imul, 1) := by decide +kernel
theorem dX8_undo_46 : decode cX8_undo 46 = .ok (.iload_n 1, 1) := by decide +kernel
theorem dX8_undo_47 : decode cX8_undo 47 = .ok (.iadd, 1) := by decide +kernel
theorem dX8_undo_48 : decode cX8_undo 48 = .ok (.iaload, 1) := by decide +kernel
theorem dX8_undo_49 : decode cX8_undo 49 = .ok (.iastore, 1) := by decide +kernel
theorem dX8_undo_50 : decode cX8_undo 50 = .ok (.iinc 1 1, 3) := by decide +kernel
theorem dX8_undo_53 : decode cX8_undo 53 = .ok (.goto (-31), 3) := by decide +kernel
theorem dX8_undo_56 : decode cX8_undo 56 = .ok (.aload_n 0, 1) := by decide +kernel
theorem dX8_undo_57 : decode cX8_undo 57 = .ok (.getfield 19, 3) := by decide +kernel
theorem dX8_undo_60 : decode cX8_undo 60 = .ok (.ireturn, 1) := by decide +kernel
theorem dX8_fingerprint_0 : decode cX8_fingerprint 0 = .ok (.ldc2_w 134, 3) := by decide +kernel
theorem dX8_fingerprint_3 : decode cX8_fingerprint 3 = .ok (.ldc2_w 134, 3) := by decide +kernel
theorem dX8_fingerprint_6 : decode cX8_fingerprint 6 = .ok (.ldc2_w 136, 3) := by decide +kernel
theorem dX8_fingerprint_9 : decode cX8_fingerprint 9 = .ok (.aload_n 0, 1) := by decide +kernel
theorem dX8_fingerprint_10 : decode cX8_fingerprint 10 = .ok (.getfield 7, 3) := by decide +kernel
theorem dX8_fingerprint_13 : decode cX8_fingerprint 13 = .ok (.bipush 6, 2) := by decide +kernel
theorem dX8_fingerprint_15 : decode cX8_fingerprint 15 = .ok (.iaload, 1) := by decide +kernel
theorem dX8_fingerprint_16 : decode cX8_fingerprint 16 = .ok (.i2l, 1) := by decide +kernel
theorem dX8_fingerprint_17 : decode cX8_fingerprint 17 = .ok (.ladd, 1) := by decide +kernel
theorem dX8_fingerprint_18 : decode cX8_fingerprint 18 = .ok (.lmul, 1) := by decide +kernel
theorem dX8_fingerprint_19 : decode cX8_fingerprint 19 = .ok (.aload_n 0, 1) := by decide +kernel
theorem dX8_fingerprint_20 : decode cX8_fingerprint 20 = .ok (.getfield 7, 3) := by decide +kernel
theorem dX8_fingerprint_23 : decode cX8_fingerprint 23 = .ok (.bipush 7, 2) := by decide +kernel
theorem dX8_fingerprint_25 : decode cX8_fingerprint 25 = .ok (.iaload, 1) := by decide +kernel
theorem dX8_fingerprint_26 : decode cX8_fingerprint 26 = .ok (.i2l, 1) := by decide +kernel
theorem dX8_fingerprint_27 : decode cX8_fingerprint 27 = .ok (.ladd, 1) := by decide +kernel
theorem dX8_fingerprint_28 : decode cX8_fingerprint 28 = .ok (.lmul, 1) := by decide +kernel
theorem dX8_fingerprint_29 : decode cX8_fingerprint 29 = .ok (.aload_n 0, 1) := by decide +kernel
theorem dX8_fingerprint_30 : decode cX8_fingerprint 30 = .ok (.getfield 7, 3) := by decide +kernel
theorem dX8_fingerprint_33 : decode cX8_fingerprint 33 = .ok (.bipush 8, 2) := by decide +kernel
theorem dX8_fingerprint_35 : decode cX8_fingerprint 35 = .ok (.iaload, 1) := by decide +kernel
theorem dX8_fingerprint_36 : decode cX8_fingerprint 36 = .ok (.i2l, 1) := by decide +kernel
theorem dX8_fingerprint_37 : decode cX8_fingerprint 37 = .ok (.ladd, 1) := by decide +kernel
theorem dX8_fingerprint_38 : decode cX8_fingerprint 38 = .ok (.lstore_n 1, 1) := by decide +kernel
theorem dX8_fingerprint_39 : decode cX8_fingerprint 39 = .ok (.ldc2_w 134, 3) := by decide +kernel
theorem dX8_fingerprint_42 : decode cX8_fingerprint 42 = .ok (.ldc2_w 134, 3) := by decide +kernel
theorem dX8_fingerprint_45 : decode cX8_fingerprint 45 = .ok (.lload_n 1, 1) := by decide +kernel
theorem dX8_fingerprint_46 : decode cX8_fingerprint 46 = .ok (.lmul, 1) := by decide +kernel
theorem dX8_fingerprint_47 : decode cX8_fingerprint 47 = .ok (.aload_n 0, 1) := by decide +kernel
theorem dX8_fingerprint_48 : decode cX8_fingerprint 48 = .ok (.getfield 7, 3) := by decide +kernel
theorem dX8_fingerprint_51 : decode cX8_fingerprint 51 = .ok (.bipush 9, 2) := by decide +kernel
theorem dX8_fingerprint_53 : decode cX8_fingerprint 53 = .ok (.iaload, 1) := by decide +kernel
theorem dX8_fingerprint_54 : decode cX8_fingerprint 54 = .ok (.i2l, 1) := by decide +kernel
theorem dX8_fingerprint_55 : decode cX8_fingerprint 55 = .ok (.ladd, 1) := by decide +kernel
theorem dX8_fingerprint_56 : decode cX8_fingerprint 56 = .ok (.lmul, 1) := by decide +kernel
theorem dX8_fingerprint_57 : decode cX8_fingerprint 57 = .ok (.aload_n 0, 1) := by decide +kernel
theorem dX8_fingerprint_58 : decode cX8_fingerprint 58 = .ok (.getfield 7, 3) := by decide +kernel
theorem dX8_fingerprint_61 : decode cX8_fingerprint 61 = .ok (.bipush 12, 2) := by decide +kernel
theorem dX8_fingerprint_63 : decode cX8_fingerprint 63 = .ok (.iaload, 1) := by decide +kernel
theorem dX8_fingerprint_64 : decode cX8_fingerprint 64 = .ok (.i2l, 1) := by decide +kernel
theorem dX8_fingerprint_65 : decode cX8_fingerprint 65 = .ok (.ladd, 1) := by decide +kernel
theorem dX8_fingerprint_66 : decode cX8_fingerprint 66 = .ok (.lstore_n 1, 1) := by decide +kernel
theorem dX8_fingerprint_67 : decode cX8_fingerprint 67 = .ok (.iconst 1, 1) := by decide +kernel
theorem dX8_fingerprint_68 : decode cX8_fingerprint 68 = .ok (.istore_n 3, 1) := by decide +kernel
theorem dX8_fingerprint_69 : decode cX8_fingerprint 69 = .ok (.iload_n 3, 1) := by decide +kernel
theorem dX8_fingerprint_70 : decode cX8_fingerprint 70 = .ok (.aload_n 0, 1) := by decide +kernel
theorem dX8_fingerprint_71 : decode cX8_fingerprint 71 = .ok (.getfield 7, 3) := by decide +kernel
theorem dX8_fingerprint_74 : decode cX8_fingerprint 74 = .ok (.bipush 9, 2) := by decide +kernel
theorem dX8_fingerprint_76 : decode cX8_fingerprint 76 = .ok (.iaload, 1) := by decide +kernel
theorem dX8_fingerprint_77 : decode cX8_fingerprint 77 = .ok (.if_icmp .gt 40, 3) := by decide +kernel
theorem dX8_fingerprint_80 : decode cX8_fingerprint 80 = .ok (.iconst 0, 1) := by decide +kernel
theorem dX8_fingerprint_81 : decode cX8_fingerprint 81 = .ok (.istore 4, 2) := by decide +kernel
theorem dX8_fingerprint_83 : decode cX8_fingerprint 83 = .ok (.iload 4, 2) := by decide +kernel
theorem dX8_fingerprint_85 : decode cX8_fingerprint 85 = .ok (.bipush 8, 2) := by decide +kernel
theorem dX8_fingerprint_87 : decode cX8_fingerprint 87 = .ok (.if_icmp .ge 24, 3) := by decide +kernel
theorem dX8_fingerprint_90 : decode cX8_fingerprint 90 = .ok (.ldc2_w 134, 3) := by decide +kernel
theorem dX8_fingerprint_93 : decode cX8_fingerprint 93 = .ok (.lload_n 1, 1) := by decide +kernel
theorem dX8_fingerprint_94 : decode cX8_fingerprint 94 = .ok (.lmul, 1) := by decide +kernel
theorem dX8_fingerprint_95 : decode cX8_fingerprint 95 = .ok (.aload_n 0, 1) := by decide +kernel
theorem dX8_fingerprint_96 : decode cX8_fingerprint 96 = .ok (.iload_n 3, 1) := by decide +kernel
theorem dX8_fingerprint_97 : decode cX8_fingerprint 97 = .ok (.iload 4, 2) := by decide +kernel
theorem dX8_fingerprint_99 : decode cX8_fingerprint 99 = .ok (.invokevirtual 128, 3) := by decide +kernel
theorem dX8_fingerprint_102 : decode cX8_fingerprint 102 = .ok (.i2l, 1) := by decide +kernel
theorem dX8_fingerprint_103 : decode cX8_fingerprint 103 = .ok (.ladd, 1) := by decide +kernel
theorem dX8_fingerprint_104 : decode cX8_fingerprint 104 = .ok (.lstore_n 1, 1) := by decide +kernel
theorem dX8_fingerprint_105 : decode cX8_fingerprint 105 = .ok (.iinc 4 1, 3) := by decide +kernel
theorem dX8_fingerprint_108 : decode cX8_fingerprint 108 = .ok (.goto (-25), 3) := by decide +kernel
theorem dX8_fingerprint_111 : decode cX8_fingerprint 111 = .ok (.iinc 3 1, 3) := by decide +kernel
theorem dX8_fingerprint_114 : decode cX8_fingerprint 114 = .ok (.goto (-45), 3) := by decide +kernel
theorem dX8_fingerprint_117 : decode cX8_fingerprint 117 = .ok (.ldc2_w 134, 3) := by decide +kernel
theorem dX8_fingerprint_120 : decode cX8_fingerprint 120 = .ok (.lload_n 1, 1) := by decide +kernel
theorem dX8_fingerprint_121 : decode cX8_fingerprint 121 = .ok (.lmul, 1) := by decide +kernel
theorem dX8_fingerprint_122 : decode cX8_fingerprint 122 = .ok (.aload_n 0, 1) := by decide +kernel
theorem dX8_fingerprint_123 : decode cX8_fingerprint 123 = .ok (.getfield 7, 3) := by decide +kernel
theorem dX8_fingerprint_126 : decode cX8_fingerprint 126 = .ok (.bipush 10, 2) := by decide +kernel
theorem dX8_fingerprint_128 : decode cX8_fingerprint 128 = .ok (.iaload, 1) := by decide +kernel
theorem dX8_fingerprint_129 : decode cX8_fingerprint 129 = .ok (.i2l, 1) := by decide +kernel
theorem dX8_fingerprint_130 : decode cX8_fingerprint 130 = .ok (.ladd, 1) := by decide +kernel
theorem dX8_fingerprint_131 : decode cX8_fingerprint 131 = .ok (.lstore_n 1, 1) := by decide +kernel
theorem dX8_fingerprint_132 : decode cX8_fingerprint 132 = .ok (.iconst 0, 1) := by decide +kernel
theorem dX8_fingerprint_133 : decode cX8_fingerprint 133 = .ok (.istore_n 3, 1) := by decide +kernel
theorem dX8_fingerprint_134 : decode cX8_fingerprint 134 = .ok (.iload_n 3, 1) := by decide +kernel
theorem dX8_fingerprint_135 : decode cX8_fingerprint 135 = .ok (.aload_n 0, 1) := by decide +kernel
theorem dX8_fingerprint_136 : decode cX8_fingerprint 136 = .ok (.getfield 7, 3) := by decide +kernel
theorem dX8_fingerprint_139 : decode cX8_fingerprint 139 = .ok (.bipush 10, 2) := by decide +kernel
theorem dX8_fingerprint_141 : decode cX8_fingerprint 141 = .ok (.iaload, 1) := by decide +kernel
theorem dX8_fingerprint_142 : decode cX8_fingerprint 142 = .ok (.if_icmp .ge 40, 3) := by decide +kernel
theorem dX8_fingerprint_145 : decode cX8_fingerprint 145 = .ok (.iconst 0, 1) := by decide +kernel
theorem dX8_fingerprint_146 : decode cX8_fingerprint 146 = .ok (.istore 4, 2) := by decide +kernel
theorem dX8_fingerprint_148 : decode cX8_fingerprint 148 = .ok (.iload 4, 2) := by decide +kernel
theorem dX8_fingerprint_150 : decode cX8_fingerprint 150 = .ok (.bipush 6, 2) := by decide +kernel
theorem dX8_fingerprint_152 : decode cX8_fingerprint 152 = .ok (.if_icmp .ge 24, 3) := by decide +kernel
theorem dX8_fingerprint_155 : decode cX8_fingerprint 155 = .ok (.ldc2_w 134, 3) := by decide +kernel
theorem dX8_fingerprint_158 : decode cX8_fingerprint 158 = .ok (.lload_n 1, 1) := by decide +kernel
theorem dX8_fingerprint_159 : decode cX8_fingerprint 159 = .ok (.lmul, 1) := by decide +kernel
theorem dX8_fingerprint_160 : decode cX8_fingerprint 160 = .ok (.aload_n 0, 1) := by decide +kernel
theorem dX8_fingerprint_161 : decode cX8_fingerprint 161 = .ok (.iload_n 3, 1) := by decide +kernel
theorem dX8_fingerprint_162 : decode cX8_fingerprint 162 = .ok (.iload 4, 2) := by decide +kernel
theorem dX8_fingerprint_164 : decode cX8_fingerprint 164 = .ok (.invokevirtual 131, 3) := by decide +kernel
theorem dX8_fingerprint_167 : decode cX8_fingerprint 167 = .ok (.i2l, 1) := by decide +kernel
theorem dX8_fingerprint_168 : decode cX8_fingerprint 168 = .ok (.ladd, 1) := by decide +kernel
theorem dX8_fingerprint_169 : decode cX8_fingerprint 169 = .ok (.lstore_n 1, 1) := by decide +kernel
theorem dX8_fingerprint_170 : decode cX8_fingerprint 170 = .ok (.iinc 4 1, 3) := by decide +kernel
theorem dX8_fingerprint_173 : decode cX8_fingerprint 173 = .ok (.goto (-25), 3) := by decide +kernel
theorem dX8_fingerprint_176 : decode cX8_fingerprint 176 = .ok (.iinc 3 1, 3) := by decide +kernel
theorem dX8_fingerprint_179 : decode cX8_fingerprint 179 = .ok (.goto (-45), 3) := by decide +kernel
theorem dX8_fingerprint_182 : decode cX8_fingerprint 182 = .ok (.lload_n 1, 1) := by decide +kernel
theorem dX8_fingerprint_183 : decode cX8_fingerprint 183 = .ok (.lreturn, 1) := by decide +kernel
theorem dJ6_bitCount_0f7a4_0 : decode cJ6_bitCount_0f7a4 0 = .ok (.iload_n 0, 1) := by decide +kernel
theorem dJ6_bitCount_0f7a4_1 : decode cJ6_bitCount_0f7a4 1 = .ok (.iload_n 0, 1) := by decide +kernel
theorem dJ6_bitCount_0f7a4_2 : decode cJ6_bitCount_0f7a4 2 = .ok (.iconst 1, 1) := by decide +kernel
theorem dJ6_bitCount_0f7a4_3 : decode cJ6_bitCount_0f7a4 3 = .ok (.iushr, 1) := by decide +kernel
theorem dJ6_bitCount_0f7a4_4 : decode cJ6_bitCount_0f7a4 4 = .ok (.ldc_w 265, 3) := by decide +kernel
theorem dJ6_bitCount_0f7a4_7 : decode cJ6_bitCount_0f7a4 7 = .ok (.iand, 1) := by decide +kernel
theorem dJ6_bitCount_0f7a4_8 : decode cJ6_bitCount_0f7a4 8 = .ok (.isub, 1) := by decide +kernel
theorem dJ6_bitCount_0f7a4_9 : decode cJ6_bitCount_0f7a4 9 = .ok (.istore_n 0, 1) := by decide +kernel
theorem dJ6_bitCount_0f7a4_10 : decode cJ6_bitCount_0f7a4 10 = .ok (.iload_n 0, 1) := by decide +kernel
theorem dJ6_bitCount_0f7a4_11 : decode cJ6_bitCount_0f7a4 11 = .ok (.ldc_w 266, 3) := by decide +kernel
theorem dJ6_bitCount_0f7a4_14 : decode cJ6_bitCount_0f7a4 14 = .ok (.iand, 1) := by decide +kernel
theorem dJ6_bitCount_0f7a4_15 : decode cJ6_bitCount_0f7a4 15 = .ok (.iload_n 0, 1) := by decide +kernel
theorem dJ6_bitCount_0f7a4_16 : decode cJ6_bitCount_0f7a4 16 = .ok (.iconst 2, 1) := by decide +kernel
theorem dJ6_bitCount_0f7a4_17 : decode cJ6_bitCount_0f7a4 17 = .ok (.iushr, 1) := by decide +kernel
theorem dJ6_bitCount_0f7a4_18 : decode cJ6_bitCount_0f7a4 18 = .ok (.ldc_w 266, 3) := by decide +kernel
theorem dJ6_bitCount_0f7a4_21 : decode cJ6_bitCount_0f7a4 21 = .ok (.iand, 1) := by decide +kernel
theorem dJ6_bitCount_0f7a4_22 : decode cJ6_bitCount_0f7a4 22 = .ok (.iadd, 1) := by decide +kernel
theorem dJ6_bitCount_0f7a4_23 : decode cJ6_bitCount_0f7a4 23 = .ok (.istore_n 0, 1) := by decide +kernel
theorem dJ6_bitCount_0f7a4_24 : decode cJ6_bitCount_0f7a4 24 = .ok (.iload_n 0, 1) := by decide +kernel
theorem dJ6_bitCount_0f7a4_25 : decode cJ6_bitCount_0f7a4 25 = .ok (.iload_n 0, 1) := by decide +kernel
theorem dJ6_bitCount_0f7a4_26 : decode cJ6_bitCount_0f7a4 26 = .ok (.iconst 4, 1) := by decide +kernel
theorem dJ6_bitCount_0f7a4_27 : decode cJ6_bitCount_0f7a4 27 = .ok (.iushr, 1) := by decide +kernel
theorem dJ6_bitCount_0f7a4_28 : decode cJ6_bitCount_0f7a4 28 = .ok (.iadd, 1) := by decide +kernel
theorem dJ6_bitCount_0f7a4_29 : decode cJ6_bitCount_0f7a4 29 = .ok (.ldc_w 267, 3) := by decide +kernel
theorem dJ6_bitCount_0f7a4_32 : decode cJ6_bitCount_0f7a4 32 = .ok (.iand, 1) := by decide +kernel
theorem dJ6_bitCount_0f7a4_33 : decode cJ6_bitCount_0f7a4 33 = .ok (.istore_n 0, 1) := by decide +kernel
theorem dJ6_bitCount_0f7a4_34 : decode cJ6_bitCount_0f7a4 34 = .ok (.iload_n 0, 1) := by decide +kernel
theorem dJ6_bitCount_0f7a4_35 : decode cJ6_bitCount_0f7a4 35 = .ok (.iload_n 0, 1) := by decide +kernel
theorem dJ6_bitCount_0f7a4_36 : decode cJ6_bitCount_0f7a4 36 = .ok (.bipush 8, 2) := by decide +kernel
theorem dJ6_bitCount_0f7a4_38 : decode cJ6_bitCount_0f7a4 38 = .ok (.iushr, 1) := by decide +kernel
theorem dJ6_bitCount_0f7a4_39 : decode cJ6_bitCount_0f7a4 39 = .ok (.iadd, 1) := by decide +kernel
theorem dJ6_bitCount_0f7a4_40 : decode cJ6_bitCount_0f7a4 40 = .ok (.istore_n 0, 1) := by decide +kernel
theorem dJ6_bitCount_0f7a4_41 : decode cJ6_bitCount_0f7a4 41 = .ok (.iload_n 0, 1) := by decide +kernel
theorem dJ6_bitCount_0f7a4_42 : decode cJ6_bitCount_0f7a4 42 = .ok (.iload_n 0, 1) := by decide +kernel
theorem dJ6_bitCount_0f7a4_43 : decode cJ6_bitCount_0f7a4 43 = .ok (.bipush 16, 2) := by decide +kernel
theorem dJ6_bitCount_0f7a4_45 : decode cJ6_bitCount_0f7a4 45 = .ok (.iushr, 1) := by decide +kernel
theorem dJ6_bitCount_0f7a4_46 : decode cJ6_bitCount_0f7a4 46 = .ok (.iadd, 1) := by decide +kernel
theorem dJ6_bitCount_0f7a4_47 : decode cJ6_bitCount_0f7a4 47 = .ok (.istore_n 0, 1) := by decide +kernel
theorem dJ6_bitCount_0f7a4_48 : decode cJ6_bitCount_0f7a4 48 = .ok (.iload_n 0, 1) := by decide +kernel
theorem dJ6_bitCount_0f7a4_49 : decode cJ6_bitCount_0f7a4 49 = .ok (.bipush 63, 2) := by decide +kernel
theorem dJ6_bitCount_0f7a4_51 : decode cJ6_bitCount_0f7a4 51 = .ok (.iand, 1) := by decide +kernel
theorem dJ6_bitCount_0f7a4_52 : decode cJ6_bitCount_0f7a4 52 = .ok (.ireturn, 1) := by decide +kernel
theorem dJ9_min_7cf53_0 : decode cJ9_min_7cf53 0 = .ok (.iload_n 0, 1) := by decide +kernel
theorem dJ9_min_7cf53_1 : decode cJ9_min_7cf53 1 = .ok (.iload_n 1, 1) := by decide +kernel
theorem dJ9_min_7cf53_2 : decode cJ9_min_7cf53 2 = .ok (.if_icmp .gt 7, 3) := by decide +kernel
theorem dJ9_min_7cf53_5 : decode cJ9_min_7cf53 5 = .ok (.iload_n 0, 1) := by decide +kernel
theorem dJ9_min_7cf53_6 : decode cJ9_min_7cf53 6 = .ok (.goto 4, 3) := by decide +kernel
theorem dJ9_min_7cf53_9 : decode cJ9_min_7cf53 9 = .ok (.iload_n 1, 1) := by decide +kernel
theorem dJ9_min_7cf53_10 : decode cJ9_min_7cf53 10 = .ok (.ireturn, 1) := by decide +kernel
theorem dJ7_fill_53178_0 : decode cJ7_fill_53178 0 = .ok (.iconst 0, 1) := by decide +kernel
theorem dJ7_fill_53178_1 : decode cJ7_fill_53178 1 = .ok (.istore_n 2, 1) := by decide +kernel
theorem dJ7_fill_53178_2 : decode cJ7_fill_53178 2 = .ok (.aload_n 0, 1) := by decide +kernel
theorem dJ7_fill_53178_3 : decode cJ7_fill_53178 3 = .ok (.arraylength, 1) := by decide +kernel
theorem dJ7_fill_53178_4 : decode cJ7_fill_53178 4 = .ok (.istore_n 3, 1) := by decide +kernel
theorem dJ7_fill_53178_5 : decode cJ7_fill_53178 5 = .ok (.iload_n 2, 1) := by decide +kernel
theorem dJ7_fill_53178_6 : decode cJ7_fill_53178 6 = .ok (.iload_n 3, 1) := by decide +kernel
theorem dJ7_fill_53178_7 : decode cJ7_fill_53178 7 = .ok (.if_icmp .ge 13, 3) := by decide +kernel
theorem dJ7_fill_53178_10 : decode cJ7_fill_53178 10 = .ok (.aload_n 0, 1) := by decide +kernel
theorem dJ7_fill_53178_11 : decode cJ7_fill_53178 11 = .ok (.iload_n 2, 1) := by decide +kernel
theorem dJ7_fill_53178_12 : decode cJ7_fill_53178 12 = .ok (.iload_n 1, 1) := by decide +kernel
theorem dJ7_fill_53178_13 : decode cJ7_fill_53178 13 = .ok (.iastore, 1) := by decide +kernel
theorem dJ7_fill_53178_14 : decode cJ7_fill_53178 14 = .ok (.iinc 2 1, 3) := by decide +kernel
theorem dJ7_fill_53178_17 : decode cJ7_fill_53178 17 = .ok (.goto (-12), 3) := by decide +kernel
theorem dJ7_fill_53178_20 : decode cJ7_fill_53178 20 = .ok (.return_, 1) := by decide +kernel
theorem dL_law_0 : decode cL_law 0 = .ok (.new 7, 3) := by decide +kernel
theorem dL_law_3 : decode cL_law 3 = .ok (.dup, 1) := by decide +kernel
theorem dL_law_4 : decode cL_law 4 = .ok (.invokespecial 9, 3) := by decide +kernel
theorem dL_law_7 : decode cL_law 7 = .ok (.astore_n 1, 1) := by decide +kernel
theorem dL_law_8 : decode cL_law 8 = .ok (.new 10, 3) := by decide +kernel
theorem dL_law_11 : decode cL_law 11 = .ok (.dup, 1) := by decide +kernel
theorem dL_law_12 : decode cL_law 12 = .ok (.invokespecial 12, 3) := by decide +kernel
theorem dL_law_15 : decode cL_law 15 = .ok (.astore_n 2, 1) := by decide +kernel
theorem dL_law_16 : decode cL_law 16 = .ok (.iconst 0, 1) := by decide +kernel
theorem dL_law_17 : decode cL_law 17 = .ok (.istore_n 3, 1) := by decide +kernel
theorem dL_law_18 : decode cL_law 18 = .ok (.iload_n 3, 1) := by decide +kernel
theorem dL_law_19 : decode cL_law 19 = .ok (.aload_n 0, 1) := by decide +kernel
theorem dL_law_20 : decode cL_law 20 = .ok (.arraylength, 1) := by decide +kernel
theorem dL_law_21 : decode cL_law 21 = .ok (.iconst 5, 1) := by decide +kernel
theorem dL_law_22 : decode cL_law 22 = .ok (.isub, 1) := by decide +kernel
theorem dL_law_23 : decode cL_law 23 = .ok (.if_icmp .gt 819, 3) := by decide +kernel
theorem dL_law_26 : decode cL_law 26 = .ok (.aload_n 0, 1) := by decide +kernel
theorem dL_law_27 : decode cL_law 27 = .ok (.iload_n 3, 1) := by decide +kernel
theorem dL_law_28 : decode cL_law 28 = .ok (.iaload, 1) := by decide +kernel
theorem dL_law_29 : decode cL_law 29 = .ok (.bipush 31, 2) := by decide +kernel
theorem dL_law_31 : decode cL_law 31 = .ok (.iand, 1) := by decide +kernel
theorem dL_law_32 : decode cL_law 32 = .ok (.tableswitch 804 0 26 #[124, 157, 180, 229, 252, 265, 288, 311, 324, 337, 370, 403, 416, 429, 468, 517, 570, 603, 636, 649, 682, 695, 708, 741, 764, 777, 790], 124) := by decide +kernel
theorem dL_law_156 : decode cL_law 156 = .ok (.aload_n 1, 1) := by decide +kernel
theorem dL_law_157 : decode cL_law 157 = .ok (.aload_n 0, 1) := by decide +kernel
theorem dL_law_158 : decode cL_law 158 = .ok (.iload_n 3, 1) := by decide +kernel
theorem dL_law_159 : decode cL_law 159 = .ok (.iconst 1, 1) := by decide +kernel
theorem dL_law_160 : decode cL_law 160 = .ok (.iadd, 1) := by decide +kernel
theorem dL_law_161 : decode cL_law 161 = .ok (.iaload, 1) := by decide +kernel
theorem dL_law_162 : decode cL_law 162 = .ok (.aload_n 0, 1) := by decide +kernel
theorem dL_law_163 : decode cL_law 163 = .ok (.iload_n 3, 1) := by decide +kernel
theorem dL_law_164 : decode cL_law 164 = .ok (.iconst 2, 1) := by decide +kernel
theorem dL_law_165 : decode cL_law 165 = .ok (.iadd, 1) := by decide +kernel
theorem dL_law_166 : decode cL_law 166 = .ok (.iaload, 1) := by decide +kernel
theorem dL_law_167 : decode cL_law 167 = .ok (.invokevirtual 13, 3) := by decide +kernel
theorem dL_law_170 : decode cL_law 170 = .ok (.aload_n 2, 1) := by decide +kernel
theorem dL_law_171 : decode cL_law 171 = .ok (.aload_n 0, 1) := by decide +kernel
theorem dL_law_172 : decode cL_law 172 = .ok (.iload_n 3, 1) := by decide +kernel
theorem dL_law_173 : decode cL_law 173 = .ok (.iconst 1, 1) := by decide +kernel
theorem dL_law_174 : decode cL_law 174 = .ok (.iadd, 1) := by decide +kernel
theorem dL_law_175 : decode cL_law 175 = .ok (.iaload, 1) := by decide +kernel
theorem dL_law_176 : decode cL_law 176 = .ok (.aload_n 0, 1) := by decide +kernel
theorem dL_law_177 : decode cL_law 177 = .ok (.iload_n 3, 1) := by decide +kernel
theorem dL_law_178 : decode cL_law 178 = .ok (.iconst 2, 1) := by decide +kernel
theorem dL_law_179 : decode cL_law 179 = .ok (.iadd, 1) := by decide +kernel
theorem dL_law_180 : decode cL_law 180 = .ok (.iaload, 1) := by decide +kernel
theorem dL_law_181 : decode cL_law 181 = .ok (.invokevirtual 17, 3) := by decide +kernel
theorem dL_law_184 : decode cL_law 184 = .ok (.if_icmp .eq 652, 3) := by decide +kernel
theorem dL_law_187 : decode cL_law 187 = .ok (.iconst 0, 1) := by decide +kernel
theorem dL_law_188 : decode cL_law 188 = .ok (.ireturn, 1) := by decide +kernel
theorem dL_law_189 : decode cL_law 189 = .ok (.aload_n 1, 1) := by decide +kernel
theorem dL_law_190 : decode cL_law 190 = .ok (.aload_n 0, 1) := by decide +kernel
theorem dL_law_191 : decode cL_law 191 = .ok (.iload_n 3, 1) := by decide +kernel
theorem dL_law_192 : decode cL_law 192 = .ok (.iconst 1, 1) := by decide +kernel
theorem dL_law_193 : decode cL_law 193 = .ok (.iadd, 1) := by decide +kernel
theorem dL_law_194 : decode cL_law 194 = .ok (.iaload, 1) := by decide +kernel
theorem dL_law_195 : decode cL_law 195 = .ok (.invokevirtual 18, 3) := by decide +kernel
theorem dL_law_198 : decode cL_law 198 = .ok (.aload_n 2, 1) := by decide +kernel
theorem dL_law_199 : decode cL_law 199 = .ok (.aload_n 0, 1) := by decide +kernel
theorem dL_law_200 : decode cL_law 200 = .ok (.iload_n 3, 1) := by decide +kernel
theorem dL_law_201 : decode cL_law 201 = .ok (.iconst 1, 1) := by decide +kernel
theorem dL_law_202 : decode cL_law 202 = .ok (.iadd, 1) := by decide +kernel
theorem dL_law_203 : decode cL_law 203 = .ok (.iaload, 1) := by decide +kernel
theorem dL_law_204 : decode cL_law 204 = .ok (.invokevirtual 22, 3) := by decide +kernel
theorem dL_law_207 : decode cL_law 207 = .ok (.if_icmp .eq 629, 3) := by decide +kernel
theorem dL_law_210 : decode cL_law 210 = .ok (.iconst 0, 1) := by decide +kernel
theorem dL_law_211 : decode cL_law 211 = .ok (.ireturn, 1) := by decide +kernel
theorem dL_law_212 : decode cL_law 212 = .ok (.aload_n 1, 1) := by decide +kernel
theorem dL_law_213 : decode cL_law 213 = .ok (.aload_n 0, 1) := by decide +kernel
theorem dL_law_214 : decode cL_law 214 = .ok (.iload_n 3, 1) := by decide +kernel
theorem dL_law_215 : decode cL_law 215 = .ok (.iconst 1, 1) := by decide +kernel
theorem dL_law_216 : decode cL_law 216 = .ok (.iadd, 1) := by decide +kernel
theorem dL_law_217 : decode cL_law 217 = .ok (.iaload, 1) := by decide +kernel
theorem dL_law_218 : decode cL_law 218 = .ok (.aload_n 0, 1) := by decide +kernel
theorem dL_law_219 : decode cL_law 219 = .ok (.iload_n 3, 1) := by decide +kernel
theorem dL_law_220 : decode cL_law 220 = .ok (.iconst 2, 1) := by decide +kernel
theorem dL_law_221 : decode cL_law 221 = .ok (.iadd, 1) := by decide +kernel
theorem dL_law_222 : decode cL_law 222 = .ok (.iaload, 1) := by decide +kernel
theorem dL_law_223 : decode cL_law 223 = .ok (.ifCond .eq 7, 3) := by decide +kernel
theorem dL_law_226 : decode cL_law 226 = .ok (.iconst 1, 1) := by decide +kernel
theorem dL_law_227 : decode cL_law 227 = .ok (.goto 4, 3) := by decide +kernel
theorem dL_law_230 : decode cL_law 230 = .ok (.iconst 0, 1) := by decide +kernel
theorem dL_law_231 : decode cL_law 231 = .ok (.invokevirtual 23, 3) := by decide +kernel
theorem dL_law_234 : decode cL_law 234 = .ok (.aload_n 2, 1) := by decide +kernel
theorem dL_law_235 : decode cL_law 235 = .ok (.aload_n 0, 1) := by decide +kernel
theorem dL_law_236 : decode cL_law 236 = .ok (.iload_n 3, 1) := by decide +kernel
theorem dL_law_237 : decode cL_law 237 = .ok (.iconst 1, 1) := by decide +kernel
theorem dL_law_238 : decode cL_law 238 = .ok (.iadd, 1) := by decide +kernel
theorem dL_law_239 : decode cL_law 239 = .ok (.iaload, 1) := by decide +kernel
theorem dL_law_240 : decode cL_law 240 = .ok (.aload_n 0, 1) := by decide +kernel
theorem dL_law_241 : decode cL_law 241 = .ok (.iload_n 3, 1) := by decide +kernel
theorem dL_law_242 : decode cL_law 242 = .ok (.iconst 2, 1) := by decide +kernel
theorem dL_law_243 : decode cL_law 243 = .ok (.iadd, 1) := by decide +kernel
theorem dL_law_244 : decode cL_law 244 = .ok (.iaload, 1) := by decide +kernel
theorem dL_law_245 : decode cL_law 245 = .ok (.ifCond .eq 7, 3) := by decide +kernel
theorem dL_law_248 : decode cL_law 248 = .ok (.iconst 1, 1) := by decide +kernel
theorem dL_law_249 : decode cL_law 249 = .ok (.goto 4, 3) := by decide +kernel
theorem dL_law_252 : decode cL_law 252 = .ok (.iconst 0, 1) := by decide +kernel
theorem dL_law_253 : decode cL_law 253 = .ok (.invokevirtual 27, 3) := by decide +kernel
theorem dL_law_256 : decode cL_law 256 = .ok (.if_icmp .eq 580, 3) := by decide +kernel
theorem dL_law_259 : decode cL_law 259 = .ok (.iconst 0, 1) := by decide +kernel
theorem dL_law_260 : decode cL_law 260 = .ok (.ireturn, 1) := by decide +kernel
theorem dL_law_261 : decode cL_law 261 = .ok (.aload_n 1, 1) := by decide +kernel
theorem dL_law_262 : decode cL_law 262 = .ok (.aload_n 0, 1) := by decide +kernel
theorem dL_law_263 : decode cL_law 263 = .ok (.iload_n 3, 1) := by decide +kernel
theorem dL_law_264 : decode cL_law 264 = .ok (.iconst 1, 1) := by decide +kernel
theorem dL_law_265 : decode cL_law 265 = .ok (.iadd, 1) := by decide +kernel
theorem dL_law_266 : decode cL_law 266 = .ok (.iaload, 1) := by decide +kernel
theorem dL_law_267 : decode cL_law 267 = .ok (.invokevirtual 28, 3) := by decide +kernel
theorem dL_law_270 : decode cL_law 270 = .ok (.aload_n 2, 1) := by decide +kernel
theorem dL_law_271 : decode cL_law 271 = .ok (.aload_n 0, 1) := by decide +kernel
theorem dL_law_272 : decode cL_law 272 = .ok (.iload_n 3, 1) := by decide +kernel
theorem dL_law_273 : decode cL_law 273 = .ok (.iconst 1, 1) := by decide +kernel
theorem dL_law_274 : decode cL_law 274 = .ok (.iadd, 1) := by decide +kernel
theorem dL_law_275 : decode cL_law 275 = .ok (.iaload, 1) := by decide +kernel
theorem dL_law_276 : decode cL_law 276 = .ok (.invokevirtual 31, 3) := by decide +kernel
theorem dL_law_279 : decode cL_law 279 = .ok (.if_icmp .eq 557, 3) := by decide +kernel
theorem dL_law_282 : decode cL_law 282 = .ok (.iconst 0, 1) := by decide +kernel
theorem dL_law_283 : decode cL_law 283 = .ok (.ireturn, 1) := by decide +kernel
theorem dL_law_284 : decode cL_law 284 = .ok (.aload_n 1, 1) := by decide +kernel
theorem dL_law_285 : decode cL_law 285 = .ok (.invokevirtual 32, 3) := by decide +kernel
theorem dL_law_288 : decode cL_law 288 = .ok (.aload_n 2, 1) := by decide +kernel
theorem dL_law_289 : decode cL_law 289 = .ok (.invokevirtual 36, 3) := by decide +kernel
theorem dL_law_292 : decode cL_law 292 = .ok (.if_icmp .eq 544, 3) := by decide +kernel
theorem dL_law_295 : decode cL_law 295 = .ok (.iconst 0, 1) := by decide +kernel
theorem dL_law_296 : decode cL_law 296 = .ok (.ireturn, 1) := by decide +kernel
theorem dL_law_297 : decode cL_law 297 = .ok (.aload_n 1, 1) := by decide +kernel
theorem dL_law_298 : decode cL_law 298 = .ok (.aload_n 0, 1) := by decide +kernel
theorem dL_law_299 : decode cL_law 299 = .ok (.iload_n 3, 1) := by decide +kernel
theorem dL_law_300 : decode cL_law 300 = .ok (.iconst 1, 1) := by decide +kernel
theorem dL_law_301 : decode cL_law 301 = .ok (.iadd, 1) := by decide +kernel
theorem dL_law_302 : decode cL_law 302 = .ok (.iaload, 1) := by decide +kernel
theorem dL_law_303 : decode cL_law 303 = .ok (.invokevirtual 37, 3) := by decide +kernel
theorem dL_law_306 : decode cL_law 306 = .ok (.aload_n 2, 1) := by decide +kernel
theorem dL_law_307 : decode cL_law 307 = .ok (.aload_n 0, 1) := by decide +kernel
theorem dL_law_308 : decode cL_law 308 = .ok (.iload_n 3, 1) := by decide +kernel
theorem dL_law_309 : decode cL_law 309 = .ok (.iconst 1, 1) := by decide +kernel
theorem dL_law_310 : decode cL_law 310 = .ok (.iadd, 1) := by decide +kernel
theorem dL_law_311 : decode cL_law 311 = .ok (.iaload, 1) := by decide +kernel
theorem dL_law_312 : decode cL_law 312 = .ok (.invokevirtual 40, 3) := by decide +kernel
theorem dL_law_315 : decode cL_law 315 = .ok (.if_icmp .eq 521, 3) := by decide +kernel
theorem dL_law_318 : decode cL_law 318 = .ok (.iconst 0, 1) := by decide +kernel
theorem dL_law_319 : decode cL_law 319 = .ok (.ireturn, 1) := by decide +kernel
theorem dL_law_320 : decode cL_law 320 = .ok (.aload_n 1, 1) := by decide +kernel
theorem dL_law_321 : decode cL_law 321 = .ok (.aload_n 0, 1) := by decide +kernel
theorem dL_law_322 : decode cL_law 322 = .ok (.iload_n 3, 1) := by decide +kernel
theorem dL_law_323 : decode cL_law 323 = .ok (.iconst 1, 1) := by decide +kernel
theorem dL_law_324 : decode cL_law 324 = .ok (.iadd, 1) := by decide +kernel
theorem dL_law_325 : decode cL_law 325 = .ok (.iaload, 1) := by decide +kernel
theorem dL_law_326 : decode cL_law 326 = .ok (.invokevirtual 41, 3) := by decide +kernel
theorem dL_law_329 : decode cL_law 329 = .ok (.aload_n 2, 1) := by decide +kernel
theorem dL_law_330 : decode cL_law 330 = .ok (.aload_n 0, 1) := by decide +kernel
theorem dL_law_331 : decode cL_law 331 = .ok (.iload_n 3, 1) := by decide +kernel
theorem dL_law_332 : decode cL_law 332 = .ok (.iconst 1, 1) := by decide +kernel
theorem dL_law_333 : decode cL_law 333 = .ok (.iadd, 1) := by decide +kernel
theorem dL_law_334 : decode cL_law 334 = .ok (.iaload, 1) := by decide +kernel
theorem dL_law_335 : decode cL_law 335 = .ok (.invokevirtual 44, 3) := by decide +kernel
theorem dL_law_338 : decode cL_law 338 = .ok (.if_icmp .eq 498, 3) := by decide +kernel
theorem dL_law_341 : decode cL_law 341 = .ok (.iconst 0, 1) := by decide +kernel
theorem dL_law_342 : decode cL_law 342 = .ok (.ireturn, 1) := by decide +kernel
theorem dL_law_343 : decode cL_law 343 = .ok (.aload_n 1, 1) := by decide +kernel
theorem dL_law_344 : decode cL_law 344 = .ok (.invokevirtual 45, 3) := by decide +kernel
theorem dL_law_347 : decode cL_law 347 = .ok (.aload_n 2, 1) := by decide +kernel
theorem dL_law_348 : decode cL_law 348 = .ok (.invokevirtual 48, 3) := by decide +kernel
theorem dL_law_351 : decode cL_law 351 = .ok (.if_icmp .eq 485, 3) := by decide +kernel
theorem dL_law_354 : decode cL_law 354 = .ok (.iconst 0, 1) := by decide +kernel
theorem dL_law_355 : decode cL_law 355 = .ok (.ireturn, 1) := by decide +kernel
theorem dL_law_356 : decode cL_law 356 = .ok (.aload_n 1, 1) := by decide +kernel
theorem dL_law_357 : decode cL_law 357 = .ok (.invokevirtual 49, 3) := by decide +kernel
theorem dL_law_360 : decode cL_law 360 = .ok (.aload_n 2, 1) := by decide +kernel
theorem dL_law_361 : decode cL_law 361 = .ok (.invokevirtual 52, 3) := by decide +kernel
theorem dL_law_364 : decode cL_law 364 = .ok (.if_icmp .eq 472, 3) := by decide +kernel
theorem dL_law_367 : decode cL_law 367 = .ok (.iconst 0, 1) := by decide +kernel
theorem dL_law_368 : decode cL_law 368 = .ok (.ireturn, 1) := by decide +kernel
theorem dL_law_369 : decode cL_law 369 = .ok (.aload_n 1, 1) := by decide +kernel
theorem dL_law_370 : decode cL_law 370 = .ok (.aload_n 0, 1) := by decide +kernel
theorem dL_law_371 : decode cL_law 371 = .ok (.iload_n 3, 1) := by decide +kernel
theorem dL_law_372 : decode cL_law 372 = .ok (.iconst 1, 1) := by decide +kernel
theorem dL_law_373 : decode cL_law 373 = .ok (.iadd, 1) := by decide +kernel
theorem dL_law_374 : decode cL_law 374 = .ok (.iaload, 1) := by decide +kernel
theorem dL_law_375 : decode cL_law 375 = .ok (.aload_n 0, 1) := by decide +kernel
theorem dL_law_376 : decode cL_law 376 = .ok (.iload_n 3, 1) := by decide +kernel
theorem dL_law_377 : decode cL_law 377 = .ok (.iconst 2, 1) := by decide +kernel
theorem dL_law_378 : decode cL_law 378 = .ok (.iadd, 1) := by decide +kernel
theorem dL_law_379 : decode cL_law 379 = .ok (.iaload, 1) := by decide +kernel
theorem dL_law_380 : decode cL_law 380 = .ok (.invokevirtual 53, 3) := by decide +kernel
theorem dL_law_383 : decode cL_law 383 = .ok (.aload_n 2, 1) := by decide +kernel
theorem dL_law_384 : decode cL_law 384 = .ok (.aload_n 0, 1) := by decide +kernel
theorem dL_law_385 : decode cL_law 385 = .ok (.iload_n 3, 1) := by decide +kernel
theorem dL_law_386 : decode cL_law 386 = .ok (.iconst 1, 1) := by decide +kernel
theorem dL_law_387 : decode cL_law 387 = .ok (.iadd, 1) := by decide +kernel
theorem dL_law_388 : decode cL_law 388 = .ok (.iaload, 1) := by decide +kernel
theorem dL_law_389 : decode cL_law 389 = .ok (.aload_n 0, 1) := by decide +kernel
theorem dL_law_390 : decode cL_law 390 = .ok (.iload_n 3, 1) := by decide +kernel
theorem dL_law_391 : decode cL_law 391 = .ok (.iconst 2, 1) := by decide +kernel
theorem dL_law_392 : decode cL_law 392 = .ok (.iadd, 1) := by decide +kernel
theorem dL_law_393 : decode cL_law 393 = .ok (.iaload, 1) := by decide +kernel
theorem dL_law_394 : decode cL_law 394 = .ok (.invokevirtual 56, 3) := by decide +kernel
theorem dL_law_397 : decode cL_law 397 = .ok (.if_icmp .eq 439, 3) := by decide +kernel
theorem dL_law_400 : decode cL_law 400 = .ok (.iconst 0, 1) := by decide +kernel
theorem dL_law_401 : decode cL_law 401 = .ok (.ireturn, 1) := by decide +kernel
theorem dL_law_402 : decode cL_law 402 = .ok (.aload_n 1, 1) := by decide +kernel
theorem dL_law_403 : decode cL_law 403 = .ok (.aload_n 0, 1) := by decide +kernel
theorem dL_law_404 : decode cL_law 404 = .ok (.iload_n 3, 1) := by decide +kernel
theorem dL_law_405 : decode cL_law 405 = .ok (.iconst 1, 1) := by decide +kernel
theorem dL_law_406 : decode cL_law 406 = .ok (.iadd, 1) := by decide +kernel
theorem dL_law_407 : decode cL_law 407 = .ok (.iaload, 1) := by decide +kernel
theorem dL_law_408 : decode cL_law 408 = .ok (.aload_n 0, 1) := by decide +kernel
theorem dL_law_409 : decode cL_law 409 = .ok (.iload_n 3, 1) := by decide +kernel
theorem dL_law_410 : decode cL_law 410 = .ok (.iconst 2, 1) := by decide +kernel
theorem dL_law_411 : decode cL_law 411 = .ok (.iadd, 1) := by decide +kernel
theorem dL_law_412 : decode cL_law 412 = .ok (.iaload, 1) := by decide +kernel
theorem dL_law_413 : decode cL_law 413 = .ok (.invokevirtual 57, 3) := by decide +kernel
theorem dL_law_416 : decode cL_law 416 = .ok (.aload_n 2, 1) := by decide +kernel
theorem dL_law_417 : decode cL_law 417 = .ok (.aload_n 0, 1) := by decide +kernel
theorem dL_law_418 : decode cL_law 418 = .ok (.iload_n 3, 1) := by decide +kernel
theorem dL_law_419 : decode cL_law 419 = .ok (.iconst 1, 1) := by decide +kernel
theorem dL_law_420 : decode cL_law 420 = .ok (.iadd, 1) := by decide +kernel
theorem dL_law_421 : decode cL_law 421 = .ok (.iaload, 1) := by decide +kernel
theorem dL_law_422 : decode cL_law 422 = .ok (.aload_n 0, 1) := by decide +kernel
theorem dL_law_423 : decode cL_law 423 = .ok (.iload_n 3, 1) := by decide +kernel
theorem dL_law_424 : decode cL_law 424 = .ok (.iconst 2, 1) := by decide +kernel
theorem dL_law_425 : decode cL_law 425 = .ok (.iadd, 1) := by decide +kernel
theorem dL_law_426 : decode cL_law 426 = .ok (.iaload, 1) := by decide +kernel
theorem dL_law_427 : decode cL_law 427 = .ok (.invokevirtual 60, 3) := by decide +kernel
theorem dL_law_430 : decode cL_law 430 = .ok (.if_icmp .eq 406, 3) := by decide +kernel
theorem dL_law_433 : decode cL_law 433 = .ok (.iconst 0, 1) := by decide +kernel
theorem dL_law_434 : decode cL_law 434 = .ok (.ireturn, 1) := by decide +kernel
theorem dL_law_435 : decode cL_law 435 = .ok (.aload_n 1, 1) := by decide +kernel
theorem dL_law_436 : decode cL_law 436 = .ok (.invokevirtual 61, 3) := by decide +kernel
theorem dL_law_439 : decode cL_law 439 = .ok (.aload_n 2, 1) := by decide +kernel
theorem dL_law_440 : decode cL_law 440 = .ok (.invokevirtual 64, 3) := by decide +kernel
theorem dL_law_443 : decode cL_law 443 = .ok (.if_icmp .eq 393, 3) := by decide +kernel
theorem dL_law_446 : decode cL_law 446 = .ok (.iconst 0, 1) := by decide +kernel
theorem dL_law_447 : decode cL_law 447 = .ok (.ireturn, 1) := by decide +kernel
theorem dL_law_448 : decode cL_law 448 = .ok (.aload_n 1, 1) := by decide +kernel
theorem dL_law_449 : decode cL_law 449 = .ok (.invokevirtual 65, 3) := by decide +kernel
theorem dL_law_452 : decode cL_law 452 = .ok (.aload_n 2, 1) := by decide +kernel
theorem dL_law_453 : decode cL_law 453 = .ok (.invokevirtual 68, 3) := by decide +kernel
theorem dL_law_456 : decode cL_law 456 = .ok (.if_icmp .eq 380, 3) := by decide +kernel
theorem dL_law_459 : decode cL_law 459 = .ok (.iconst 0, 1) := by decide +kernel
theorem dL_law_460 : decode cL_law 460 = .ok (.ireturn, 1) := by decide +kernel
theorem dL_law_461 : decode cL_law 461 = .ok (.aload_n 1, 1) := by decide +kernel
theorem dL_law_462 : decode cL_law 462 = .ok (.aload_n 0, 1) := by decide +kernel
theorem dL_law_463 : decode cL_law 463 = .ok (.iload_n 3, 1) := by decide +kernel
theorem dL_law_464 : decode cL_law 464 = .ok (.iconst 1, 1) := by decide +kernel
theorem dL_law_465 : decode cL_law 465 = .ok (.iadd, 1) := by decide +kernel
theorem dL_law_466 : decode cL_law 466 = .ok (.iaload, 1) := by decide +kernel
theorem dL_law_467 : decode cL_law 467 = .ok (.ifCond .eq 7, 3) := by decide +kernel
theorem dL_law_470 : decode cL_law 470 = .ok (.iconst 1, 1) := by decide +kernel
theorem dL_law_471 : decode cL_law 471 = .ok (.goto 4, 3) := by decide +kernel
theorem dL_law_474 : decode cL_law 474 = .ok (.iconst 0, 1) := by decide +kernel
theorem dL_law_475 : decode cL_law 475 = .ok (.invokevirtual 69, 3) := by decide +kernel
theorem dL_law_478 : decode cL_law 478 = .ok (.aload_n 2, 1) := by decide +kernel
theorem dL_law_479 : decode cL_law 479 = .ok (.aload_n 0, 1) := by decide +kernel
theorem dL_law_480 : decode cL_law 480 = .ok (.iload_n 3, 1) := by decide +kernel
theorem dL_law_481 : decode cL_law 481 = .ok (.iconst 1, 1) := by decide +kernel
theorem dL_law_482 : decode cL_law 482 = .ok (.iadd, 1) := by decide +kernel
theorem dL_law_483 : decode cL_law 483 = .ok (.iaload, 1) := by decide +kernel
theorem dL_law_484 : decode cL_law 484 = .ok (.ifCond .eq 7, 3) := by decide +kernel
theorem dL_law_487 : decode cL_law 487 = .ok (.iconst 1, 1) := by decide +kernel
theorem dL_law_488 : decode cL_law 488 = .ok (.goto 4, 3) := by decide +kernel
theorem dL_law_491 : decode cL_law 491 = .ok (.iconst 0, 1) := by decide +kernel
theorem dL_law_492 : decode cL_law 492 = .ok (.invokevirtual 73, 3) := by decide +kernel
theorem dL_law_495 : decode cL_law 495 = .ok (.if_icmp .eq 341, 3) := by decide +kernel
theorem dL_law_498 : decode cL_law 498 = .ok (.iconst 0, 1) := by decide +kernel
theorem dL_law_499 : decode cL_law 499 = .ok (.ireturn, 1) := by decide +kernel
theorem dL_law_500 : decode cL_law 500 = .ok (.aload_n 1, 1) := by decide +kernel
theorem dL_law_501 : decode cL_law 501 = .ok (.aload_n 0, 1) := by decide +kernel
theorem dL_law_502 : decode cL_law 502 = .ok (.iload_n 3, 1) := by decide +kernel
theorem dL_law_503 : decode cL_law 503 = .ok (.iconst 1, 1) := by decide +kernel
theorem dL_law_504 : decode cL_law 504 = .ok (.iadd, 1) := by decide +kernel
theorem dL_law_505 : decode cL_law 505 = .ok (.iaload, 1) := by decide +kernel
theorem dL_law_506 : decode cL_law 506 = .ok (.aload_n 0, 1) := by decide +kernel
theorem dL_law_507 : decode cL_law 507 = .ok (.iload_n 3, 1) := by decide +kernel
theorem dL_law_508 : decode cL_law 508 = .ok (.iconst 2, 1) := by decide +kernel
theorem dL_law_509 : decode cL_law 509 = .ok (.iadd, 1) := by decide +kernel
theorem dL_law_510 : decode cL_law 510 = .ok (.iaload, 1) := by decide +kernel
theorem dL_law_511 : decode cL_law 511 = .ok (.ifCond .eq 7, 3) := by decide +kernel
theorem dL_law_514 : decode cL_law 514 = .ok (.iconst 1, 1) := by decide +kernel
theorem dL_law_515 : decode cL_law 515 = .ok (.goto 4, 3) := by decide +kernel
theorem dL_law_518 : decode cL_law 518 = .ok (.iconst 0, 1) := by decide +kernel
theorem dL_law_519 : decode cL_law 519 = .ok (.invokevirtual 74, 3) := by decide +kernel
theorem dL_law_522 : decode cL_law 522 = .ok (.aload_n 2, 1) := by decide +kernel
theorem dL_law_523 : decode cL_law 523 = .ok (.aload_n 0, 1) := by decide +kernel
theorem dL_law_524 : decode cL_law 524 = .ok (.iload_n 3, 1) := by decide +kernel
theorem dL_law_525 : decode cL_law 525 = .ok (.iconst 1, 1) := by decide +kernel
theorem dL_law_526 : decode cL_law 526 = .ok (.iadd, 1) := by decide +kernel
theorem dL_law_527 : decode cL_law 527 = .ok (.iaload, 1) := by decide +kernel
theorem dL_law_528 : decode cL_law 528 = .ok (.aload_n 0, 1) := by decide +kernel
theorem dL_law_529 : decode cL_law 529 = .ok (.iload_n 3, 1) := by decide +kernel
theorem dL_law_530 : decode cL_law 530 = .ok (.iconst 2, 1) := by decide +kernel
theorem dL_law_531 : decode cL_law 531 = .ok (.iadd, 1) := by decide +kernel
theorem dL_law_532 : decode cL_law 532 = .ok (.iaload, 1) := by decide +kernel
theorem dL_law_533 : decode cL_law 533 = .ok (.ifCond .eq 7, 3) := by decide +kernel
theorem dL_law_536 : decode cL_law 536 = .ok (.iconst 1, 1) := by decide +kernel
theorem dL_law_537 : decode cL_law 537 = .ok (.goto 4, 3) := by decide +kernel
theorem dL_law_540 : decode cL_law 540 = .ok (.iconst 0, 1) := by decide +kernel
theorem dL_law_541 : decode cL_law 541 = .ok (.invokevirtual 77, 3) := by decide +kernel
theorem dL_law_544 : decode cL_law 544 = .ok (.if_icmp .eq 292, 3) := by decide +kernel
theorem dL_law_547 : decode cL_law 547 = .ok (.iconst 0, 1) := by decide +kernel
theorem dL_law_548 : decode cL_law 548 = .ok (.ireturn, 1) := by decide +kernel
theorem dL_law_549 : decode cL_law 549 = .ok (.aload_n 1, 1) := by decide +kernel
theorem dL_law_550 : decode cL_law 550 = .ok (.aload_n 0, 1) := by decide +kernel
theorem dL_law_551 : decode cL_law 551 = .ok (.iload_n 3, 1) := by decide +kernel
theorem dL_law_552 : decode cL_law 552 = .ok (.iconst 1, 1) := by decide +kernel
theorem dL_law_553 : decode cL_law 553 = .ok (.iadd, 1) := by decide +kernel
theorem dL_law_554 : decode cL_law 554 = .ok (.iaload, 1) := by decide +kernel
theorem dL_law_555 : decode cL_law 555 = .ok (.aload_n 0, 1) := by decide +kernel
theorem dL_law_556 : decode cL_law 556 = .ok (.iload_n 3, 1) := by decide +kernel
theorem dL_law_557 : decode cL_law 557 = .ok (.iconst 2, 1) := by decide +kernel
theorem dL_law_558 : decode cL_law 558 = .ok (.iadd, 1) := by decide +kernel
theorem dL_law_559 : decode cL_law 559 = .ok (.iaload, 1) := by decide +kernel
theorem dL_law_560 : decode cL_law 560 = .ok (.aload_n 0, 1) := by decide +kernel
theorem dL_law_561 : decode cL_law 561 = .ok (.iload_n 3, 1) := by decide +kernel
theorem dL_law_562 : decode cL_law 562 = .ok (.iconst 3, 1) := by decide +kernel
theorem dL_law_563 : decode cL_law 563 = .ok (.iadd, 1) := by decide +kernel
theorem dL_law_564 : decode cL_law 564 = .ok (.iaload, 1) := by decide +kernel
theorem dL_law_565 : decode cL_law 565 = .ok (.aload_n 0, 1) := by decide +kernel
theorem dL_law_566 : decode cL_law 566 = .ok (.iload_n 3, 1) := by decide +kernel
theorem dL_law_567 : decode cL_law 567 = .ok (.iconst 4, 1) := by decide +kernel
theorem dL_law_568 : decode cL_law 568 = .ok (.iadd, 1) := by decide +kernel
theorem dL_law_569 : decode cL_law 569 = .ok (.iaload, 1) := by decide +kernel
theorem dL_law_570 : decode cL_law 570 = .ok (.invokevirtual 78, 3) := by decide +kernel
theorem dL_law_573 : decode cL_law 573 = .ok (.aload_n 2, 1) := by decide +kernel
theorem dL_law_574 : decode cL_law 574 = .ok (.aload_n 0, 1) := by decide +kernel
theorem dL_law_575 : decode cL_law 575 = .ok (.iload_n 3, 1) := by decide +kernel
theorem dL_law_576 : decode cL_law 576 = .ok (.iconst 1, 1) := by decide +kernel
theorem dL_law_577 : decode cL_law 577 = .ok (.iadd, 1) := by decide +kernel
theorem dL_law_578 : decode cL_law 578 = .ok (.iaload, 1) := by decide +kernel
theorem dL_law_579 : decode cL_law 579 = .ok (.aload_n 0, 1) := by decide +kernel
theorem dL_law_580 : decode cL_law 580 = .ok (.iload_n 3, 1) := by decide +kernel
theorem dL_law_581 : decode cL_law 581 = .ok (.iconst 2, 1) := by decide +kernel
theorem dL_law_582 : decode cL_law 582 = .ok (.iadd, 1) := by decide +kernel
theorem dL_law_583 : decode cL_law 583 = .ok (.iaload, 1) := by decide +kernel
theorem dL_law_584 : decode cL_law 584 = .ok (.aload_n 0, 1) := by decide +kernel
theorem dL_law_585 : decode cL_law 585 = .ok (.iload_n 3, 1) := by decide +kernel
theorem dL_law_586 : decode cL_law 586 = .ok (.iconst 3, 1) := by decide +kernel
theorem dL_law_587 : decode cL_law 587 = .ok (.iadd, 1) := by decide +kernel
theorem dL_law_588 : decode cL_law 588 = .ok (.iaload, 1) := by decide +kernel
theorem dL_law_589 : decode cL_law 589 = .ok (.aload_n 0, 1) := by decide +kernel
theorem dL_law_590 : decode cL_law 590 = .ok (.iload_n 3, 1) := by decide +kernel
theorem dL_law_591 : decode cL_law 591 = .ok (.iconst 4, 1) := by decide +kernel
theorem dL_law_592 : decode cL_law 592 = .ok (.iadd, 1) := by decide +kernel
theorem dL_law_593 : decode cL_law 593 = .ok (.iaload, 1) := by decide +kernel
theorem dL_law_594 : decode cL_law 594 = .ok (.invokevirtual 82, 3) := by decide +kernel
theorem dL_law_597 : decode cL_law 597 = .ok (.if_icmp .eq 239, 3) := by decide +kernel
theorem dL_law_600 : decode cL_law 600 = .ok (.iconst 0, 1) := by decide +kernel
theorem dL_law_601 : decode cL_law 601 = .ok (.ireturn, 1) := by decide +kernel
theorem dL_law_602 : decode cL_law 602 = .ok (.aload_n 1, 1) := by decide +kernel
theorem dL_law_603 : decode cL_law 603 = .ok (.aload_n 0, 1) := by decide +kernel
theorem dL_law_604 : decode cL_law 604 = .ok (.iload_n 3, 1) := by decide +kernel
theorem dL_law_605 : decode cL_law 605 = .ok (.iconst 1, 1) := by decide +kernel
theorem dL_law_606 : decode cL_law 606 = .ok (.iadd, 1) := by decide +kernel
theorem dL_law_607 : decode cL_law 607 = .ok (.iaload, 1) := by decide +kernel
theorem dL_law_608 : decode cL_law 608 = .ok (.aload_n 0, 1) := by decide +kernel
theorem dL_law_609 : decode cL_law 609 = .ok (.iload_n 3, 1) := by decide +kernel
theorem dL_law_610 : decode cL_law 610 = .ok (.iconst 2, 1) := by decide +kernel
theorem dL_law_611 : decode cL_law 611 = .ok (.iadd, 1) := by decide +kernel
theorem dL_law_612 : decode cL_law 612 = .ok (.iaload, 1) := by decide +kernel
theorem dL_law_613 : decode cL_law 613 = .ok (.invokevirtual 83, 3) := by decide +kernel
theorem dL_law_616 : decode cL_law 616 = .ok (.aload_n 2, 1) := by decide +kernel
theorem dL_law_617 : decode cL_law 617 = .ok (.aload_n 0, 1) := by decide +kernel
theorem dL_law_618 : decode cL_law 618 = .ok (.iload_n 3, 1) := by decide +kernel
theorem dL_law_619 : decode cL_law 619 = .ok (.iconst 1, 1) := by decide +kernel
theorem dL_law_620 : decode cL_law 620 = .ok (.iadd, 1) := by decide +kernel
theorem dL_law_621 : decode cL_law 621 = .ok (.iaload, 1) := by decide +kernel
theorem dL_law_622 : decode cL_law 622 = .ok (.aload_n 0, 1) := by decide +kernel
theorem dL_law_623 : decode cL_law 623 = .ok (.iload_n 3, 1) := by decide +kernel
theorem dL_law_624 : decode cL_law 624 = .ok (.iconst 2, 1) := by decide +kernel
theorem dL_law_625 : decode cL_law 625 = .ok (.iadd, 1) := by decide +kernel
theorem dL_law_626 : decode cL_law 626 = .ok (.iaload, 1) := by decide +kernel
theorem dL_law_627 : decode cL_law 627 = .ok (.invokevirtual 86, 3) := by decide +kernel
theorem dL_law_630 : decode cL_law 630 = .ok (.if_icmp .eq 206, 3) := by decide +kernel
theorem dL_law_633 : decode cL_law 633 = .ok (.iconst 0, 1) := by decide +kernel
theorem dL_law_634 : decode cL_law 634 = .ok (.ireturn, 1) := by decide +kernel
theorem dL_law_635 : decode cL_law 635 = .ok (.aload_n 1, 1) := by decide +kernel
theorem dL_law_636 : decode cL_law 636 = .ok (.aload_n 0, 1) := by decide +kernel
theorem dL_law_637 : decode cL_law 637 = .ok (.iload_n 3, 1) := by decide +kernel
theorem dL_law_638 : decode cL_law 638 = .ok (.iconst 1, 1) := by decide +kernel
theorem dL_law_639 : decode cL_law 639 = .ok (.iadd, 1) := by decide +kernel
theorem dL_law_640 : decode cL_law 640 = .ok (.iaload, 1) := by decide +kernel
theorem dL_law_641 : decode cL_law 641 = .ok (.aload_n 0, 1) := by decide +kernel
theorem dL_law_642 : decode cL_law 642 = .ok (.iload_n 3, 1) := by decide +kernel
theorem dL_law_643 : decode cL_law 643 = .ok (.iconst 2, 1) := by decide +kernel
theorem dL_law_644 : decode cL_law 644 = .ok (.iadd, 1) := by decide +kernel
theorem dL_law_645 : decode cL_law 645 = .ok (.iaload, 1) := by decide +kernel
theorem dL_law_646 : decode cL_law 646 = .ok (.invokevirtual 87, 3) := by decide +kernel
theorem dL_law_649 : decode cL_law 649 = .ok (.aload_n 2, 1) := by decide +kernel
theorem dL_law_650 : decode cL_law 650 = .ok (.aload_n 0, 1) := by decide +kernel
theorem dL_law_651 : decode cL_law 651 = .ok (.iload_n 3, 1) := by decide +kernel
theorem dL_law_652 : decode cL_law 652 = .ok (.iconst 1, 1) := by decide +kernel
theorem dL_law_653 : decode cL_law 653 = .ok (.iadd, 1) := by decide +kernel
theorem dL_law_654 : decode cL_law 654 = .ok (.iaload, 1) := by decide +kernel
theorem dL_law_655 : decode cL_law 655 = .ok (.aload_n 0, 1) := by decide +kernel
theorem dL_law_656 : decode cL_law 656 = .ok (.iload_n 3, 1) := by decide +kernel
theorem dL_law_657 : decode cL_law 657 = .ok (.iconst 2, 1) := by decide +kernel
theorem dL_law_658 : decode cL_law 658 = .ok (.iadd, 1) := by decide +kernel
theorem dL_law_659 : decode cL_law 659 = .ok (.iaload, 1) := by decide +kernel
theorem dL_law_660 : decode cL_law 660 = .ok (.invokevirtual 90, 3) := by decide +kernel
theorem dL_law_663 : decode cL_law 663 = .ok (.if_icmp .eq 173, 3) := by decide +kernel
theorem dL_law_666 : decode cL_law 666 = .ok (.iconst 0, 1) := by decide +kernel
theorem dL_law_667 : decode cL_law 667 = .ok (.ireturn, 1) := by decide +kernel
theorem dL_law_668 : decode cL_law 668 = .ok (.aload_n 1, 1) := by decide +kernel
theorem dL_law_669 : decode cL_law 669 = .ok (.invokevirtual 91, 3) := by decide +kernel
theorem dL_law_672 : decode cL_law 672 = .ok (.aload_n 2, 1) := by decide +kernel
theorem dL_law_673 : decode cL_law 673 = .ok (.invokevirtual 94, 3) := by decide +kernel
theorem dL_law_676 : decode cL_law 676 = .ok (.if_icmp .eq 160, 3) := by decide +kernel
theorem dL_law_679 : decode cL_law 679 = .ok (.iconst 0, 1) := by decide +kernel
theorem dL_law_680 : decode cL_law 680 = .ok (.ireturn, 1) := by decide +kernel
theorem dL_law_681 : decode cL_law 681 = .ok (.aload_n 1, 1) := by decide +kernel
theorem dL_law_682 : decode cL_law 682 = .ok (.aload_n 0, 1) := by decide +kernel
theorem dL_law_683 : decode cL_law 683 = .ok (.iload_n 3, 1) := by decide +kernel
theorem dL_law_684 : decode cL_law 684 = .ok (.iconst 1, 1) := by decide +kernel
theorem dL_law_685 : decode cL_law 685 = .ok (.iadd, 1) := by decide +kernel
theorem dL_law_686 : decode cL_law 686 = .ok (.iaload, 1) := by decide +kernel
theorem dL_law_687 : decode cL_law 687 = .ok (.aload_n 0, 1) := by decide +kernel
theorem dL_law_688 : decode cL_law 688 = .ok (.iload_n 3, 1) := by decide +kernel
theorem dL_law_689 : decode cL_law 689 = .ok (.iconst 2, 1) := by decide +kernel
theorem dL_law_690 : decode cL_law 690 = .ok (.iadd, 1) := by decide +kernel
theorem dL_law_691 : decode cL_law 691 = .ok (.iaload, 1) := by decide +kernel
theorem dL_law_692 : decode cL_law 692 = .ok (.invokevirtual 95, 3) := by decide +kernel
theorem dL_law_695 : decode cL_law 695 = .ok (.aload_n 2, 1) := by decide +kernel
theorem dL_law_696 : decode cL_law 696 = .ok (.aload_n 0, 1) := by decide +kernel
theorem dL_law_697 : decode cL_law 697 = .ok (.iload_n 3, 1) := by decide +kernel
theorem dL_law_698 : decode cL_law 698 = .ok (.iconst 1, 1) := by decide +kernel
theorem dL_law_699 : decode cL_law 699 = .ok (.iadd, 1) := by decide +kernel
theorem dL_law_700 : decode cL_law 700 = .ok (.iaload, 1) := by decide +kernel
theorem dL_law_701 : decode cL_law 701 = .ok (.aload_n 0, 1) := by decide +kernel
theorem dL_law_702 : decode cL_law 702 = .ok (.iload_n 3, 1) := by decide +kernel
theorem dL_law_703 : decode cL_law 703 = .ok (.iconst 2, 1) := by decide +kernel
theorem dL_law_704 : decode cL_law 704 = .ok (.iadd, 1) := by decide +kernel
theorem dL_law_705 : decode cL_law 705 = .ok (.iaload, 1) := by decide +kernel
theorem dL_law_706 : decode cL_law 706 = .ok (.invokevirtual 98, 3) := by decide +kernel
theorem dL_law_709 : decode cL_law 709 = .ok (.if_icmp .eq 127, 3) := by decide +kernel
theorem dL_law_712 : decode cL_law 712 = .ok (.iconst 0, 1) := by decide +kernel
theorem dL_law_713 : decode cL_law 713 = .ok (.ireturn, 1) := by decide +kernel
theorem dL_law_714 : decode cL_law 714 = .ok (.aload_n 1, 1) := by decide +kernel
theorem dL_law_715 : decode cL_law 715 = .ok (.invokevirtual 99, 3) := by decide +kernel
theorem dL_law_718 : decode cL_law 718 = .ok (.aload_n 2, 1) := by decide +kernel
theorem dL_law_719 : decode cL_law 719 = .ok (.invokevirtual 102, 3) := by decide +kernel
theorem dL_law_722 : decode cL_law 722 = .ok (.if_icmp .eq 114, 3) := by decide +kernel
theorem dL_law_725 : decode cL_law 725 = .ok (.iconst 0, 1) := by decide +kernel
theorem dL_law_726 : decode cL_law 726 = .ok (.ireturn, 1) := by decide +kernel
theorem dL_law_727 : decode cL_law 727 = .ok (.aload_n 1, 1) := by decide +kernel
theorem dL_law_728 : decode cL_law 728 = .ok (.invokevirtual 103, 3) := by decide +kernel
theorem dL_law_731 : decode cL_law 731 = .ok (.aload_n 2, 1) := by decide +kernel
theorem dL_law_732 : decode cL_law 732 = .ok (.invokevirtual 106, 3) := by decide +kernel
theorem dL_law_735 : decode cL_law 735 = .ok (.if_icmp .eq 101, 3) := by decide +kernel
theorem dL_law_738 : decode cL_law 738 = .ok (.iconst 0, 1) := by decide +kernel
theorem dL_law_739 : decode cL_law 739 = .ok (.ireturn, 1) := by decide +kernel
theorem dL_law_740 : decode cL_law 740 = .ok (.aload_n 1, 1) := by decide +kernel
theorem dL_law_741 : decode cL_law 741 = .ok (.aload_n 0, 1) := by decide +kernel
theorem dL_law_742 : decode cL_law 742 = .ok (.iload_n 3, 1) := by decide +kernel
theorem dL_law_743 : decode cL_law 743 = .ok (.iconst 1, 1) := by decide +kernel
theorem dL_law_744 : decode cL_law 744 = .ok (.iadd, 1) := by decide +kernel
theorem dL_law_745 : decode cL_law 745 = .ok (.iaload, 1) := by decide +kernel
theorem dL_law_746 : decode cL_law 746 = .ok (.aload_n 0, 1) := by decide +kernel
theorem dL_law_747 : decode cL_law 747 = .ok (.iload_n 3, 1) := by decide +kernel
theorem dL_law_748 : decode cL_law 748 = .ok (.iconst 2, 1) := by decide +kernel
theorem dL_law_749 : decode cL_law 749 = .ok (.iadd, 1) := by decide +kernel
theorem dL_law_750 : decode cL_law 750 = .ok (.iaload, 1) := by decide +kernel
theorem dL_law_751 : decode cL_law 751 = .ok (.invokevirtual 107, 3) := by decide +kernel
theorem dL_law_754 : decode cL_law 754 = .ok (.aload_n 2, 1) := by decide +kernel
theorem dL_law_755 : decode cL_law 755 = .ok (.aload_n 0, 1) := by decide +kernel
theorem dL_law_756 : decode cL_law 756 = .ok (.iload_n 3, 1) := by decide +kernel
theorem dL_law_757 : decode cL_law 757 = .ok (.iconst 1, 1) := by decide +kernel
theorem dL_law_758 : decode cL_law 758 = .ok (.iadd, 1) := by decide +kernel
theorem dL_law_759 : decode cL_law 759 = .ok (.iaload, 1) := by decide +kernel
theorem dL_law_760 : decode cL_law 760 = .ok (.aload_n 0, 1) := by decide +kernel
theorem dL_law_761 : decode cL_law 761 = .ok (.iload_n 3, 1) := by decide +kernel
theorem dL_law_762 : decode cL_law 762 = .ok (.iconst 2, 1) := by decide +kernel
theorem dL_law_763 : decode cL_law 763 = .ok (.iadd, 1) := by decide +kernel
theorem dL_law_764 : decode cL_law 764 = .ok (.iaload, 1) := by decide +kernel
theorem dL_law_765 : decode cL_law 765 = .ok (.invokevirtual 110, 3) := by decide +kernel
theorem dL_law_768 : decode cL_law 768 = .ok (.if_icmp .eq 68, 3) := by decide +kernel
theorem dL_law_771 : decode cL_law 771 = .ok (.iconst 0, 1) := by decide +kernel
theorem dL_law_772 : decode cL_law 772 = .ok (.ireturn, 1) := by decide +kernel
theorem dL_law_773 : decode cL_law 773 = .ok (.aload_n 1, 1) := by decide +kernel
theorem dL_law_774 : decode cL_law 774 = .ok (.aload_n 0, 1) := by decide +kernel
theorem dL_law_775 : decode cL_law 775 = .ok (.iload_n 3, 1) := by decide +kernel
theorem dL_law_776 : decode cL_law 776 = .ok (.iconst 1, 1) := by decide +kernel
theorem dL_law_777 : decode cL_law 777 = .ok (.iadd, 1) := by decide +kernel
theorem dL_law_778 : decode cL_law 778 = .ok (.iaload, 1) := by decide +kernel
theorem dL_law_779 : decode cL_law 779 = .ok (.invokevirtual 111, 3) := by decide +kernel
theorem dL_law_782 : decode cL_law 782 = .ok (.aload_n 2, 1) := by decide +kernel
theorem dL_law_783 : decode cL_law 783 = .ok (.aload_n 0, 1) := by decide +kernel
theorem dL_law_784 : decode cL_law 784 = .ok (.iload_n 3, 1) := by decide +kernel
theorem dL_law_785 : decode cL_law 785 = .ok (.iconst 1, 1) := by decide +kernel
theorem dL_law_786 : decode cL_law 786 = .ok (.iadd, 1) := by decide +kernel
theorem dL_law_787 : decode cL_law 787 = .ok (.iaload, 1) := by decide +kernel
theorem dL_law_788 : decode cL_law 788 = .ok (.invokevirtual 114, 3) := by decide +kernel
theorem dL_law_791 : decode cL_law 791 = .ok (.if_icmp .eq 45, 3) := by decide +kernel
theorem dL_law_794 : decode cL_law 794 = .ok (.iconst 0, 1) := by decide +kernel
theorem dL_law_795 : decode cL_law 795 = .ok (.ireturn, 1) := by decide +kernel
theorem dL_law_796 : decode cL_law 796 = .ok (.aload_n 1, 1) := by decide +kernel
theorem dL_law_797 : decode cL_law 797 = .ok (.invokevirtual 115, 3) := by decide +kernel
theorem dL_law_800 : decode cL_law 800 = .ok (.aload_n 2, 1) := by decide +kernel
theorem dL_law_801 : decode cL_law 801 = .ok (.invokevirtual 118, 3) := by decide +kernel
theorem dL_law_804 : decode cL_law 804 = .ok (.if_icmp .eq 32, 3) := by decide +kernel
theorem dL_law_807 : decode cL_law 807 = .ok (.iconst 0, 1) := by decide +kernel
theorem dL_law_808 : decode cL_law 808 = .ok (.ireturn, 1) := by decide +kernel
theorem dL_law_809 : decode cL_law 809 = .ok (.aload_n 1, 1) := by decide +kernel
theorem dL_law_810 : decode cL_law 810 = .ok (.invokevirtual 119, 3) := by decide +kernel
theorem dL_law_813 : decode cL_law 813 = .ok (.aload_n 2, 1) := by decide +kernel
theorem dL_law_814 : decode cL_law 814 = .ok (.invokevirtual 122, 3) := by decide +kernel
theorem dL_law_817 : decode cL_law 817 = .ok (.if_icmp .eq 19, 3) := by decide +kernel
theorem dL_law_820 : decode cL_law 820 = .ok (.iconst 0, 1) := by decide +kernel
theorem dL_law_821 : decode cL_law 821 = .ok (.ireturn, 1) := by decide +kernel
theorem dL_law_822 : decode cL_law 822 = .ok (.aload_n 1, 1) := by decide +kernel
theorem dL_law_823 : decode cL_law 823 = .ok (.invokevirtual 123, 3) := by decide +kernel
theorem dL_law_826 : decode cL_law 826 = .ok (.aload_n 2, 1) := by decide +kernel
theorem dL_law_827 : decode cL_law 827 = .ok (.invokevirtual 127, 3) := by decide +kernel
theorem dL_law_830 : decode cL_law 830 = .ok (.lcmp, 1) := by decide +kernel
theorem dL_law_831 : decode cL_law 831 = .ok (.ifCond .eq 5, 3) := by decide +kernel
theorem dL_law_834 : decode cL_law 834 = .ok (.iconst 0, 1) := by decide +kernel
theorem dL_law_835 : decode cL_law 835 = .ok (.ireturn, 1) := by decide +kernel
theorem dL_law_836 : decode cL_law 836 = .ok (.iinc 3 5, 3) := by decide +kernel
theorem dL_law_839 : decode cL_law 839 = .ok (.goto (-821), 3) := by decide +kernel
theorem dL_law_842 : decode cL_law 842 = .ok (.iconst 1, 1) := by decide +kernel
theorem dL_law_843 : decode cL_law 843 = .ok (.ireturn, 1) := by decide +kernel
abbrev vwCl : List vw_C := [(RX0, TX0, 2), (RX1, TX1, 4), (RX2, TX2, 3), (RX3, TX3, 3), (RX4, TX4, 2), (RX5, TX5, 12), (RX6, TX6, 9), (RX7, TX7, 3), (RX8, TX8, 6)]
