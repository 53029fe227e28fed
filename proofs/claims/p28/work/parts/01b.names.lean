def RX0 : String := "Meetjoin$Chooser"
def TX0 : u_T := fun k => match k with
  | 0 => ("Meetjoin$Chooser", "laws", "LMeetjoin$Laws;", true)
  | 1 => ("Meetjoin$Chooser", "from", "[I", true)
  | 2 => ("Meetjoin$Chooser", "chosen", "[I", true)
  | 3 => ("Meetjoin$Chooser", "best", "[I", true)
  | 4 => ("Meetjoin$Chooser", "bestCost", "I", false)
  | 5 => ("Meetjoin$Chooser", "lines", "I", false)
  | _ => ("Meetjoin$Chooser", "found", "I", false)
def tyX0 : Nat → FieldType := fun k => match k with
  | 0 => .object "Meetjoin$Laws"
  | 1 => .array .int
  | 2 => .array .int
  | 3 => .array .int
  | 4 => .int
  | 5 => .int
  | _ => .int
abbrev wsX00 : List Cond := u_ws RX0 TX0 7
theorem nmX0 : ∀ a, a < 7 → ∀ b, b < 7 → a ≠ b → (TX0 a).2.1 ≠ (TX0 b).2.1 := by decide +kernel
theorem tyX0_ok : ∀ k, k < 7 → parseFieldDescriptor (TX0 k).2.2.1 = some (tyX0 k) := by decide +kernel
abbrev cX0_init : ByteArray := prog_2_method_1_code
def yX0_init : MethodName := ⟨RX0, "<init>", "(LMeetjoin$Laws;)V"⟩
abbrev cX0_findBest : ByteArray := prog_2_method_2_code
def yX0_findBest : MethodName := ⟨RX0, "findBest", "(LMeetjoin$Meeting;I)V"⟩
abbrev cX0_count : ByteArray := prog_2_method_3_code
def yX0_count : MethodName := ⟨RX0, "count", "(LMeetjoin$Meeting;II)I"⟩
abbrev cX0_chooseFrom : ByteArray := prog_2_method_4_code
def yX0_chooseFrom : MethodName := ⟨RX0, "chooseFrom", "(LMeetjoin$Chooser;II)V"⟩
abbrev cX0_countFrom : ByteArray := prog_2_method_5_code
def yX0_countFrom : MethodName := ⟨RX0, "countFrom", "(LMeetjoin$Chooser;I)V"⟩
abbrev cX0_fittingAt : ByteArray := prog_2_method_6_code
def yX0_fittingAt : MethodName := ⟨RX0, "fittingAt", "(I)I"⟩
def RX1 : String := "Meetjoin$Fleet"
def TX1 : u_T := fun k => match k with
  | 0 => ("Meetjoin$Fleet", "kept", "[[I", true)
  | 1 => ("Meetjoin$Fleet", "had", "[[I", true)
  | 2 => ("Meetjoin$Fleet", "commitOf", "[I", true)
  | _ => ("Meetjoin$Fleet", "commits", "I", false)
def tyX1 : Nat → FieldType := fun k => match k with
  | 0 => .array (.array .int)
  | 1 => .array (.array .int)
  | 2 => .array .int
  | _ => .int
abbrev wsX10 : List Cond := u_ws RX1 TX1 4
theorem nmX1 : ∀ a, a < 4 → ∀ b, b < 4 → a ≠ b → (TX1 a).2.1 ≠ (TX1 b).2.1 := by decide +kernel
theorem tyX1_ok : ∀ k, k < 4 → parseFieldDescriptor (TX1 k).2.2.1 = some (tyX1 k) := by decide +kernel
abbrev cX1_init : ByteArray := prog_3_method_1_code
def yX1_init : MethodName := ⟨RX1, "<init>", "()V"⟩
abbrev cX1_keep : ByteArray := prog_3_method_2_code
def yX1_keep : MethodName := ⟨RX1, "keep", "([I)I"⟩
abbrev cX1_bring : ByteArray := prog_3_method_3_code
def yX1_bring : MethodName := ⟨RX1, "bring", "(II)Z"⟩
abbrev cX1_drifts : ByteArray := prog_3_method_4_code
def yX1_drifts : MethodName := ⟨RX1, "drifts", "(II)Z"⟩
abbrev cX1_drifting : ByteArray := prog_3_method_5_code
def yX1_drifting : MethodName := ⟨RX1, "drifting", "(I)I"⟩
abbrev cX1_driftingMachines : ByteArray := prog_3_method_6_code
def yX1_driftingMachines : MethodName := ⟨RX1, "driftingMachines", "()I"⟩
abbrev cX1_find : ByteArray := prog_3_method_7_code
def yX1_find : MethodName := ⟨RX1, "find", "(I)I"⟩
def RX2 : String := "Meetjoin$Laws"
def TX2 : u_T := fun k => match k with
  | 0 => ("Meetjoin$Laws", "team", "[I", true)
  | 1 => ("Meetjoin$Laws", "weight", "[I", true)
  | 2 => ("Meetjoin$Laws", "kind", "[I", true)
  | 3 => ("Meetjoin$Laws", "by", "[I", true)
  | 4 => ("Meetjoin$Laws", "about", "[I", true)
  | 5 => ("Meetjoin$Laws", "said", "[I", true)
  | 6 => ("Meetjoin$Laws", "besides", "[I", true)
  | 7 => ("Meetjoin$Laws", "approved", "[Z", true)
  | 8 => ("Meetjoin$Laws", "withdrawn", "[Z", true)
  | 9 => ("Meetjoin$Laws", "fields", "I", false)
  | _ => ("Meetjoin$Laws", "lines", "I", false)
def tyX2 : Nat → FieldType := fun k => match k with
  | 0 => .array .int
  | 1 => .array .int
  | 2 => .array .int
  | 3 => .array .int
  | 4 => .array .int
  | 5 => .array .int
  | 6 => .array .int
  | 7 => .array .boolean
  | 8 => .array .boolean
  | 9 => .int
  | _ => .int
abbrev wsX20 : List Cond := u_ws RX2 TX2 11
theorem nmX2 : ∀ a, a < 11 → ∀ b, b < 11 → a ≠ b → (TX2 a).2.1 ≠ (TX2 b).2.1 := by decide +kernel
theorem tyX2_ok : ∀ k, k < 11 → parseFieldDescriptor (TX2 k).2.2.1 = some (tyX2 k) := by decide +kernel
abbrev cX2_init : ByteArray := prog_4_method_1_code
def yX2_init : MethodName := ⟨RX2, "<init>", "()V"⟩
abbrev cX2_makeField : ByteArray := prog_4_method_2_code
def yX2_makeField : MethodName := ⟨RX2, "makeField", "(I)I"⟩
abbrev cX2_makeLine : ByteArray := prog_4_method_3_code
def yX2_makeLine : MethodName := ⟨RX2, "makeLine", "(IIIII)I"⟩
abbrev cX2_counts : ByteArray := prog_4_method_4_code
def yX2_counts : MethodName := ⟨RX2, "counts", "(I)Z"⟩
abbrev cX2_countingLines : ByteArray := prog_4_method_5_code
def yX2_countingLines : MethodName := ⟨RX2, "countingLines", "()I"⟩
abbrev cX2_strictLines : ByteArray := prog_4_method_6_code
def yX2_strictLines : MethodName := ⟨RX2, "strictLines", "()I"⟩
abbrev cX2_defaultsOf : ByteArray := prog_4_method_7_code
def yX2_defaultsOf : MethodName := ⟨RX2, "defaultsOf", "(II)I"⟩
abbrev cX2_isOfTwo : ByteArray := prog_4_method_8_code
def yX2_isOfTwo : MethodName := ⟨RX2, "isOfTwo", "(I)Z"⟩
abbrev cX2_letsAlone : ByteArray := prog_4_method_9_code
def yX2_letsAlone : MethodName := ⟨RX2, "letsAlone", "(I)I"⟩
abbrev cX2_letsByOther : ByteArray := prog_4_method_10_code
def yX2_letsByOther : MethodName := ⟨RX2, "letsByOther", "(IZI)I"⟩
def RX3 : String := "Meetjoin$Meeting"
def TX3 : u_T := fun k => match k with
  | 0 => ("Meetjoin$Meeting", "laws", "LMeetjoin$Laws;", true)
  | 1 => ("Meetjoin$Meeting", "may", "[I", true)
  | _ => ("Meetjoin$Meeting", "isContradiction", "Z", false)
def tyX3 : Nat → FieldType := fun k => match k with
  | 0 => .object "Meetjoin$Laws"
  | 1 => .array .int
  | _ => .boolean
abbrev wsX30 : List Cond := u_ws RX3 TX3 3
theorem nmX3 : ∀ a, a < 3 → ∀ b, b < 3 → a ≠ b → (TX3 a).2.1 ≠ (TX3 b).2.1 := by decide +kernel
theorem tyX3_ok : ∀ k, k < 3 → parseFieldDescriptor (TX3 k).2.2.1 = some (tyX3 k) := by decide +kernel
abbrev cX3_init : ByteArray := prog_5_method_1_code
def yX3_init : MethodName := ⟨RX3, "<init>", "(LMeetjoin$Laws;)V"⟩
abbrev cX3_begin : ByteArray := prog_5_method_2_code
def yX3_begin : MethodName := ⟨RX3, "begin", "(I)V"⟩
abbrev cX3_copy : ByteArray := prog_5_method_3_code
def yX3_copy : MethodName := ⟨RX3, "copy", "(LMeetjoin$Meeting;)V"⟩
abbrev cX3_goOn : ByteArray := prog_5_method_4_code
def yX3_goOn : MethodName := ⟨RX3, "goOn", "(I)V"⟩
abbrev cX3_takesAway : ByteArray := prog_5_method_5_code
def yX3_takesAway : MethodName := ⟨RX3, "takesAway", "(I)Z"⟩
def RX4 : String := "Meetjoin$Outlook"
def TX4 : u_T := fun k => match k with
  | 0 => ("Meetjoin$Outlook", "laws", "LMeetjoin$Laws;", true)
  | 1 => ("Meetjoin$Outlook", "all", "LMeetjoin$Meeting;", true)
  | 2 => ("Meetjoin$Outlook", "trial", "LMeetjoin$Meeting;", true)
  | 3 => ("Meetjoin$Outlook", "settled", "LMeetjoin$Meeting;", true)
  | 4 => ("Meetjoin$Outlook", "chooser", "LMeetjoin$Chooser;", true)
  | 5 => ("Meetjoin$Outlook", "is", "[I", true)
  | _ => ("Meetjoin$Outlook", "strict", "I", false)
def tyX4 : Nat → FieldType := fun k => match k with
  | 0 => .object "Meetjoin$Laws"
  | 1 => .object "Meetjoin$Meeting"
  | 2 => .object "Meetjoin$Meeting"
  | 3 => .object "Meetjoin$Meeting"
  | 4 => .object "Meetjoin$Chooser"
  | 5 => .array .int
  | _ => .int
abbrev wsX40 : List Cond := u_ws RX4 TX4 7
theorem nmX4 : ∀ a, a < 7 → ∀ b, b < 7 → a ≠ b → (TX4 a).2.1 ≠ (TX4 b).2.1 := by decide +kernel
theorem tyX4_ok : ∀ k, k < 7 → parseFieldDescriptor (TX4 k).2.2.1 = some (tyX4 k) := by decide +kernel
abbrev cX4_init : ByteArray := prog_6_method_1_code
def yX4_init : MethodName := ⟨RX4, "<init>", "(LMeetjoin$Laws;)V"⟩
abbrev cX4_renew : ByteArray := prog_6_method_2_code
def yX4_renew : MethodName := ⟨RX4, "renew", "()V"⟩
abbrev cX4_takeDefault : ByteArray := prog_6_method_3_code
def yX4_takeDefault : MethodName := ⟨RX4, "takeDefault", "(I)V"⟩
abbrev cX4_onlyNumber : ByteArray := prog_6_method_4_code
def yX4_onlyNumber : MethodName := ⟨RX4, "onlyNumber", "(I)I"⟩
abbrev cX4_settledFields : ByteArray := prog_6_method_5_code
def yX4_settledFields : MethodName := ⟨RX4, "settledFields", "()I"⟩
abbrev cX4_reasonOf : ByteArray := prog_6_method_6_code
def yX4_reasonOf : MethodName := ⟨RX4, "reasonOf", "(I)I"⟩
def RX5 : String := "Meetjoin"
def TX5 : u_T := fun k => match k with
  | 0 => ("Meetjoin", "laws", "LMeetjoin$Laws;", true)
  | 1 => ("Meetjoin", "outlook", "LMeetjoin$Outlook;", true)
  | 2 => ("Meetjoin", "fleet", "LMeetjoin$Fleet;", true)
  | _ => ("Meetjoin", "refused", "I", false)
def tyX5 : Nat → FieldType := fun k => match k with
  | 0 => .object "Meetjoin$Laws"
  | 1 => .object "Meetjoin$Outlook"
  | 2 => .object "Meetjoin$Fleet"
  | _ => .int
abbrev wsX50 : List Cond := u_ws RX5 TX5 4
theorem nmX5 : ∀ a, a < 4 → ∀ b, b < 4 → a ≠ b → (TX5 a).2.1 ≠ (TX5 b).2.1 := by decide +kernel
theorem tyX5_ok : ∀ k, k < 4 → parseFieldDescriptor (TX5 k).2.2.1 = some (tyX5 k) := by decide +kernel
abbrev cX5_init : ByteArray := prog_1_method_1_code
def yX5_init : MethodName := ⟨RX5, "<init>", "()V"⟩
abbrev cX5_field : ByteArray := prog_1_method_2_code
def yX5_field : MethodName := ⟨RX5, "field", "(I)I"⟩
abbrev cX5_oneOf : ByteArray := prog_1_method_3_code
def yX5_oneOf : MethodName := ⟨RX5, "oneOf", "(III)I"⟩
abbrev cX5_bound : ByteArray := prog_1_method_4_code
def yX5_bound : MethodName := ⟨RX5, "bound", "(IIIZ)I"⟩
abbrev cX5_more : ByteArray := prog_1_method_5_code
def yX5_more : MethodName := ⟨RX5, "more", "(IIII)I"⟩
abbrev cX5_unlike : ByteArray := prog_1_method_6_code
def yX5_unlike : MethodName := ⟨RX5, "unlike", "(III)I"⟩
abbrev cX5_preset : ByteArray := prog_1_method_7_code
def yX5_preset : MethodName := ⟨RX5, "preset", "(IIII)I"⟩
abbrev cX5_approve : ByteArray := prog_1_method_8_code
def yX5_approve : MethodName := ⟨RX5, "approve", "(IZ)Z"⟩
abbrev cX5_withdraw : ByteArray := prog_1_method_9_code
def yX5_withdraw : MethodName := ⟨RX5, "withdraw", "(IZ)Z"⟩
abbrev cX5_weight : ByteArray := prog_1_method_10_code
def yX5_weight : MethodName := ⟨RX5, "weight", "(II)I"⟩
abbrev cX5_commit : ByteArray := prog_1_method_11_code
def yX5_commit : MethodName := ⟨RX5, "commit", "()I"⟩
abbrev cX5_wave : ByteArray := prog_1_method_12_code
def yX5_wave : MethodName := ⟨RX5, "wave", "(II)I"⟩
abbrev cX5_patch : ByteArray := prog_1_method_13_code
def yX5_patch : MethodName := ⟨RX5, "patch", "(III)I"⟩
abbrev cX5_absorb : ByteArray := prog_1_method_14_code
def yX5_absorb : MethodName := ⟨RX5, "absorb", "(II)I"⟩
abbrev cX5_knock : ByteArray := prog_1_method_15_code
def yX5_knock : MethodName := ⟨RX5, "knock", "()I"⟩
abbrev cX5_ofField : ByteArray := prog_1_method_16_code
def yX5_ofField : MethodName := ⟨RX5, "ofField", "(II)I"⟩
abbrev cX5_ofLine : ByteArray := prog_1_method_17_code
def yX5_ofLine : MethodName := ⟨RX5, "ofLine", "(II)I"⟩
abbrev cX5_ofMachine : ByteArray := prog_1_method_18_code
def yX5_ofMachine : MethodName := ⟨RX5, "ofMachine", "(II)I"⟩
abbrev cX5_has : ByteArray := prog_1_method_19_code
def yX5_has : MethodName := ⟨RX5, "has", "(II)I"⟩
abbrev cX5_ofCommit : ByteArray := prog_1_method_20_code
def yX5_ofCommit : MethodName := ⟨RX5, "ofCommit", "(II)I"⟩
abbrev cX5_house : ByteArray := prog_1_method_21_code
def yX5_house : MethodName := ⟨RX5, "house", "(I)I"⟩
abbrev cX5_value : ByteArray := prog_1_method_22_code
def yX5_value : MethodName := ⟨RX5, "value", "(I)Ljava/lang/String;"⟩
abbrev cX5_reason : ByteArray := prog_1_method_23_code
def yX5_reason : MethodName := ⟨RX5, "reason", "(I)I"⟩
abbrev cX5_met : ByteArray := prog_1_method_24_code
def yX5_met : MethodName := ⟨RX5, "met", "(II)I"⟩
abbrev cX5_choices : ByteArray := prog_1_method_25_code
def yX5_choices : MethodName := ⟨RX5, "choices", "(II)I"⟩
abbrev cX5_isNarrower : ByteArray := prog_1_method_26_code
def yX5_isNarrower : MethodName := ⟨RX5, "isNarrower", "(II)Z"⟩
abbrev cX5_isSound : ByteArray := prog_1_method_27_code
def yX5_isSound : MethodName := ⟨RX5, "isSound", "()Z"⟩
abbrev cX5_digest : ByteArray := prog_1_method_28_code
def yX5_digest : MethodName := ⟨RX5, "digest", "()J"⟩
abbrev cX5_sumOfMachines : ByteArray := prog_1_method_29_code
def yX5_sumOfMachines : MethodName := ⟨RX5, "sumOfMachines", "(J)J"⟩
abbrev cX5_sumOfCommits : ByteArray := prog_1_method_30_code
def yX5_sumOfCommits : MethodName := ⟨RX5, "sumOfCommits", "(J)J"⟩
abbrev cX5_tell : ByteArray := prog_1_method_31_code
def yX5_tell : MethodName := ⟨RX5, "tell", "(IIIII)I"⟩
abbrev cX5_isField : ByteArray := prog_1_method_32_code
def yX5_isField : MethodName := ⟨RX5, "isField", "(I)Z"⟩
abbrev cX5_isLine : ByteArray := prog_1_method_33_code
def yX5_isLine : MethodName := ⟨RX5, "isLine", "(I)Z"⟩
abbrev cX5_isCommit : ByteArray := prog_1_method_34_code
def yX5_isCommit : MethodName := ⟨RX5, "isCommit", "(I)Z"⟩
abbrev cX5_isMachine : ByteArray := prog_1_method_35_code
def yX5_isMachine : MethodName := ⟨RX5, "isMachine", "(I)Z"⟩
abbrev cX5_isTeam : ByteArray := prog_1_method_36_code
def yX5_isTeam : MethodName := ⟨RX5, "isTeam", "(I)Z"⟩
abbrev cX5_isNumber : ByteArray := prog_1_method_37_code
def yX5_isNumber : MethodName := ⟨RX5, "isNumber", "(I)Z"⟩
abbrev cX5_contains : ByteArray := prog_1_method_38_code
def yX5_contains : MethodName := ⟨RX5, "contains", "(II)Z"⟩
def RX6 : String := "MeetjoinLaw$Out"
def TX6 : u_T := fun k => match k with
  | 0 => ("MeetjoinLaw$Out", "n", "J", false)
  | _ => ("MeetjoinLaw$Out", "s", "Ljava/lang/String;", false)
def tyX6 : Nat → FieldType := fun k => match k with
  | 0 => .long
  | _ => .object "java/lang/String"
abbrev wsX60 : List Cond := u_ws RX6 TX6 2
theorem nmX6 : ∀ a, a < 2 → ∀ b, b < 2 → a ≠ b → (TX6 a).2.1 ≠ (TX6 b).2.1 := by decide +kernel
theorem tyX6_ok : ∀ k, k < 2 → parseFieldDescriptor (TX6 k).2.2.1 = some (tyX6 k) := by decide +kernel
abbrev cX6_init : ByteArray := prog_8_method_1_code
def yX6_init : MethodName := ⟨RX6, "<init>", "()V"⟩
def RX7 : String := "MeetjoinModel$Line"
def TX7 : u_T := fun k => match k with
  | 0 => ("MeetjoinModel$Line", "kind", "I", false)
  | 1 => ("MeetjoinModel$Line", "team", "I", false)
  | 2 => ("MeetjoinModel$Line", "field", "I", false)
  | 3 => ("MeetjoinModel$Line", "what", "I", false)
  | 4 => ("MeetjoinModel$Line", "by", "I", false)
  | 5 => ("MeetjoinModel$Line", "isApproved", "Z", false)
  | _ => ("MeetjoinModel$Line", "isWithdrawn", "Z", false)
def tyX7 : Nat → FieldType := fun k => match k with
  | 0 => .int
  | 1 => .int
  | 2 => .int
  | 3 => .int
  | 4 => .int
  | 5 => .boolean
  | _ => .boolean
abbrev wsX70 : List Cond := u_ws RX7 TX7 7
theorem nmX7 : ∀ a, a < 7 → ∀ b, b < 7 → a ≠ b → (TX7 a).2.1 ≠ (TX7 b).2.1 := by decide +kernel
theorem tyX7_ok : ∀ k, k < 7 → parseFieldDescriptor (TX7 k).2.2.1 = some (tyX7 k) := by decide +kernel
abbrev cX7_init : ByteArray := prog_10_method_1_code
def yX7_init : MethodName := ⟨RX7, "<init>", "()V"⟩
def RX8 : String := "MeetjoinModel"
def TX8 : u_T := fun k => match k with
  | 0 => ("MeetjoinModel", "thrown", "I", false)
  | 1 => ("MeetjoinModel", "teams", "[I", true)
  | 2 => ("MeetjoinModel", "weights", "[I", true)
  | 3 => ("MeetjoinModel", "fields", "I", false)
  | 4 => ("MeetjoinModel", "lines", "Ljava/util/ArrayList;", true)
  | 5 => ("MeetjoinModel", "commits", "Ljava/util/ArrayList;", true)
  | 6 => ("MeetjoinModel", "withCommit", "[I", true)
  | 7 => ("MeetjoinModel", "having", "[I", true)
  | 8 => ("MeetjoinModel", "refused", "I", false)
  | 9 => ("MeetjoinModel", "may", "[I", true)
  | 10 => ("MeetjoinModel", "now", "[I", true)
  | 11 => ("MeetjoinModel", "best", "[I", true)
  | 12 => ("MeetjoinModel", "cost", "I", false)
  | 13 => ("MeetjoinModel", "found", "I", false)
  | _ => ("MeetjoinModel", "sum", "J", false)
def tyX8 : Nat → FieldType := fun k => match k with
  | 0 => .int
  | 1 => .array .int
  | 2 => .array .int
  | 3 => .int
  | 4 => .object "java/util/ArrayList"
  | 5 => .object "java/util/ArrayList"
  | 6 => .array .int
  | 7 => .array .int
  | 8 => .int
  | 9 => .array .int
  | 10 => .array .int
  | 11 => .array .int
  | 12 => .int
  | 13 => .int
  | _ => .long
abbrev wsX80 : List Cond := u_ws RX8 TX8 15
theorem nmX8 : ∀ a, a < 15 → ∀ b, b < 15 → a ≠ b → (TX8 a).2.1 ≠ (TX8 b).2.1 := by decide +kernel
theorem tyX8_ok : ∀ k, k < 15 → parseFieldDescriptor (TX8 k).2.2.1 = some (tyX8 k) := by decide +kernel
abbrev cX8_init : ByteArray := prog_9_method_1_code
def yX8_init : MethodName := ⟨RX8, "<init>", "()V"⟩
abbrev cX8_refuse : ByteArray := prog_9_method_3_code
def yX8_refuse : MethodName := ⟨RX8, "refuse", "(I)I"⟩
abbrev cX8_is : ByteArray := prog_9_method_4_code
def yX8_is : MethodName := ⟨RX8, "is", "(III)Z"⟩
abbrev cX8_isField : ByteArray := prog_9_method_5_code
def yX8_isField : MethodName := ⟨RX8, "isField", "(I)Z"⟩
abbrev cX8_isLine : ByteArray := prog_9_method_6_code
def yX8_isLine : MethodName := ⟨RX8, "isLine", "(I)Z"⟩
abbrev cX8_isMachine : ByteArray := prog_9_method_7_code
def yX8_isMachine : MethodName := ⟨RX8, "isMachine", "(I)Z"⟩
abbrev cX8_counts : ByteArray := prog_9_method_8_code
def yX8_counts : MethodName := ⟨RX8, "counts", "(LMeetjoinModel$Line;)Z"⟩
abbrev cX8_counting : ByteArray := prog_9_method_9_code
def yX8_counting : MethodName := ⟨RX8, "counting", "()I"⟩
abbrev cX8_field : ByteArray := prog_9_method_10_code
def yX8_field : MethodName := ⟨RX8, "field", "(I)I"⟩
abbrev cX8_tell : ByteArray := prog_9_method_11_code
def yX8_tell : MethodName := ⟨RX8, "tell", "(IIIIIZ)I"⟩
abbrev cX8_oneOf : ByteArray := prog_9_method_12_code
def yX8_oneOf : MethodName := ⟨RX8, "oneOf", "(III)I"⟩
abbrev cX8_bound : ByteArray := prog_9_method_13_code
def yX8_bound : MethodName := ⟨RX8, "bound", "(IIIZ)I"⟩
abbrev cX8_more : ByteArray := prog_9_method_14_code
def yX8_more : MethodName := ⟨RX8, "more", "(IIII)I"⟩
abbrev cX8_unlike : ByteArray := prog_9_method_15_code
def yX8_unlike : MethodName := ⟨RX8, "unlike", "(III)I"⟩
abbrev cX8_preset : ByteArray := prog_9_method_16_code
def yX8_preset : MethodName := ⟨RX8, "preset", "(IIII)I"⟩
abbrev cX8_approve : ByteArray := prog_9_method_17_code
def yX8_approve : MethodName := ⟨RX8, "approve", "(IZ)Z"⟩
abbrev cX8_withdraw : ByteArray := prog_9_method_18_code
def yX8_withdraw : MethodName := ⟨RX8, "withdraw", "(IZ)Z"⟩
abbrev cX8_weight : ByteArray := prog_9_method_19_code
def yX8_weight : MethodName := ⟨RX8, "weight", "(II)I"⟩
abbrev cX8_begin : ByteArray := prog_9_method_20_code
def yX8_begin : MethodName := ⟨RX8, "begin", "(I)V"⟩
abbrev cX8_copy : ByteArray := prog_9_method_21_code
def yX8_copy : MethodName := ⟨RX8, "copy", "(II)V"⟩
abbrev cX8_setOf : ByteArray := prog_9_method_22_code
def yX8_setOf : MethodName := ⟨RX8, "setOf", "(II)I"⟩
abbrev cX8_count : ByteArray := prog_9_method_23_code
def yX8_count : MethodName := ⟨RX8, "count", "(II)I"⟩
abbrev cX8_least : ByteArray := prog_9_method_24_code
def yX8_least : MethodName := ⟨RX8, "least", "(II)I"⟩
abbrev cX8_canBe : ByteArray := prog_9_method_25_code
def yX8_canBe : MethodName := ⟨RX8, "canBe", "(III)Z"⟩
abbrev cX8_shifted : ByteArray := prog_9_method_26_code
def yX8_shifted : MethodName := ⟨RX8, "shifted", "(II)I"⟩
abbrev cX8_lets : ByteArray := prog_9_method_27_code
def yX8_lets : MethodName := ⟨RX8, "lets", "(ILMeetjoinModel$Line;I)I"⟩
abbrev cX8_takes : ByteArray := prog_9_method_28_code
def yX8_takes : MethodName := ⟨RX8, "takes", "(ILMeetjoinModel$Line;I)Z"⟩
abbrev cX8_isEmpty : ByteArray := prog_9_method_29_code
def yX8_isEmpty : MethodName := ⟨RX8, "isEmpty", "(I)Z"⟩
abbrev cX8_meet : ByteArray := prog_9_method_30_code
def yX8_meet : MethodName := ⟨RX8, "meet", "(II)Z"⟩
abbrev cX8_meetAnew : ByteArray := prog_9_method_31_code
def yX8_meetAnew : MethodName := ⟨RX8, "meetAnew", "(II)Z"⟩
abbrev cX8_only : ByteArray := prog_9_method_32_code
def yX8_only : MethodName := ⟨RX8, "only", "(III)V"⟩
abbrev cX8_nextDefault : ByteArray := prog_9_method_33_code
def yX8_nextDefault : MethodName := ⟨RX8, "nextDefault", "(II)I"⟩
abbrev cX8_isBehind : ByteArray := prog_9_method_34_code
def yX8_isBehind : MethodName := ⟨RX8, "isBehind", "(II)Z"⟩
abbrev cX8_settle : ByteArray := prog_9_method_35_code
def yX8_settle : MethodName := ⟨RX8, "settle", "()V"⟩
abbrev cX8_whatIs : ByteArray := prog_9_method_36_code
def yX8_whatIs : MethodName := ⟨RX8, "whatIs", "(I)I"⟩
abbrev cX8_isContradiction : ByteArray := prog_9_method_37_code
def yX8_isContradiction : MethodName := ⟨RX8, "isContradiction", "()Z"⟩
abbrev cX8_mayBe : ByteArray := prog_9_method_38_code
def yX8_mayBe : MethodName := ⟨RX8, "mayBe", "(I)I"⟩
abbrev cX8_reasonFor : ByteArray := prog_9_method_39_code
def yX8_reasonFor : MethodName := ⟨RX8, "reasonFor", "(I)I"⟩
abbrev cX8_bound_ : ByteArray := prog_9_method_40_code
def yX8_bound_ : MethodName := ⟨RX8, "bound", "(I)I"⟩
abbrev cX8_choose : ByteArray := prog_9_method_41_code
def yX8_choose : MethodName := ⟨RX8, "choose", "(II)V"⟩
abbrev cX8_isChosen : ByteArray := prog_9_method_42_code
def yX8_isChosen : MethodName := ⟨RX8, "isChosen", "()Z"⟩
abbrev cX8_countFrom : ByteArray := prog_9_method_43_code
def yX8_countFrom : MethodName := ⟨RX8, "countFrom", "(III)I"⟩
abbrev cX8_commit : ByteArray := prog_9_method_44_code
def yX8_commit : MethodName := ⟨RX8, "commit", "()I"⟩
abbrev cX8_drifts : ByteArray := prog_9_method_45_code
def yX8_drifts : MethodName := ⟨RX8, "drifts", "(II)Z"⟩
abbrev cX8_drifting : ByteArray := prog_9_method_46_code
def yX8_drifting : MethodName := ⟨RX8, "drifting", "(I)I"⟩
abbrev cX8_wave : ByteArray := prog_9_method_47_code
def yX8_wave : MethodName := ⟨RX8, "wave", "(II)I"⟩
abbrev cX8_patch : ByteArray := prog_9_method_48_code
def yX8_patch : MethodName := ⟨RX8, "patch", "(III)I"⟩
abbrev cX8_absorb : ByteArray := prog_9_method_49_code
def yX8_absorb : MethodName := ⟨RX8, "absorb", "(II)I"⟩
abbrev cX8_knock : ByteArray := prog_9_method_50_code
def yX8_knock : MethodName := ⟨RX8, "knock", "()I"⟩
abbrev cX8_changed : ByteArray := prog_9_method_51_code
def yX8_changed : MethodName := ⟨RX8, "changed", "(I)I"⟩
abbrev cX8_ofFieldNow : ByteArray := prog_9_method_52_code
def yX8_ofFieldNow : MethodName := ⟨RX8, "ofFieldNow", "(II)I"⟩
abbrev cX8_ofField : ByteArray := prog_9_method_53_code
def yX8_ofField : MethodName := ⟨RX8, "ofField", "(II)I"⟩
abbrev cX8_ofLineNow : ByteArray := prog_9_method_54_code
def yX8_ofLineNow : MethodName := ⟨RX8, "ofLineNow", "(II)I"⟩
abbrev cX8_ofLine : ByteArray := prog_9_method_55_code
def yX8_ofLine : MethodName := ⟨RX8, "ofLine", "(II)I"⟩
abbrev cX8_ofMachineNow : ByteArray := prog_9_method_56_code
def yX8_ofMachineNow : MethodName := ⟨RX8, "ofMachineNow", "(II)I"⟩
abbrev cX8_ofMachine : ByteArray := prog_9_method_57_code
def yX8_ofMachine : MethodName := ⟨RX8, "ofMachine", "(II)I"⟩
abbrev cX8_has : ByteArray := prog_9_method_58_code
def yX8_has : MethodName := ⟨RX8, "has", "(II)I"⟩
abbrev cX8_ofCommit : ByteArray := prog_9_method_59_code
def yX8_ofCommit : MethodName := ⟨RX8, "ofCommit", "(II)I"⟩
abbrev cX8_houseNow : ByteArray := prog_9_method_60_code
def yX8_houseNow : MethodName := ⟨RX8, "houseNow", "(I)I"⟩
abbrev cX8_house : ByteArray := prog_9_method_61_code
def yX8_house : MethodName := ⟨RX8, "house", "(I)I"⟩
abbrev cX8_value : ByteArray := prog_9_method_62_code
def yX8_value : MethodName := ⟨RX8, "value", "(I)Ljava/lang/String;"⟩
abbrev cX8_reason : ByteArray := prog_9_method_63_code
def yX8_reason : MethodName := ⟨RX8, "reason", "(I)I"⟩
abbrev cX8_met : ByteArray := prog_9_method_64_code
def yX8_met : MethodName := ⟨RX8, "met", "(II)I"⟩
abbrev cX8_choices : ByteArray := prog_9_method_65_code
def yX8_choices : MethodName := ⟨RX8, "choices", "(II)I"⟩
abbrev cX8_isNarrower : ByteArray := prog_9_method_66_code
def yX8_isNarrower : MethodName := ⟨RX8, "isNarrower", "(II)Z"⟩
abbrev cX8_isSoundNow : ByteArray := prog_9_method_67_code
def yX8_isSoundNow : MethodName := ⟨RX8, "isSoundNow", "()Z"⟩
abbrev cX8_isSound : ByteArray := prog_9_method_68_code
def yX8_isSound : MethodName := ⟨RX8, "isSound", "()Z"⟩
abbrev cX8_add : ByteArray := prog_9_method_69_code
def yX8_add : MethodName := ⟨RX8, "add", "(J)V"⟩
abbrev cX8_digest : ByteArray := prog_9_method_70_code
def yX8_digest : MethodName := ⟨RX8, "digest", "()J"⟩
def RJx145de : String := "java/io/Serializable"
def TJx145de : u_T := fun k => match k with
  | _ => ("", "", "", false)
def tyJx145de : Nat → FieldType := fun k => match k with
  | _ => .int
abbrev wsJx145de0 : List Cond := u_ws RJx145de TJx145de 0
theorem nmJx145de : ∀ a, a < 0 → ∀ b, b < 0 → a ≠ b → (TJx145de a).2.1 ≠ (TJx145de b).2.1 := by decide +kernel
theorem tyJx145de_ok : ∀ k, k < 0 → parseFieldDescriptor (TJx145de k).2.2.1 = some (tyJx145de k) := by decide +kernel
def RJ5 : String := "java/lang/AbstractStringBuilder"
def TJ5 : u_T := fun k => match k with
  | _ => ("", "", "", false)
def tyJ5 : Nat → FieldType := fun k => match k with
  | _ => .int
abbrev wsJ50 : List Cond := u_ws RJ5 TJ5 0
theorem nmJ5 : ∀ a, a < 0 → ∀ b, b < 0 → a ≠ b → (TJ5 a).2.1 ≠ (TJ5 b).2.1 := by decide +kernel
theorem tyJ5_ok : ∀ k, k < 0 → parseFieldDescriptor (TJ5 k).2.2.1 = some (tyJ5 k) := by decide +kernel
abbrev cJ5_init_d00df : ByteArray := prog_12_method_2_code
def yJ5_init_d00df : MethodName := ⟨RJ5, "<init>", "(I)V"⟩
abbrev cJ5_init_a7421 : ByteArray := prog_12_method_3_code
def yJ5_init_a7421 : MethodName := ⟨RJ5, "<init>", "(Ljava/lang/String;)V"⟩
abbrev cJ5_length_8abf5 : ByteArray := prog_12_method_6_code
def yJ5_length_8abf5 : MethodName := ⟨RJ5, "length", "()I"⟩
abbrev cJ5_ensureCapacityInternal_d00df : ByteArray := prog_12_method_9_code
def yJ5_ensureCapacityInternal_d00df : MethodName := ⟨RJ5, "ensureCapacityInternal", "(I)V"⟩
abbrev cJ5_newCapacity_0f7a4 : ByteArray := prog_12_method_10_code
def yJ5_newCapacity_0f7a4 : MethodName := ⟨RJ5, "newCapacity", "(I)I"⟩
abbrev cJ5_inflate_da8c8 : ByteArray := prog_12_method_11_code
def yJ5_inflate_da8c8 : MethodName := ⟨RJ5, "inflate", "()V"⟩
abbrev cJ5_append_cf1ce : ByteArray := prog_12_method_22_code
def yJ5_append_cf1ce : MethodName := ⟨RJ5, "append", "(Ljava/lang/String;)Ljava/lang/AbstractStringBuilder;"⟩
abbrev cJ5_appendNull_278bc : ByteArray := prog_12_method_26_code
def yJ5_appendNull_278bc : MethodName := ⟨RJ5, "appendNull", "()Ljava/lang/AbstractStringBuilder;"⟩
abbrev cJ5_append_3fe6f : ByteArray := prog_12_method_31_code
def yJ5_append_3fe6f : MethodName := ⟨RJ5, "append", "(C)Ljava/lang/AbstractStringBuilder;"⟩
abbrev cJ5_append_c97b9 : ByteArray := prog_12_method_32_code
def yJ5_append_c97b9 : MethodName := ⟨RJ5, "append", "(I)Ljava/lang/AbstractStringBuilder;"⟩
abbrev cJ5_getValue_6d5f1 : ByteArray := prog_12_method_64_code
def yJ5_getValue_6d5f1 : MethodName := ⟨RJ5, "getValue", "()[B"⟩
abbrev cJ5_isLatin1_aae02 : ByteArray := prog_12_method_68_code
def yJ5_isLatin1_aae02 : MethodName := ⟨RJ5, "isLatin1", "()Z"⟩
abbrev cJ5_inflateIfNeededFor_a7421 : ByteArray := prog_12_method_71_code
def yJ5_inflateIfNeededFor_a7421 : MethodName := ⟨RJ5, "inflateIfNeededFor", "(Ljava/lang/String;)V"⟩
abbrev cJ5_putStringAt_47b60 : ByteArray := prog_12_method_73_code
def yJ5_putStringAt_47b60 : MethodName := ⟨RJ5, "putStringAt", "(ILjava/lang/String;)V"⟩
def RJx2cfe8 : String := "java/lang/Appendable"
def TJx2cfe8 : u_T := fun k => match k with
  | _ => ("", "", "", false)
def tyJx2cfe8 : Nat → FieldType := fun k => match k with
  | _ => .int
abbrev wsJx2cfe80 : List Cond := u_ws RJx2cfe8 TJx2cfe8 0
theorem nmJx2cfe8 : ∀ a, a < 0 → ∀ b, b < 0 → a ≠ b → (TJx2cfe8 a).2.1 ≠ (TJx2cfe8 b).2.1 := by decide +kernel
theorem tyJx2cfe8_ok : ∀ k, k < 0 → parseFieldDescriptor (TJx2cfe8 k).2.2.1 = some (tyJx2cfe8 k) := by decide +kernel
def RJx9f9b0 : String := "java/lang/CharSequence"
def TJx9f9b0 : u_T := fun k => match k with
  | _ => ("", "", "", false)
def tyJx9f9b0 : Nat → FieldType := fun k => match k with
  | _ => .int
abbrev wsJx9f9b00 : List Cond := u_ws RJx9f9b0 TJx9f9b0 0
theorem nmJx9f9b0 : ∀ a, a < 0 → ∀ b, b < 0 → a ≠ b → (TJx9f9b0 a).2.1 ≠ (TJx9f9b0 b).2.1 := by decide +kernel
theorem tyJx9f9b0_ok : ∀ k, k < 0 → parseFieldDescriptor (TJx9f9b0 k).2.2.1 = some (tyJx9f9b0 k) := by decide +kernel
def RJx8e188 : String := "java/lang/Cloneable"
def TJx8e188 : u_T := fun k => match k with
  | _ => ("", "", "", false)
def tyJx8e188 : Nat → FieldType := fun k => match k with
  | _ => .int
abbrev wsJx8e1880 : List Cond := u_ws RJx8e188 TJx8e188 0
theorem nmJx8e188 : ∀ a, a < 0 → ∀ b, b < 0 → a ≠ b → (TJx8e188 a).2.1 ≠ (TJx8e188 b).2.1 := by decide +kernel
theorem tyJx8e188_ok : ∀ k, k < 0 → parseFieldDescriptor (TJx8e188 k).2.2.1 = some (tyJx8e188 k) := by decide +kernel
def RJxb160c : String := "java/lang/Comparable"
def TJxb160c : u_T := fun k => match k with
  | _ => ("", "", "", false)
def tyJxb160c : Nat → FieldType := fun k => match k with
  | _ => .int
abbrev wsJxb160c0 : List Cond := u_ws RJxb160c TJxb160c 0
theorem nmJxb160c : ∀ a, a < 0 → ∀ b, b < 0 → a ≠ b → (TJxb160c a).2.1 ≠ (TJxb160c b).2.1 := by decide +kernel
theorem tyJxb160c_ok : ∀ k, k < 0 → parseFieldDescriptor (TJxb160c k).2.2.1 = some (tyJxb160c k) := by decide +kernel
def RJ6 : String := "java/lang/Integer"
def TJ6 : u_T := fun k => match k with
  | _ => ("", "", "", false)
def tyJ6 : Nat → FieldType := fun k => match k with
  | _ => .int
abbrev wsJ60 : List Cond := u_ws RJ6 TJ6 0
theorem nmJ6 : ∀ a, a < 0 → ∀ b, b < 0 → a ≠ b → (TJ6 a).2.1 ≠ (TJ6 b).2.1 := by decide +kernel
theorem tyJ6_ok : ∀ k, k < 0 → parseFieldDescriptor (TJ6 k).2.2.1 = some (tyJ6 k) := by decide +kernel
abbrev cJ6_getChars_ba4f3 : ByteArray := prog_21_method_12_code
def yJ6_getChars_ba4f3 : MethodName := ⟨RJ6, "getChars", "(II[B)I"⟩
abbrev cJ6_stringSize_0f7a4 : ByteArray := prog_21_method_13_code
def yJ6_stringSize_0f7a4 : MethodName := ⟨RJ6, "stringSize", "(I)I"⟩
abbrev cJ6_numberOfTrailingZeros_0f7a4 : ByteArray := prog_21_method_48_code
def yJ6_numberOfTrailingZeros_0f7a4 : MethodName := ⟨RJ6, "numberOfTrailingZeros", "(I)I"⟩
abbrev cJ6_bitCount_0f7a4 : ByteArray := prog_21_method_49_code
def yJ6_bitCount_0f7a4 : MethodName := ⟨RJ6, "bitCount", "(I)I"⟩
def RJxab1ab : String := "java/lang/Iterable"
def TJxab1ab : u_T := fun k => match k with
  | _ => ("", "", "", false)
def tyJxab1ab : Nat → FieldType := fun k => match k with
  | _ => .int
abbrev wsJxab1ab0 : List Cond := u_ws RJxab1ab TJxab1ab 0
theorem nmJxab1ab : ∀ a, a < 0 → ∀ b, b < 0 → a ≠ b → (TJxab1ab a).2.1 ≠ (TJxab1ab b).2.1 := by decide +kernel
theorem tyJxab1ab_ok : ∀ k, k < 0 → parseFieldDescriptor (TJxab1ab k).2.2.1 = some (tyJxab1ab k) := by decide +kernel
def RJ9 : String := "java/lang/Math"
def TJ9 : u_T := fun k => match k with
  | _ => ("", "", "", false)
def tyJ9 : Nat → FieldType := fun k => match k with
  | _ => .int
abbrev wsJ90 : List Cond := u_ws RJ9 TJ9 0
theorem nmJ9 : ∀ a, a < 0 → ∀ b, b < 0 → a ≠ b → (TJ9 a).2.1 ≠ (TJ9 b).2.1 := by decide +kernel
theorem tyJ9_ok : ∀ k, k < 0 → parseFieldDescriptor (TJ9 k).2.2.1 = some (tyJ9 k) := by decide +kernel
abbrev cJ9_max_7cf53 : ByteArray := prog_23_method_65_code
def yJ9_max_7cf53 : MethodName := ⟨RJ9, "max", "(II)I"⟩
abbrev cJ9_min_7cf53 : ByteArray := prog_23_method_69_code
def yJ9_min_7cf53 : MethodName := ⟨RJ9, "min", "(II)I"⟩
def RJxd2413 : String := "java/lang/Number"
def TJxd2413 : u_T := fun k => match k with
  | _ => ("", "", "", false)
def tyJxd2413 : Nat → FieldType := fun k => match k with
  | _ => .int
abbrev wsJxd24130 : List Cond := u_ws RJxd2413 TJxd2413 0
theorem nmJxd2413 : ∀ a, a < 0 → ∀ b, b < 0 → a ≠ b → (TJxd2413 a).2.1 ≠ (TJxd2413 b).2.1 := by decide +kernel
theorem tyJxd2413_ok : ∀ k, k < 0 → parseFieldDescriptor (TJxd2413 k).2.2.1 = some (tyJxd2413 k) := by decide +kernel
def RJ0 : String := "java/lang/String"
def TJ0 : u_T := fun k => match k with
  | 0 => ("java/lang/String", "value", "[B", true)
  | 1 => ("java/lang/String", "coder", "B", true)
  | 2 => ("java/lang/String", "hash", "I", false)
  | _ => ("java/lang/String", "hashIsZero", "Z", false)
def tyJ0 : Nat → FieldType := fun k => match k with
  | 0 => .array .byte
  | 1 => .byte
  | 2 => .int
  | _ => .boolean
abbrev wsJ00 : List Cond := u_ws RJ0 TJ0 4
theorem nmJ0 : ∀ a, a < 4 → ∀ b, b < 4 → a ≠ b → (TJ0 a).2.1 ≠ (TJ0 b).2.1 := by decide +kernel
theorem tyJ0_ok : ∀ k, k < 4 → parseFieldDescriptor (TJ0 k).2.2.1 = some (tyJ0 k) := by decide +kernel
abbrev cJ0_init_81219 : ByteArray := prog_26_method_53_code
def yJ0_init_81219 : MethodName := ⟨RJ0, "<init>", "(Ljava/lang/StringBuilder;)V"⟩
abbrev cJ0_length_8abf5 : ByteArray := prog_26_method_54_code
def yJ0_length_8abf5 : MethodName := ⟨RJ0, "length", "()I"⟩
abbrev cJ0_getBytes_840e7 : ByteArray := prog_26_method_147_code
def yJ0_getBytes_840e7 : MethodName := ⟨RJ0, "getBytes", "([BIB)V"⟩
abbrev cJ0_init_db425 : ByteArray := prog_26_method_150_code
def yJ0_init_db425 : MethodName := ⟨RJ0, "<init>", "(Ljava/lang/AbstractStringBuilder;Ljava/lang/Void;)V"⟩
abbrev cJ0_coder_7d493 : ByteArray := prog_26_method_152_code
def yJ0_coder_7d493 : MethodName := ⟨RJ0, "coder", "()B"⟩
abbrev cJ0_checkIndex_df160 : ByteArray := prog_26_method_155_code
def yJ0_checkIndex_df160 : MethodName := ⟨RJ0, "checkIndex", "(II)V"⟩
abbrev cJ0_checkBoundsOffCount_cabcc : ByteArray := prog_26_method_157_code
def yJ0_checkBoundsOffCount_cabcc : MethodName := ⟨RJ0, "checkBoundsOffCount", "(III)I"⟩
abbrev cJ0_checkBoundsBeginEnd_23922 : ByteArray := prog_26_method_158_code
def yJ0_checkBoundsBeginEnd_23922 : MethodName := ⟨RJ0, "checkBoundsBeginEnd", "(III)V"⟩
def RJ4 : String := "java/lang/StringBuilder"
def TJ4 : u_T := fun k => match k with
  | 0 => ("java/lang/AbstractStringBuilder", "value", "[B", false)
  | 1 => ("java/lang/AbstractStringBuilder", "coder", "B", false)
  | 2 => ("java/lang/AbstractStringBuilder", "maybeLatin1", "Z", false)
  | _ => ("java/lang/AbstractStringBuilder", "count", "I", false)
def tyJ4 : Nat → FieldType := fun k => match k with
  | 0 => .array .byte
  | 1 => .byte
  | 2 => .boolean
  | _ => .int
abbrev wsJ40 : List Cond := u_ws RJ4 TJ4 4
theorem nmJ4 : ∀ a, a < 4 → ∀ b, b < 4 → a ≠ b → (TJ4 a).2.1 ≠ (TJ4 b).2.1 := by decide +kernel
theorem tyJ4_ok : ∀ k, k < 4 → parseFieldDescriptor (TJ4 k).2.2.1 = some (tyJ4 k) := by decide +kernel
abbrev cJ4_init_da8c8 : ByteArray := prog_27_method_1_code
def yJ4_init_da8c8 : MethodName := ⟨RJ4, "<init>", "()V"⟩
abbrev cJ4_init_a7421 : ByteArray := prog_27_method_3_code
def yJ4_init_a7421 : MethodName := ⟨RJ4, "<init>", "(Ljava/lang/String;)V"⟩
abbrev cJ4_append_15ec4 : ByteArray := prog_27_method_7_code
def yJ4_append_15ec4 : MethodName := ⟨RJ4, "append", "(Ljava/lang/String;)Ljava/lang/StringBuilder;"⟩
abbrev cJ4_append_cf468 : ByteArray := prog_27_method_14_code
def yJ4_append_cf468 : MethodName := ⟨RJ4, "append", "(C)Ljava/lang/StringBuilder;"⟩
abbrev cJ4_append_bf812 : ByteArray := prog_27_method_15_code
def yJ4_append_bf812 : MethodName := ⟨RJ4, "append", "(I)Ljava/lang/StringBuilder;"⟩
abbrev cJ4_toString_0e30d : ByteArray := prog_27_method_42_code
def yJ4_toString_0e30d : MethodName := ⟨RJ4, "toString", "()Ljava/lang/String;"⟩
abbrev cJ4_append_cf1ce : ByteArray := prog_27_method_80_code
def yJ4_append_cf1ce : MethodName := ⟨RJ4, "append", "(Ljava/lang/String;)Ljava/lang/AbstractStringBuilder;"⟩
abbrev cJ4_length_8abf5 : ByteArray := prog_27_method_93_code
def yJ4_length_8abf5 : MethodName := ⟨RJ4, "length", "()I"⟩
def RJ1 : String := "java/lang/StringLatin1"
def TJ1 : u_T := fun k => match k with
  | _ => ("", "", "", false)
def tyJ1 : Nat → FieldType := fun k => match k with
  | _ => .int
abbrev wsJ10 : List Cond := u_ws RJ1 TJ1 0
theorem nmJ1 : ∀ a, a < 0 → ∀ b, b < 0 → a ≠ b → (TJ1 a).2.1 ≠ (TJ1 b).2.1 := by decide +kernel
theorem tyJ1_ok : ∀ k, k < 0 → parseFieldDescriptor (TJ1 k).2.2.1 = some (tyJ1 k) := by decide +kernel
abbrev cJ1_canEncode_fc78d : ByteArray := prog_28_method_3_code
def yJ1_canEncode_fc78d : MethodName := ⟨RJ1, "canEncode", "(C)Z"⟩
abbrev cJ1_inflate_0e8fd : ByteArray := prog_28_method_50_code
def yJ1_inflate_0e8fd : MethodName := ⟨RJ1, "inflate", "([BI[BII)V"⟩
def RJ2 : String := "java/lang/StringUTF16"
def TJ2 : u_T := fun k => match k with
  | _ => ("", "", "", false)
def tyJ2 : Nat → FieldType := fun k => match k with
  | _ => .int
abbrev wsJ20 : List Cond := u_ws RJ2 TJ2 0
theorem nmJ2 : ∀ a, a < 0 → ∀ b, b < 0 → a ≠ b → (TJ2 a).2.1 ≠ (TJ2 b).2.1 := by decide +kernel
theorem tyJ2_ok : ∀ k, k < 0 → parseFieldDescriptor (TJ2 k).2.2.1 = some (tyJ2 k) := by decide +kernel
abbrev cJ2_newBytesFor_77867 : ByteArray := prog_29_method_2_code
def yJ2_newBytesFor_77867 : MethodName := ⟨RJ2, "newBytesFor", "(I)[B"⟩
abbrev cJ2_newBytesLength_0f7a4 : ByteArray := prog_29_method_3_code
def yJ2_newBytesLength_0f7a4 : MethodName := ⟨RJ2, "newBytesLength", "(I)I"⟩
abbrev cJ2_putChar_b72d1 : ByteArray := prog_29_method_4_code
def yJ2_putChar_b72d1 : MethodName := ⟨RJ2, "putChar", "([BII)V"⟩
abbrev cJ2_getChar_3b067 : ByteArray := prog_29_method_5_code
def yJ2_getChar_3b067 : MethodName := ⟨RJ2, "getChar", "([BI)C"⟩
abbrev cJ2_length_9d52b : ByteArray := prog_29_method_6_code
def yJ2_length_9d52b : MethodName := ⟨RJ2, "length", "([B)I"⟩
abbrev cJ2_coderFromArrayLen_85cad : ByteArray := prog_29_method_15_code
def yJ2_coderFromArrayLen_85cad : MethodName := ⟨RJ2, "coderFromArrayLen", "([BI)B"⟩
abbrev cJ2_compress_39247 : ByteArray := prog_29_method_17_code
def yJ2_compress_39247 : MethodName := ⟨RJ2, "compress", "([BII)[B"⟩
abbrev cJ2_compress_5af95 : ByteArray := prog_29_method_22_code
def yJ2_compress_5af95 : MethodName := ⟨RJ2, "compress", "([BI[BII)I"⟩
abbrev cJ2_putCharSB_b72d1 : ByteArray := prog_29_method_71_code
def yJ2_putCharSB_b72d1 : MethodName := ⟨RJ2, "putCharSB", "([BII)V"⟩
abbrev cJ2_getChars_46870 : ByteArray := prog_29_method_77_code
def yJ2_getChars_46870 : MethodName := ⟨RJ2, "getChars", "(III[B)I"⟩
abbrev cJ2_putCharsAt_cd4e5 : ByteArray := prog_29_method_81_code
def yJ2_putCharsAt_cd4e5 : MethodName := ⟨RJ2, "putCharsAt", "([BICCCC)I"⟩
abbrev cJ2_inflate_0e8fd : ByteArray := prog_29_method_86_code
def yJ2_inflate_0e8fd : MethodName := ⟨RJ2, "inflate", "([BI[BII)V"⟩
abbrev cJ2_getChars_ba4f3 : ByteArray := prog_29_method_89_code
def yJ2_getChars_ba4f3 : MethodName := ⟨RJ2, "getChars", "(II[B)I"⟩
abbrev cJ2_checkIndex_2214a : ByteArray := prog_29_method_91_code
def yJ2_checkIndex_2214a : MethodName := ⟨RJ2, "checkIndex", "(I[B)V"⟩
abbrev cJ2_checkBoundsBeginEnd_d044e : ByteArray := prog_29_method_93_code
def yJ2_checkBoundsBeginEnd_d044e : MethodName := ⟨RJ2, "checkBoundsBeginEnd", "(II[B)V"⟩
abbrev cJ2_checkBoundsOffCount_d044e : ByteArray := prog_29_method_94_code
def yJ2_checkBoundsOffCount_d044e : MethodName := ⟨RJ2, "checkBoundsOffCount", "(II[B)V"⟩
def RJ10 : String := "java/lang/System"
def TJ10 : u_T := fun k => match k with
  | _ => ("", "", "", false)
def tyJ10 : Nat → FieldType := fun k => match k with
  | _ => .int
abbrev wsJ100 : List Cond := u_ws RJ10 TJ10 0
theorem nmJ10 : ∀ a, a < 0 → ∀ b, b < 0 → a ≠ b → (TJ10 a).2.1 ≠ (TJ10 b).2.1 := by decide +kernel
theorem tyJ10_ok : ∀ k, k < 0 → parseFieldDescriptor (TJ10 k).2.2.1 = some (tyJ10 k) := by decide +kernel
def RJxfd54e : String := "java/lang/constant/Constable"
def TJxfd54e : u_T := fun k => match k with
  | _ => ("", "", "", false)
def tyJxfd54e : Nat → FieldType := fun k => match k with
  | _ => .int
abbrev wsJxfd54e0 : List Cond := u_ws RJxfd54e TJxfd54e 0
theorem nmJxfd54e : ∀ a, a < 0 → ∀ b, b < 0 → a ≠ b → (TJxfd54e a).2.1 ≠ (TJxfd54e b).2.1 := by decide +kernel
theorem tyJxfd54e_ok : ∀ k, k < 0 → parseFieldDescriptor (TJxfd54e k).2.2.1 = some (tyJxfd54e k) := by decide +kernel
def RJx3cf43 : String := "java/lang/constant/ConstantDesc"
def TJx3cf43 : u_T := fun k => match k with
  | _ => ("", "", "", false)
def tyJx3cf43 : Nat → FieldType := fun k => match k with
  | _ => .int
abbrev wsJx3cf430 : List Cond := u_ws RJx3cf43 TJx3cf43 0
theorem nmJx3cf43 : ∀ a, a < 0 → ∀ b, b < 0 → a ≠ b → (TJx3cf43 a).2.1 ≠ (TJx3cf43 b).2.1 := by decide +kernel
theorem tyJx3cf43_ok : ∀ k, k < 0 → parseFieldDescriptor (TJx3cf43 k).2.2.1 = some (tyJx3cf43 k) := by decide +kernel
def RJxa1e45 : String := "java/util/AbstractCollection"
def TJxa1e45 : u_T := fun k => match k with
  | _ => ("", "", "", false)
def tyJxa1e45 : Nat → FieldType := fun k => match k with
  | _ => .int
abbrev wsJxa1e450 : List Cond := u_ws RJxa1e45 TJxa1e45 0
theorem nmJxa1e45 : ∀ a, a < 0 → ∀ b, b < 0 → a ≠ b → (TJxa1e45 a).2.1 ≠ (TJxa1e45 b).2.1 := by decide +kernel
theorem tyJxa1e45_ok : ∀ k, k < 0 → parseFieldDescriptor (TJxa1e45 k).2.2.1 = some (tyJxa1e45 k) := by decide +kernel
abbrev cJxa1e45_init_da8c8 : ByteArray := prog_34_method_1_code
def yJxa1e45_init_da8c8 : MethodName := ⟨RJxa1e45, "<init>", "()V"⟩
def RJxc12de : String := "java/util/AbstractList"
def TJxc12de : u_T := fun k => match k with
  | _ => ("", "", "", false)
def tyJxc12de : Nat → FieldType := fun k => match k with
  | _ => .int
abbrev wsJxc12de0 : List Cond := u_ws RJxc12de TJxc12de 0
theorem nmJxc12de : ∀ a, a < 0 → ∀ b, b < 0 → a ≠ b → (TJxc12de a).2.1 ≠ (TJxc12de b).2.1 := by decide +kernel
theorem tyJxc12de_ok : ∀ k, k < 0 → parseFieldDescriptor (TJxc12de k).2.2.1 = some (tyJxc12de k) := by decide +kernel
abbrev cJxc12de_init_da8c8 : ByteArray := prog_35_method_1_code
def yJxc12de_init_da8c8 : MethodName := ⟨RJxc12de, "<init>", "()V"⟩
def RJx35411 : String := "java/util/ArrayList$Itr"
def TJx35411 : u_T := fun k => match k with
  | 0 => ("java/util/ArrayList$Itr", "cursor", "I", false)
  | 1 => ("java/util/ArrayList$Itr", "lastRet", "I", false)
  | 2 => ("java/util/ArrayList$Itr", "expectedModCount", "I", false)
  | _ => ("java/util/ArrayList$Itr", "this$0", "Ljava/util/ArrayList;", true)
def tyJx35411 : Nat → FieldType := fun k => match k with
  | 0 => .int
  | 1 => .int
  | 2 => .int
  | _ => .object "java/util/ArrayList"
abbrev wsJx354110 : List Cond := u_ws RJx35411 TJx35411 4
theorem nmJx35411 : ∀ a, a < 4 → ∀ b, b < 4 → a ≠ b → (TJx35411 a).2.1 ≠ (TJx35411 b).2.1 := by decide +kernel
theorem tyJx35411_ok : ∀ k, k < 4 → parseFieldDescriptor (TJx35411 k).2.2.1 = some (tyJx35411 k) := by decide +kernel
abbrev cJx35411_init_45d68 : ByteArray := prog_37_method_1_code
def yJx35411_init_45d68 : MethodName := ⟨RJx35411, "<init>", "(Ljava/util/ArrayList;)V"⟩
abbrev cJx35411_hasNext_aae02 : ByteArray := prog_37_method_2_code
def yJx35411_hasNext_aae02 : MethodName := ⟨RJx35411, "hasNext", "()Z"⟩
abbrev cJx35411_next_0502b : ByteArray := prog_37_method_3_code
def yJx35411_next_0502b : MethodName := ⟨RJx35411, "next", "()Ljava/lang/Object;"⟩
abbrev cJx35411_checkForComodification_da8c8 : ByteArray := prog_37_method_6_code
def yJx35411_checkForComodification_da8c8 : MethodName := ⟨RJx35411, "checkForComodification", "()V"⟩
def RJx4a65c : String := "java/util/ArrayList"
def TJx4a65c : u_T := fun k => match k with
  | 0 => ("java/util/AbstractList", "modCount", "I", false)
  | 1 => ("java/util/ArrayList", "elementData", "[Ljava/lang/Object;", false)
  | _ => ("java/util/ArrayList", "size", "I", false)
def tyJx4a65c : Nat → FieldType := fun k => match k with
  | 0 => .int
  | 1 => .array (.object "java/lang/Object")
  | _ => .int
abbrev wsJx4a65c0 : List Cond := u_ws RJx4a65c TJx4a65c 3
theorem nmJx4a65c : ∀ a, a < 3 → ∀ b, b < 3 → a ≠ b → (TJx4a65c a).2.1 ≠ (TJx4a65c b).2.1 := by decide +kernel
theorem tyJx4a65c_ok : ∀ k, k < 3 → parseFieldDescriptor (TJx4a65c k).2.2.1 = some (tyJx4a65c k) := by decide +kernel
abbrev cJx4a65c_init_da8c8 : ByteArray := prog_36_method_2_code
def yJx4a65c_init_da8c8 : MethodName := ⟨RJx4a65c, "<init>", "()V"⟩
abbrev cJx4a65c_grow_92f84 : ByteArray := prog_36_method_6_code
def yJx4a65c_grow_92f84 : MethodName := ⟨RJx4a65c, "grow", "(I)[Ljava/lang/Object;"⟩
abbrev cJx4a65c_grow_d5877 : ByteArray := prog_36_method_7_code
def yJx4a65c_grow_d5877 : MethodName := ⟨RJx4a65c, "grow", "()[Ljava/lang/Object;"⟩
abbrev cJx4a65c_size_8abf5 : ByteArray := prog_36_method_8_code
def yJx4a65c_size_8abf5 : MethodName := ⟨RJx4a65c, "size", "()I"⟩
abbrev cJx4a65c_elementData_915e3 : ByteArray := prog_36_method_18_code
def yJx4a65c_elementData_915e3 : MethodName := ⟨RJx4a65c, "elementData", "(I)Ljava/lang/Object;"⟩
abbrev cJx4a65c_get_915e3 : ByteArray := prog_36_method_20_code
def yJx4a65c_get_915e3 : MethodName := ⟨RJx4a65c, "get", "(I)Ljava/lang/Object;"⟩
abbrev cJx4a65c_add_72be8 : ByteArray := prog_36_method_24_code
def yJx4a65c_add_72be8 : MethodName := ⟨RJx4a65c, "add", "(Ljava/lang/Object;[Ljava/lang/Object;I)V"⟩
abbrev cJx4a65c_add_9ea2d : ByteArray := prog_36_method_25_code
def yJx4a65c_add_9ea2d : MethodName := ⟨RJx4a65c, "add", "(Ljava/lang/Object;)Z"⟩
abbrev cJx4a65c_iterator_32c93 : ByteArray := prog_36_method_55_code
def yJx4a65c_iterator_32c93 : MethodName := ⟨RJx4a65c, "iterator", "()Ljava/util/Iterator;"⟩
def RJ7 : String := "java/util/Arrays"
def TJ7 : u_T := fun k => match k with
  | _ => ("", "", "", false)
def tyJ7 : Nat → FieldType := fun k => match k with
  | _ => .int
abbrev wsJ70 : List Cond := u_ws RJ7 TJ7 0
theorem nmJ7 : ∀ a, a < 0 → ∀ b, b < 0 → a ≠ b → (TJ7 a).2.1 ≠ (TJ7 b).2.1 := by decide +kernel
theorem tyJ7_ok : ∀ k, k < 0 → parseFieldDescriptor (TJ7 k).2.2.1 = some (tyJ7 k) := by decide +kernel
abbrev cJ7_fill_53178 : ByteArray := prog_38_method_103_code
def yJ7_fill_53178 : MethodName := ⟨RJ7, "fill", "([II)V"⟩
abbrev cJ7_copyOf_1904c : ByteArray := prog_38_method_119_code
def yJ7_copyOf_1904c : MethodName := ⟨RJ7, "copyOf", "([Ljava/lang/Object;I)[Ljava/lang/Object;"⟩
abbrev cJ7_copyOf_6403c : ByteArray := prog_38_method_120_code
def yJ7_copyOf_6403c : MethodName := ⟨RJ7, "copyOf", "([Ljava/lang/Object;ILjava/lang/Class;)[Ljava/lang/Object;"⟩
abbrev cJ7_copyOf_9075b : ByteArray := prog_38_method_121_code
def yJ7_copyOf_9075b : MethodName := ⟨RJ7, "copyOf", "([BI)[B"⟩
abbrev cJ7_checkLength_df160 : ByteArray := prog_38_method_131_code
def yJ7_checkLength_df160 : MethodName := ⟨RJ7, "checkLength", "(II)V"⟩
abbrev cJ7_copyOfRange_39247 : ByteArray := prog_38_method_132_code
def yJ7_copyOfRange_39247 : MethodName := ⟨RJ7, "copyOfRange", "([BII)[B"⟩
abbrev cJ7_copyOfRangeByte_39247 : ByteArray := prog_38_method_133_code
def yJ7_copyOfRangeByte_39247 : MethodName := ⟨RJ7, "copyOfRangeByte", "([BII)[B"⟩
def RJx5ef63 : String := "java/util/Collection"
def TJx5ef63 : u_T := fun k => match k with
  | _ => ("", "", "", false)
def tyJx5ef63 : Nat → FieldType := fun k => match k with
  | _ => .int
abbrev wsJx5ef630 : List Cond := u_ws RJx5ef63 TJx5ef63 0
theorem nmJx5ef63 : ∀ a, a < 0 → ∀ b, b < 0 → a ≠ b → (TJx5ef63 a).2.1 ≠ (TJx5ef63 b).2.1 := by decide +kernel
theorem tyJx5ef63_ok : ∀ k, k < 0 → parseFieldDescriptor (TJx5ef63 k).2.2.1 = some (tyJx5ef63 k) := by decide +kernel
def RJx4d0d8 : String := "java/util/Iterator"
def TJx4d0d8 : u_T := fun k => match k with
  | _ => ("", "", "", false)
def tyJx4d0d8 : Nat → FieldType := fun k => match k with
  | _ => .int
abbrev wsJx4d0d80 : List Cond := u_ws RJx4d0d8 TJx4d0d8 0
theorem nmJx4d0d8 : ∀ a, a < 0 → ∀ b, b < 0 → a ≠ b → (TJx4d0d8 a).2.1 ≠ (TJx4d0d8 b).2.1 := by decide +kernel
theorem tyJx4d0d8_ok : ∀ k, k < 0 → parseFieldDescriptor (TJx4d0d8 k).2.2.1 = some (tyJx4d0d8 k) := by decide +kernel
def RJxbd725 : String := "java/util/List"
def TJxbd725 : u_T := fun k => match k with
  | _ => ("", "", "", false)
def tyJxbd725 : Nat → FieldType := fun k => match k with
  | _ => .int
abbrev wsJxbd7250 : List Cond := u_ws RJxbd725 TJxbd725 0
theorem nmJxbd725 : ∀ a, a < 0 → ∀ b, b < 0 → a ≠ b → (TJxbd725 a).2.1 ≠ (TJxbd725 b).2.1 := by decide +kernel
theorem tyJxbd725_ok : ∀ k, k < 0 → parseFieldDescriptor (TJxbd725 k).2.2.1 = some (tyJxbd725 k) := by decide +kernel
def RJ15 : String := "java/util/Objects"
def TJ15 : u_T := fun k => match k with
  | _ => ("", "", "", false)
def tyJ15 : Nat → FieldType := fun k => match k with
  | _ => .int
abbrev wsJ150 : List Cond := u_ws RJ15 TJ15 0
theorem nmJ15 : ∀ a, a < 0 → ∀ b, b < 0 → a ≠ b → (TJ15 a).2.1 ≠ (TJ15 b).2.1 := by decide +kernel
theorem tyJ15_ok : ∀ k, k < 0 → parseFieldDescriptor (TJ15 k).2.2.1 = some (tyJ15 k) := by decide +kernel
abbrev cJ15_checkIndex_7cf53 : ByteArray := prog_42_method_17_code
def yJ15_checkIndex_7cf53 : MethodName := ⟨RJ15, "checkIndex", "(II)I"⟩
def RJxf0a74 : String := "java/util/RandomAccess"
def TJxf0a74 : u_T := fun k => match k with
  | _ => ("", "", "", false)
def tyJxf0a74 : Nat → FieldType := fun k => match k with
  | _ => .int
abbrev wsJxf0a740 : List Cond := u_ws RJxf0a74 TJxf0a74 0
theorem nmJxf0a74 : ∀ a, a < 0 → ∀ b, b < 0 → a ≠ b → (TJxf0a74 a).2.1 ≠ (TJxf0a74 b).2.1 := by decide +kernel
theorem tyJxf0a74_ok : ∀ k, k < 0 → parseFieldDescriptor (TJxf0a74 k).2.2.1 = some (tyJxf0a74 k) := by decide +kernel
def RJxa66e6 : String := "java/util/SequencedCollection"
def TJxa66e6 : u_T := fun k => match k with
  | _ => ("", "", "", false)
def tyJxa66e6 : Nat → FieldType := fun k => match k with
  | _ => .int
abbrev wsJxa66e60 : List Cond := u_ws RJxa66e6 TJxa66e6 0
theorem nmJxa66e6 : ∀ a, a < 0 → ∀ b, b < 0 → a ≠ b → (TJxa66e6 a).2.1 ≠ (TJxa66e6 b).2.1 := by decide +kernel
theorem tyJxa66e6_ok : ∀ k, k < 0 → parseFieldDescriptor (TJxa66e6 k).2.2.1 = some (tyJxa66e6 k) := by decide +kernel
def RJ8 : String := "jdk/internal/util/ArraysSupport"
def TJ8 : u_T := fun k => match k with
  | _ => ("", "", "", false)
def tyJ8 : Nat → FieldType := fun k => match k with
  | _ => .int
abbrev wsJ80 : List Cond := u_ws RJ8 TJ8 0
theorem nmJ8 : ∀ a, a < 0 → ∀ b, b < 0 → a ≠ b → (TJ8 a).2.1 ≠ (TJ8 b).2.1 := by decide +kernel
theorem tyJ8_ok : ∀ k, k < 0 → parseFieldDescriptor (TJ8 k).2.2.1 = some (tyJ8 k) := by decide +kernel
abbrev cJ8_newLength_cabcc : ByteArray := prog_45_method_27_code
def yJ8_newLength_cabcc : MethodName := ⟨RJ8, "newLength", "(III)I"⟩
abbrev cJ8_hugeLength_7cf53 : ByteArray := prog_45_method_28_code
def yJ8_hugeLength_7cf53 : MethodName := ⟨RJ8, "hugeLength", "(II)I"⟩
def RJ3 : String := "jdk/internal/util/Preconditions"
def TJ3 : u_T := fun k => match k with
  | _ => ("", "", "", false)
def tyJ3 : Nat → FieldType := fun k => match k with
  | _ => .int
abbrev wsJ30 : List Cond := u_ws RJ3 TJ3 0
theorem nmJ3 : ∀ a, a < 0 → ∀ b, b < 0 → a ≠ b → (TJ3 a).2.1 ≠ (TJ3 b).2.1 := by decide +kernel
theorem tyJ3_ok : ∀ k, k < 0 → parseFieldDescriptor (TJ3 k).2.2.1 = some (tyJ3 k) := by decide +kernel
abbrev cJ3_checkIndex_8e157 : ByteArray := prog_46_method_11_code
def yJ3_checkIndex_8e157 : MethodName := ⟨RJ3, "checkIndex", "(IILjava/util/function/BiFunction;)I"⟩
abbrev cJ3_checkFromToIndex_8c36e : ByteArray := prog_46_method_12_code
def yJ3_checkFromToIndex_8c36e : MethodName := ⟨RJ3, "checkFromToIndex", "(IIILjava/util/function/BiFunction;)I"⟩
abbrev cJ3_checkFromIndexSize_8c36e : ByteArray := prog_46_method_13_code
def yJ3_checkFromIndexSize_8c36e : MethodName := ⟨RJ3, "checkFromIndexSize", "(IIILjava/util/function/BiFunction;)I"⟩
def RL : String := "MeetjoinLaw"
abbrev cL_field : ByteArray := method_2_code
abbrev cL_oneOf : ByteArray := method_3_code
abbrev cL_bound : ByteArray := method_4_code
abbrev cL_more : ByteArray := method_5_code
abbrev cL_unlike : ByteArray := method_6_code
abbrev cL_preset : ByteArray := method_7_code
abbrev cL_approve : ByteArray := method_8_code
abbrev cL_withdraw : ByteArray := method_9_code
abbrev cL_weight : ByteArray := method_10_code
abbrev cL_commit : ByteArray := method_11_code
abbrev cL_wave : ByteArray := method_12_code
abbrev cL_patch : ByteArray := method_13_code
abbrev cL_absorb : ByteArray := method_14_code
abbrev cL_ofField : ByteArray := method_15_code
abbrev cL_ofLine : ByteArray := method_16_code
abbrev cL_ofMachine : ByteArray := method_17_code
abbrev cL_has : ByteArray := method_18_code
abbrev cL_ofCommit : ByteArray := method_19_code
abbrev cL_house : ByteArray := method_20_code
abbrev cL_value : ByteArray := method_21_code
abbrev cL_reason : ByteArray := method_22_code
abbrev cL_met : ByteArray := method_23_code
abbrev cL_choices : ByteArray := method_24_code
abbrev cL_isNarrower : ByteArray := method_25_code
abbrev vwCl : List vw_C := [(RJ0, TJ0, 4), (RJ4, TJ4, 4), (RJx35411, TJx35411, 4), (RJx4a65c, TJx4a65c, 3), (RX0, TX0, 7), (RX1, TX1, 4), (RX2, TX2, 11), (RX3, TX3, 3), (RX4, TX4, 7), (RX5, TX5, 4), (RX6, TX6, 2), (RX7, TX7, 7), (RX8, TX8, 15)]
