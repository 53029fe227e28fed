def RX0 : String := "Meetjoin$Chooser"
def TX0 : u_T := fun k => match k with
  | 0 => ("Meetjoin$Chooser", "laws", "LMeetjoin$Laws;", true)
  | 1 => ("Meetjoin$Chooser", "from", "[I", true)
  | 2 => ("Meetjoin$Chooser", "chosen", "[I", true)
  | 3 => ("Meetjoin$Chooser", "best", "[I", true)
  | 4 => ("Meetjoin$Chooser", "bestCost", "I", false)
  | 5 => ("Meetjoin$Chooser", "lines", "I", false)
  | _ => ("Meetjoin$Chooser", "found", "I", false)
def tyX0 : Nat → FieldType := fun k => match k with
  | 0 => .object "Meetjoin$Laws"
  | 1 => .array .int
  | 2 => .array .int
  | 3 => .array .int
  | 4 => .int
  | 5 => .int
  | _ => .int
abbrev wsX00 : List Cond := u_ws RX0 TX0 7
theorem nmX0 : ∀ a, a < 7 → ∀ b, b < 7 → a ≠ b → (TX0 a).2.1 ≠ (TX0 b).2.1 := by decide +kernel
theorem tyX0_ok : ∀ k, k < 7 → parseFieldDescriptor (TX0 k).2.2.1 = some (tyX0 k) := by decide +kernel
abbrev cX0_init : ByteArray := prog_2_method_1_code
def yX0_init : MethodName := ⟨RX0, "<init>", "(LMeetjoin$Laws;)V"⟩
abbrev cX0_findBest : ByteArray := prog_2_method_2_code
def yX0_findBest : MethodName := ⟨RX0, "findBest", "(LMeetjoin$Meeting;I)V"⟩
abbrev cX0_chooseFrom : ByteArray := prog_2_method_4_code
def yX0_chooseFrom : MethodName := ⟨RX0, "chooseFrom", "(LMeetjoin$Chooser;II)V"⟩
abbrev cX0_fittingAt : ByteArray := prog_2_method_6_code
def yX0_fittingAt : MethodName := ⟨RX0, "fittingAt", "(I)I"⟩
def RX1 : String := "Meetjoin$Fleet"
def TX1 : u_T := fun k => match k with
  | 0 => ("Meetjoin$Fleet", "kept", "[[I", true)
  | 1 => ("Meetjoin$Fleet", "had", "[[I", true)
  | 2 => ("Meetjoin$Fleet", "commitOf", "[I", true)
  | _ => ("Meetjoin$Fleet", "commits", "I", false)
def tyX1 : Nat → FieldType := fun k => match k with
  | 0 => .array (.array .int)
  | 1 => .array (.array .int)
  | 2 => .array .int
  | _ => .int
abbrev wsX10 : List Cond := u_ws RX1 TX1 4
theorem nmX1 : ∀ a, a < 4 → ∀ b, b < 4 → a ≠ b → (TX1 a).2.1 ≠ (TX1 b).2.1 := by decide +kernel
theorem tyX1_ok : ∀ k, k < 4 → parseFieldDescriptor (TX1 k).2.2.1 = some (tyX1 k) := by decide +kernel
abbrev cX1_init : ByteArray := prog_3_method_1_code
def yX1_init : MethodName := ⟨RX1, "<init>", "()V"⟩
abbrev cX1_keep : ByteArray := prog_3_method_2_code
def yX1_keep : MethodName := ⟨RX1, "keep", "([I)I"⟩
abbrev cX1_bring : ByteArray := prog_3_method_3_code
def yX1_bring : MethodName := ⟨RX1, "bring", "(II)Z"⟩
abbrev cX1_drifts : ByteArray := prog_3_method_4_code
def yX1_drifts : MethodName := ⟨RX1, "drifts", "(II)Z"⟩
abbrev cX1_drifting : ByteArray := prog_3_method_5_code
def yX1_drifting : MethodName := ⟨RX1, "drifting", "(I)I"⟩
abbrev cX1_driftingMachines : ByteArray := prog_3_method_6_code
def yX1_driftingMachines : MethodName := ⟨RX1, "driftingMachines", "()I"⟩
abbrev cX1_find : ByteArray := prog_3_method_7_code
def yX1_find : MethodName := ⟨RX1, "find", "(I)I"⟩
def RX2 : String := "Meetjoin$Laws"
def TX2 : u_T := fun k => match k with
  | 0 => ("Meetjoin$Laws", "team", "[I", true)
  | 1 => ("Meetjoin$Laws", "weight", "[I", true)
  | 2 => ("Meetjoin$Laws", "kind", "[I", true)
  | 3 => ("Meetjoin$Laws", "by", "[I", true)
  | 4 => ("Meetjoin$Laws", "about", "[I", true)
  | 5 => ("Meetjoin$Laws", "said", "[I", true)
  | 6 => ("Meetjoin$Laws", "besides", "[I", true)
  | 7 => ("Meetjoin$Laws", "approved", "[Z", true)
  | 8 => ("Meetjoin$Laws", "withdrawn", "[Z", true)
  | 9 => ("Meetjoin$Laws", "fields", "I", false)
  | _ => ("Meetjoin$Laws", "lines", "I", false)
def tyX2 : Nat → FieldType := fun k => match k with
  | 0 => .array .int
  | 1 => .array .int
  | 2 => .array .int
  | 3 => .array .int
  | 4 => .array .int
  | 5 => .array .int
  | 6 => .array .int
  | 7 => .array .boolean
  | 8 => .array .boolean
  | 9 => .int
  | _ => .int
abbrev wsX20 : List Cond := u_ws RX2 TX2 11
theorem nmX2 : ∀ a, a < 11 → ∀ b, b < 11 → a ≠ b → (TX2 a).2.1 ≠ (TX2 b).2.1 := by decide +kernel
theorem tyX2_ok : ∀ k, k < 11 → parseFieldDescriptor (TX2 k).2.2.1 = some (tyX2 k) := by decide +kernel
abbrev cX2_init : ByteArray := prog_4_method_1_code
def yX2_init : MethodName := ⟨RX2, "<init>", "()V"⟩
abbrev cX2_makeField : ByteArray := prog_4_method_2_code
def yX2_makeField : MethodName := ⟨RX2, "makeField", "(I)I"⟩
abbrev cX2_makeLine : ByteArray := prog_4_method_3_code
def yX2_makeLine : MethodName := ⟨RX2, "makeLine", "(IIIII)I"⟩
abbrev cX2_counts : ByteArray := prog_4_method_4_code
def yX2_counts : MethodName := ⟨RX2, "counts", "(I)Z"⟩
abbrev cX2_countingLines : ByteArray := prog_4_method_5_code
def yX2_countingLines : MethodName := ⟨RX2, "countingLines", "()I"⟩
abbrev cX2_strictLines : ByteArray := prog_4_method_6_code
def yX2_strictLines : MethodName := ⟨RX2, "strictLines", "()I"⟩
abbrev cX2_defaultsOf : ByteArray := prog_4_method_7_code
def yX2_defaultsOf : MethodName := ⟨RX2, "defaultsOf", "(II)I"⟩
abbrev cX2_isOfTwo : ByteArray := prog_4_method_8_code
def yX2_isOfTwo : MethodName := ⟨RX2, "isOfTwo", "(I)Z"⟩
abbrev cX2_letsAlone : ByteArray := prog_4_method_9_code
def yX2_letsAlone : MethodName := ⟨RX2, "letsAlone", "(I)I"⟩
abbrev cX2_letsByOther : ByteArray := prog_4_method_10_code
def yX2_letsByOther : MethodName := ⟨RX2, "letsByOther", "(IZI)I"⟩
def RX3 : String := "Meetjoin$Meeting"
def TX3 : u_T := fun k => match k with
  | 0 => ("Meetjoin$Meeting", "laws", "LMeetjoin$Laws;", true)
  | 1 => ("Meetjoin$Meeting", "may", "[I", true)
  | _ => ("Meetjoin$Meeting", "isContradiction", "Z", false)
def tyX3 : Nat → FieldType := fun k => match k with
  | 0 => .object "Meetjoin$Laws"
  | 1 => .array .int
  | _ => .boolean
abbrev wsX30 : List Cond := u_ws RX3 TX3 3
theorem nmX3 : ∀ a, a < 3 → ∀ b, b < 3 → a ≠ b → (TX3 a).2.1 ≠ (TX3 b).2.1 := by decide +kernel
theorem tyX3_ok : ∀ k, k < 3 → parseFieldDescriptor (TX3 k).2.2.1 = some (tyX3 k) := by decide +kernel
abbrev cX3_init : ByteArray := prog_5_method_1_code
def yX3_init : MethodName := ⟨RX3, "<init>", "(LMeetjoin$Laws;)V"⟩
abbrev cX3_begin : ByteArray := prog_5_method_2_code
def yX3_begin : MethodName := ⟨RX3, "begin", "(I)V"⟩
abbrev cX3_copy : ByteArray := prog_5_method_3_code
def yX3_copy : MethodName := ⟨RX3, "copy", "(LMeetjoin$Meeting;)V"⟩
abbrev cX3_goOn : ByteArray := prog_5_method_4_code
def yX3_goOn : MethodName := ⟨RX3, "goOn", "(I)V"⟩
abbrev cX3_takesAway : ByteArray := prog_5_method_5_code
def yX3_takesAway : MethodName := ⟨RX3, "takesAway", "(I)Z"⟩
def RX4 : String := "Meetjoin$Outlook"
def TX4 : u_T := fun k => match k with
  | 0 => ("Meetjoin$Outlook", "laws", "LMeetjoin$Laws;", true)
  | 1 => ("Meetjoin$Outlook", "all", "LMeetjoin$Meeting;", true)
  | 2 => ("Meetjoin$Outlook", "trial", "LMeetjoin$Meeting;", true)
  | 3 => ("Meetjoin$Outlook", "settled", "LMeetjoin$Meeting;", true)
  | 4 => ("Meetjoin$Outlook", "chooser", "LMeetjoin$Chooser;", true)
  | 5 => ("Meetjoin$Outlook", "is", "[I", true)
  | _ => ("Meetjoin$Outlook", "strict", "I", false)
def tyX4 : Nat → FieldType := fun k => match k with
  | 0 => .object "Meetjoin$Laws"
  | 1 => .object "Meetjoin$Meeting"
  | 2 => .object "Meetjoin$Meeting"
  | 3 => .object "Meetjoin$Meeting"
  | 4 => .object "Meetjoin$Chooser"
  | 5 => .array .int
  | _ => .int
abbrev wsX40 : List Cond := u_ws RX4 TX4 7
theorem nmX4 : ∀ a, a < 7 → ∀ b, b < 7 → a ≠ b → (TX4 a).2.1 ≠ (TX4 b).2.1 := by decide +kernel
theorem tyX4_ok : ∀ k, k < 7 → parseFieldDescriptor (TX4 k).2.2.1 = some (tyX4 k) := by decide +kernel
abbrev cX4_init : ByteArray := prog_6_method_1_code
def yX4_init : MethodName := ⟨RX4, "<init>", "(LMeetjoin$Laws;)V"⟩
abbrev cX4_renew : ByteArray := prog_6_method_2_code
def yX4_renew : MethodName := ⟨RX4, "renew", "()V"⟩
abbrev cX4_takeDefault : ByteArray := prog_6_method_3_code
def yX4_takeDefault : MethodName := ⟨RX4, "takeDefault", "(I)V"⟩
abbrev cX4_onlyNumber : ByteArray := prog_6_method_4_code
def yX4_onlyNumber : MethodName := ⟨RX4, "onlyNumber", "(I)I"⟩
abbrev cX4_settledFields : ByteArray := prog_6_method_5_code
def yX4_settledFields : MethodName := ⟨RX4, "settledFields", "()I"⟩
abbrev cX4_reasonOf : ByteArray := prog_6_method_6_code
def yX4_reasonOf : MethodName := ⟨RX4, "reasonOf", "(I)I"⟩
def RX5 : String := "Meetjoin"
def TX5 : u_T := fun k => match k with
  | 0 => ("Meetjoin", "laws", "LMeetjoin$Laws;", true)
  | 1 => ("Meetjoin", "outlook", "LMeetjoin$Outlook;", true)
  | 2 => ("Meetjoin", "fleet", "LMeetjoin$Fleet;", true)
  | _ => ("Meetjoin", "refused", "I", false)
def tyX5 : Nat → FieldType := fun k => match k with
  | 0 => .object "Meetjoin$Laws"
  | 1 => .object "Meetjoin$Outlook"
  | 2 => .object "Meetjoin$Fleet"
  | _ => .int
abbrev wsX50 : List Cond := u_ws RX5 TX5 4
theorem nmX5 : ∀ a, a < 4 → ∀ b, b < 4 → a ≠ b → (TX5 a).2.1 ≠ (TX5 b).2.1 := by decide +kernel
theorem tyX5_ok : ∀ k, k < 4 → parseFieldDescriptor (TX5 k).2.2.1 = some (tyX5 k) := by decide +kernel
abbrev cX5_init : ByteArray := prog_1_method_1_code
def yX5_init : MethodName := ⟨RX5, "<init>", "()V"⟩
abbrev cX5_field : ByteArray := prog_1_method_2_code
def yX5_field : MethodName := ⟨RX5, "field", "(I)I"⟩
abbrev cX5_oneOf : ByteArray := prog_1_method_3_code
def yX5_oneOf : MethodName := ⟨RX5, "oneOf", "(III)I"⟩
abbrev cX5_bound : ByteArray := prog_1_method_4_code
def yX5_bound : MethodName := ⟨RX5, "bound", "(IIIZ)I"⟩
abbrev cX5_more : ByteArray := prog_1_method_5_code
def yX5_more : MethodName := ⟨RX5, "more", "(IIII)I"⟩
abbrev cX5_unlike : ByteArray := prog_1_method_6_code
def yX5_unlike : MethodName := ⟨RX5, "unlike", "(III)I"⟩
abbrev cX5_preset : ByteArray := prog_1_method_7_code
def yX5_preset : MethodName := ⟨RX5, "preset", "(IIII)I"⟩
abbrev cX5_approve : ByteArray := prog_1_method_8_code
def yX5_approve : MethodName := ⟨RX5, "approve", "(IZ)Z"⟩
abbrev cX5_withdraw : ByteArray := prog_1_method_9_code
def yX5_withdraw : MethodName := ⟨RX5, "withdraw", "(IZ)Z"⟩
abbrev cX5_weight : ByteArray := prog_1_method_10_code
def yX5_weight : MethodName := ⟨RX5, "weight", "(II)I"⟩
abbrev cX5_commit : ByteArray := prog_1_method_11_code
def yX5_commit : MethodName := ⟨RX5, "commit", "()I"⟩
abbrev cX5_wave : ByteArray := prog_1_method_12_code
def yX5_wave : MethodName := ⟨RX5, "wave", "(II)I"⟩
abbrev cX5_patch : ByteArray := prog_1_method_13_code
def yX5_patch : MethodName := ⟨RX5, "patch", "(III)I"⟩
abbrev cX5_absorb : ByteArray := prog_1_method_14_code
def yX5_absorb : MethodName := ⟨RX5, "absorb", "(II)I"⟩
abbrev cX5_ofField : ByteArray := prog_1_method_16_code
def yX5_ofField : MethodName := ⟨RX5, "ofField", "(II)I"⟩
abbrev cX5_ofLine : ByteArray := prog_1_method_17_code
def yX5_ofLine : MethodName := ⟨RX5, "ofLine", "(II)I"⟩
abbrev cX5_ofMachine : ByteArray := prog_1_method_18_code
def yX5_ofMachine : MethodName := ⟨RX5, "ofMachine", "(II)I"⟩
abbrev cX5_has : ByteArray := prog_1_method_19_code
def yX5_has : MethodName := ⟨RX5, "has", "(II)I"⟩
abbrev cX5_ofCommit : ByteArray := prog_1_method_20_code
def yX5_ofCommit : MethodName := ⟨RX5, "ofCommit", "(II)I"⟩
abbrev cX5_house : ByteArray := prog_1_method_21_code
def yX5_house : MethodName := ⟨RX5, "house", "(I)I"⟩
abbrev cX5_reason : ByteArray := prog_1_method_23_code
def yX5_reason : MethodName := ⟨RX5, "reason", "(I)I"⟩
abbrev cX5_met : ByteArray := prog_1_method_24_code
def yX5_met : MethodName := ⟨RX5, "met", "(II)I"⟩
abbrev cX5_isSound : ByteArray := prog_1_method_27_code
def yX5_isSound : MethodName := ⟨RX5, "isSound", "()Z"⟩
abbrev cX5_digest : ByteArray := prog_1_method_28_code
def yX5_digest : MethodName := ⟨RX5, "digest", "()J"⟩
abbrev cX5_sumOfMachines : ByteArray := prog_1_method_29_code
def yX5_sumOfMachines : MethodName := ⟨RX5, "sumOfMachines", "(J)J"⟩
abbrev cX5_sumOfCommits : ByteArray := prog_1_method_30_code
def yX5_sumOfCommits : MethodName := ⟨RX5, "sumOfCommits", "(J)J"⟩
abbrev cX5_tell : ByteArray := prog_1_method_31_code
def yX5_tell : MethodName := ⟨RX5, "tell", "(IIIII)I"⟩
abbrev cX5_isField : ByteArray := prog_1_method_32_code
def yX5_isField : MethodName := ⟨RX5, "isField", "(I)Z"⟩
abbrev cX5_isLine : ByteArray := prog_1_method_33_code
def yX5_isLine : MethodName := ⟨RX5, "isLine", "(I)Z"⟩
abbrev cX5_isCommit : ByteArray := prog_1_method_34_code
def yX5_isCommit : MethodName := ⟨RX5, "isCommit", "(I)Z"⟩
abbrev cX5_isMachine : ByteArray := prog_1_method_35_code
def yX5_isMachine : MethodName := ⟨RX5, "isMachine", "(I)Z"⟩
abbrev cX5_isTeam : ByteArray := prog_1_method_36_code
def yX5_isTeam : MethodName := ⟨RX5, "isTeam", "(I)Z"⟩
abbrev cX5_isNumber : ByteArray := prog_1_method_37_code
def yX5_isNumber : MethodName := ⟨RX5, "isNumber", "(I)Z"⟩
abbrev cX5_contains : ByteArray := prog_1_method_38_code
def yX5_contains : MethodName := ⟨RX5, "contains", "(II)Z"⟩
def RX6 : String := "MeetjoinModel$Line"
def TX6 : u_T := fun k => match k with
  | _ => ("", "", "", false)
def tyX6 : Nat → FieldType := fun k => match k with
  | _ => .int
abbrev wsX60 : List Cond := u_ws RX6 TX6 0
theorem nmX6 : ∀ a, a < 0 → ∀ b, b < 0 → a ≠ b → (TX6 a).2.1 ≠ (TX6 b).2.1 := by decide +kernel
theorem tyX6_ok : ∀ k, k < 0 → parseFieldDescriptor (TX6 k).2.2.1 = some (tyX6 k) := by decide +kernel
def RX7 : String := "MeetjoinModel"
def TX7 : u_T := fun k => match k with
  | _ => ("", "", "", false)
def tyX7 : Nat → FieldType := fun k => match k with
  | _ => .int
abbrev wsX70 : List Cond := u_ws RX7 TX7 0
theorem nmX7 : ∀ a, a < 0 → ∀ b, b < 0 → a ≠ b → (TX7 a).2.1 ≠ (TX7 b).2.1 := by decide +kernel
theorem tyX7_ok : ∀ k, k < 0 → parseFieldDescriptor (TX7 k).2.2.1 = some (tyX7 k) := by decide +kernel
def RJx145de : String := "java/io/Serializable"
def TJx145de : u_T := fun k => match k with
  | _ => ("", "", "", false)
def tyJx145de : Nat → FieldType := fun k => match k with
  | _ => .int
abbrev wsJx145de0 : List Cond := u_ws RJx145de TJx145de 0
theorem nmJx145de : ∀ a, a < 0 → ∀ b, b < 0 → a ≠ b → (TJx145de a).2.1 ≠ (TJx145de b).2.1 := by decide +kernel
theorem tyJx145de_ok : ∀ k, k < 0 → parseFieldDescriptor (TJx145de k).2.2.1 = some (tyJx145de k) := by decide +kernel
def RJ6 : String := "java/lang/Integer"
def TJ6 : u_T := fun k => match k with
  | _ => ("", "", "", false)
def tyJ6 : Nat → FieldType := fun k => match k with
  | _ => .int
abbrev wsJ60 : List Cond := u_ws RJ6 TJ6 0
theorem nmJ6 : ∀ a, a < 0 → ∀ b, b < 0 → a ≠ b → (TJ6 a).2.1 ≠ (TJ6 b).2.1 := by decide +kernel
theorem tyJ6_ok : ∀ k, k < 0 → parseFieldDescriptor (TJ6 k).2.2.1 = some (tyJ6 k) := by decide +kernel
abbrev cJ6_bitCount_0f7a4 : ByteArray := prog_14_method_49_code
def yJ6_bitCount_0f7a4 : MethodName := ⟨RJ6, "bitCount", "(I)I"⟩
def RJ9 : String := "java/lang/Math"
def TJ9 : u_T := fun k => match k with
  | _ => ("", "", "", false)
def tyJ9 : Nat → FieldType := fun k => match k with
  | _ => .int
abbrev wsJ90 : List Cond := u_ws RJ9 TJ9 0
theorem nmJ9 : ∀ a, a < 0 → ∀ b, b < 0 → a ≠ b → (TJ9 a).2.1 ≠ (TJ9 b).2.1 := by decide +kernel
theorem tyJ9_ok : ∀ k, k < 0 → parseFieldDescriptor (TJ9 k).2.2.1 = some (tyJ9 k) := by decide +kernel
abbrev cJ9_max_7cf53 : ByteArray := prog_15_method_65_code
def yJ9_max_7cf53 : MethodName := ⟨RJ9, "max", "(II)I"⟩
def RJ0 : String := "java/lang/String"
def TJ0 : u_T := fun k => match k with
  | _ => ("", "", "", false)
def tyJ0 : Nat → FieldType := fun k => match k with
  | _ => .int
abbrev wsJ00 : List Cond := u_ws RJ0 TJ0 0
theorem nmJ0 : ∀ a, a < 0 → ∀ b, b < 0 → a ≠ b → (TJ0 a).2.1 ≠ (TJ0 b).2.1 := by decide +kernel
theorem tyJ0_ok : ∀ k, k < 0 → parseFieldDescriptor (TJ0 k).2.2.1 = some (tyJ0 k) := by decide +kernel
def RJ10 : String := "java/lang/System"
def TJ10 : u_T := fun k => match k with
  | _ => ("", "", "", false)
def tyJ10 : Nat → FieldType := fun k => match k with
  | _ => .int
abbrev wsJ100 : List Cond := u_ws RJ10 TJ10 0
theorem nmJ10 : ∀ a, a < 0 → ∀ b, b < 0 → a ≠ b → (TJ10 a).2.1 ≠ (TJ10 b).2.1 := by decide +kernel
theorem tyJ10_ok : ∀ k, k < 0 → parseFieldDescriptor (TJ10 k).2.2.1 = some (tyJ10 k) := by decide +kernel
def RJ7 : String := "java/util/Arrays"
def TJ7 : u_T := fun k => match k with
  | _ => ("", "", "", false)
def tyJ7 : Nat → FieldType := fun k => match k with
  | _ => .int
abbrev wsJ70 : List Cond := u_ws RJ7 TJ7 0
theorem nmJ7 : ∀ a, a < 0 → ∀ b, b < 0 → a ≠ b → (TJ7 a).2.1 ≠ (TJ7 b).2.1 := by decide +kernel
theorem tyJ7_ok : ∀ k, k < 0 → parseFieldDescriptor (TJ7 k).2.2.1 = some (tyJ7 k) := by decide +kernel
abbrev cJ7_fill_53178 : ByteArray := prog_20_method_103_code
def yJ7_fill_53178 : MethodName := ⟨RJ7, "fill", "([II)V"⟩
def RL : String := "MeetjoinLaw"
abbrev cL_below : ByteArray := method_2_code
abbrev cL_cell : ByteArray := method_3_code
abbrev cL_house : ByteArray := method_4_code
abbrev cL_tell : ByteArray := method_5_code
abbrev cL_isDone : ByteArray := method_6_code
abbrev cL_isSo : ByteArray := method_8_code
abbrev cL_isReason : ByteArray := method_9_code
abbrev vwCl : List vw_C := [(RX0, TX0, 7), (RX1, TX1, 4), (RX2, TX2, 11), (RX3, TX3, 3), (RX4, TX4, 7), (RX5, TX5, 4)]
