/-! ===== BEGIN printed: names, fields, word lists, decode rows ===== -/
def RX0 : String := "EditMender$Boxes"
def TX0 : u_T := fun k => match k with
  | 0 => ("EditMender$Boxes", "plan", "LEditMender$Plan;", true)
  | 1 => ("EditMender$Boxes", "logic", "LEditMender$Logic;", true)
  | 2 => ("EditMender$Boxes", "found", "[I", false)
  | 3 => ("EditMender$Boxes", "foundCount", "I", false)
  | 4 => ("EditMender$Boxes", "known", "Z", false)
  | 5 => ("EditMender$Boxes", "chosen", "[I", true)
  | 6 => ("EditMender$Boxes", "open", "[J", true)
  | _ => ("EditMender$Boxes", "openWith", "[J", true)
def tyX0 : Nat → FieldType := fun k => match k with
  | 0 => .object "EditMender$Plan"
  | 1 => .object "EditMender$Logic"
  | 2 => .array .int
  | 3 => .int
  | 4 => .boolean
  | 5 => .array .int
  | 6 => .array .long
  | _ => .array .long
abbrev wsX00 : List Cond := u_ws RX0 TX0 8
theorem nmX0 : ∀ a, a < 8 → ∀ b, b < 8 → a ≠ b → (TX0 a).2.1 ≠ (TX0 b).2.1 := by decide +kernel
theorem tyX0_ok : ∀ k, k < 8 → parseFieldDescriptor (TX0 k).2.2.1 = some (tyX0 k) := by decide +kernel
abbrev cX0_init : ByteArray := prog_2_method_1_code
def yX0_init : MethodName := ⟨RX0, "<init>", "(LEditMender$Plan;LEditMender$Logic;)V"⟩
abbrev cX0_forget : ByteArray := prog_2_method_2_code
def yX0_forget : MethodName := ⟨RX0, "forget", "()V"⟩
abbrev cX0_size : ByteArray := prog_2_method_3_code
def yX0_size : MethodName := ⟨RX0, "size", "()I"⟩
abbrev cX0_search : ByteArray := prog_2_method_4_code
def yX0_search : MethodName := ⟨RX0, "search", "(I)V"⟩
abbrev cX0_searchBehind : ByteArray := prog_2_method_5_code
def yX0_searchBehind : MethodName := ⟨RX0, "searchBehind", "(II)V"⟩
abbrev cX0_meetValues : ByteArray := prog_2_method_6_code
def yX0_meetValues : MethodName := ⟨RX0, "meetValues", "(I)I"⟩
abbrev cX0_joined : ByteArray := prog_2_method_7_code
def yX0_joined : MethodName := ⟨RX0, "joined", "(II)J"⟩
abbrev cX0_isClosed : ByteArray := prog_2_method_8_code
def yX0_isClosed : MethodName := ⟨RX0, "isClosed", "(II)Z"⟩
abbrev cX0_isGreatest : ByteArray := prog_2_method_9_code
def yX0_isGreatest : MethodName := ⟨RX0, "isGreatest", "()Z"⟩
abbrev cX0_keepChosen : ByteArray := prog_2_method_10_code
def yX0_keepChosen : MethodName := ⟨RX0, "keepChosen", "()V"⟩
abbrev cX0_setOf : ByteArray := prog_2_method_11_code
def yX0_setOf : MethodName := ⟨RX0, "setOf", "(II)I"⟩
abbrev cX0_entering : ByteArray := prog_2_method_12_code
def yX0_entering : MethodName := ⟨RX0, "entering", "(I)I"⟩
abbrev cX0_bitOf : ByteArray := prog_2_method_19_code
def yX0_bitOf : MethodName := ⟨RX0, "bitOf", "(II)I"⟩
abbrev cX0_formOf : ByteArray := prog_2_method_20_code
def yX0_formOf : MethodName := ⟨RX0, "formOf", "(I)I"⟩
abbrev cX0_holding : ByteArray := prog_2_method_21_code
def yX0_holding : MethodName := ⟨RX0, "holding", "(II)I"⟩
def RX1 : String := "EditMender$Code"
def TX1 : u_T := fun k => match k with
  | _ => ("", "", "", false)
def tyX1 : Nat → FieldType := fun k => match k with
  | _ => .int
abbrev wsX10 : List Cond := u_ws RX1 TX1 0
theorem nmX1 : ∀ a, a < 0 → ∀ b, b < 0 → a ≠ b → (TX1 a).2.1 ≠ (TX1 b).2.1 := by decide +kernel
theorem tyX1_ok : ∀ k, k < 0 → parseFieldDescriptor (TX1 k).2.2.1 = some (tyX1 k) := by decide +kernel
abbrev cX1_answerAt : ByteArray := prog_3_method_2_code
def yX1_answerAt : MethodName := ⟨RX1, "answerAt", "(II)I"⟩
abbrev cX1_withAnswer : ByteArray := prog_3_method_3_code
def yX1_withAnswer : MethodName := ⟨RX1, "withAnswer", "(III)I"⟩
abbrev cX1_missingIn : ByteArray := prog_3_method_4_code
def yX1_missingIn : MethodName := ⟨RX1, "missingIn", "(II)I"⟩
abbrev cX1_part : ByteArray := prog_3_method_6_code
def yX1_part : MethodName := ⟨RX1, "part", "(II)I"⟩
abbrev cX1_blend : ByteArray := prog_3_method_7_code
def yX1_blend : MethodName := ⟨RX1, "blend", "(III)I"⟩
abbrev cX1_toDigits : ByteArray := prog_3_method_8_code
def yX1_toDigits : MethodName := ⟨RX1, "toDigits", "(II)I"⟩
abbrev cX1_ofDigits : ByteArray := prog_3_method_9_code
def yX1_ofDigits : MethodName := ⟨RX1, "ofDigits", "(II)I"⟩
def RX2 : String := "EditMender$Donors"
def TX2 : u_T := fun k => match k with
  | 0 => ("EditMender$Donors", "plan", "LEditMender$Plan;", true)
  | 1 => ("EditMender$Donors", "logic", "LEditMender$Logic;", true)
  | 2 => ("EditMender$Donors", "rows", "LEditMender$Rows;", true)
  | 3 => ("EditMender$Donors", "order", "[I", true)
  | 4 => ("EditMender$Donors", "fars", "[I", true)
  | _ => ("EditMender$Donors", "count", "I", false)
def tyX2 : Nat → FieldType := fun k => match k with
  | 0 => .object "EditMender$Plan"
  | 1 => .object "EditMender$Logic"
  | 2 => .object "EditMender$Rows"
  | 3 => .array .int
  | 4 => .array .int
  | _ => .int
abbrev wsX20 : List Cond := u_ws RX2 TX2 6
theorem nmX2 : ∀ a, a < 6 → ∀ b, b < 6 → a ≠ b → (TX2 a).2.1 ≠ (TX2 b).2.1 := by decide +kernel
theorem tyX2_ok : ∀ k, k < 6 → parseFieldDescriptor (TX2 k).2.2.1 = some (tyX2 k) := by decide +kernel
abbrev cX2_init : ByteArray := prog_4_method_1_code
def yX2_init : MethodName := ⟨RX2, "<init>", "(LEditMender$Plan;LEditMender$Logic;LEditMender$Rows;)V"⟩
abbrev cX2_gather : ByteArray := prog_4_method_4_code
def yX2_gather : MethodName := ⟨RX2, "gather", "(I)V"⟩
abbrev cX2_gives : ByteArray := prog_4_method_5_code
def yX2_gives : MethodName := ⟨RX2, "gives", "(III)Z"⟩
abbrev cX2_isOfGroup : ByteArray := prog_4_method_6_code
def yX2_isOfGroup : MethodName := ⟨RX2, "isOfGroup", "(III)Z"⟩
abbrev cX2_insert : ByteArray := prog_4_method_7_code
def yX2_insert : MethodName := ⟨RX2, "insert", "(II)V"⟩
abbrev cX2_mended : ByteArray := prog_4_method_8_code
def yX2_mended : MethodName := ⟨RX2, "mended", "(II)I"⟩
abbrev cX2_commonest : ByteArray := prog_4_method_9_code
def yX2_commonest : MethodName := ⟨RX2, "commonest", "(I)I"⟩
abbrev cX2_countSame : ByteArray := prog_4_method_10_code
def yX2_countSame : MethodName := ⟨RX2, "countSame", "(II)I"⟩
def RX3 : String := "EditMender$Family"
def TX3 : u_T := fun k => match k with
  | _ => ("", "", "", false)
def tyX3 : Nat → FieldType := fun k => match k with
  | _ => .int
abbrev wsX30 : List Cond := u_ws RX3 TX3 0
theorem nmX3 : ∀ a, a < 0 → ∀ b, b < 0 → a ≠ b → (TX3 a).2.1 ≠ (TX3 b).2.1 := by decide +kernel
theorem tyX3_ok : ∀ k, k < 0 → parseFieldDescriptor (TX3 k).2.2.1 = some (tyX3 k) := by decide +kernel
abbrev cX3_met : ByteArray := prog_5_method_2_code
def yX3_met : MethodName := ⟨RX3, "met", "(JI)J"⟩
abbrev cX3_ahead : ByteArray := prog_5_method_3_code
def yX3_ahead : MethodName := ⟨RX3, "ahead", "(JI)J"⟩
abbrev cX3_has : ByteArray := prog_5_method_4_code
def yX3_has : MethodName := ⟨RX3, "has", "(JI)Z"⟩
def RX4 : String := "EditMender$Kinds"
def TX4 : u_T := fun k => match k with
  | 0 => ("EditMender$Kinds", "plan", "LEditMender$Plan;", true)
  | 1 => ("EditMender$Kinds", "logic", "LEditMender$Logic;", true)
  | 2 => ("EditMender$Kinds", "rows", "LEditMender$Rows;", true)
  | 3 => ("EditMender$Kinds", "keys", "[I", true)
  | _ => ("EditMender$Kinds", "queue", "[I", true)
def tyX4 : Nat → FieldType := fun k => match k with
  | 0 => .object "EditMender$Plan"
  | 1 => .object "EditMender$Logic"
  | 2 => .object "EditMender$Rows"
  | 3 => .array .int
  | _ => .array .int
abbrev wsX40 : List Cond := u_ws RX4 TX4 5
theorem nmX4 : ∀ a, a < 5 → ∀ b, b < 5 → a ≠ b → (TX4 a).2.1 ≠ (TX4 b).2.1 := by decide +kernel
theorem tyX4_ok : ∀ k, k < 5 → parseFieldDescriptor (TX4 k).2.2.1 = some (tyX4 k) := by decide +kernel
abbrev cX4_init : ByteArray := prog_6_method_1_code
def yX4_init : MethodName := ⟨RX4, "<init>", "(LEditMender$Plan;LEditMender$Logic;LEditMender$Rows;)V"⟩
abbrev cX4_countRight : ByteArray := prog_6_method_2_code
def yX4_countRight : MethodName := ⟨RX4, "countRight", "()I"⟩
abbrev cX4_countMissing : ByteArray := prog_6_method_3_code
def yX4_countMissing : MethodName := ⟨RX4, "countMissing", "()I"⟩
abbrev cX4_countMendable : ByteArray := prog_6_method_4_code
def yX4_countMendable : MethodName := ⟨RX4, "countMendable", "()I"⟩
def RX5 : String := "EditMender$Logic"
def TX5 : u_T := fun k => match k with
  | 0 => ("EditMender$Logic", "plan", "LEditMender$Plan;", true)
  | 1 => ("EditMender$Logic", "editsOf", "[I", true)
  | 2 => ("EditMender$Logic", "lightest", "[I", true)
  | 3 => ("EditMender$Logic", "curable", "[J", true)
  | 4 => ("EditMender$Logic", "tally", "[I", false)
  | 5 => ("EditMender$Logic", "nextTally", "[I", false)
  | _ => ("EditMender$Logic", "passingForms", "I", false)
def tyX5 : Nat → FieldType := fun k => match k with
  | 0 => .object "EditMender$Plan"
  | 1 => .array .int
  | 2 => .array .int
  | 3 => .array .long
  | 4 => .array .int
  | 5 => .array .int
  | _ => .int
abbrev wsX50 : List Cond := u_ws RX5 TX5 7
theorem nmX5 : ∀ a, a < 7 → ∀ b, b < 7 → a ≠ b → (TX5 a).2.1 ≠ (TX5 b).2.1 := by decide +kernel
theorem tyX5_ok : ∀ k, k < 7 → parseFieldDescriptor (TX5 k).2.2.1 = some (tyX5 k) := by decide +kernel
abbrev cX5_init : ByteArray := prog_7_method_1_code
def yX5_init : MethodName := ⟨RX5, "<init>", "(LEditMender$Plan;)V"⟩
abbrev cX5_prepare : ByteArray := prog_7_method_2_code
def yX5_prepare : MethodName := ⟨RX5, "prepare", "()V"⟩
abbrev cX5_sortSets : ByteArray := prog_7_method_3_code
def yX5_sortSets : MethodName := ⟨RX5, "sortSets", "()V"⟩
abbrev cX5_isLess : ByteArray := prog_7_method_4_code
def yX5_isLess : MethodName := ⟨RX5, "isLess", "(II)Z"⟩
abbrev cX5_editsWith : ByteArray := prog_7_method_5_code
def yX5_editsWith : MethodName := ⟨RX5, "editsWith", "(II)I"⟩
abbrev cX5_editsOfAnswer : ByteArray := prog_7_method_6_code
def yX5_editsOfAnswer : MethodName := ⟨RX5, "editsOfAnswer", "(II)I"⟩
abbrev cX5_aheadOf : ByteArray := prog_7_method_7_code
def yX5_aheadOf : MethodName := ⟨RX5, "aheadOf", "(JII)J"⟩
abbrev cX5_editsFailed : ByteArray := prog_7_method_8_code
def yX5_editsFailed : MethodName := ⟨RX5, "editsFailed", "(I)I"⟩
abbrev cX5_editsLeft : ByteArray := prog_7_method_9_code
def yX5_editsLeft : MethodName := ⟨RX5, "editsLeft", "(II)I"⟩
abbrev cX5_isRight : ByteArray := prog_7_method_10_code
def yX5_isRight : MethodName := ⟨RX5, "isRight", "(I)Z"⟩
abbrev cX5_canMend : ByteArray := prog_7_method_12_code
def yX5_canMend : MethodName := ⟨RX5, "canMend", "(II)Z"⟩
abbrev cX5_countWays : ByteArray := prog_7_method_13_code
def yX5_countWays : MethodName := ⟨RX5, "countWays", "(II)I"⟩
abbrev cX5_tallyPassing : ByteArray := prog_7_method_14_code
def yX5_tallyPassing : MethodName := ⟨RX5, "tallyPassing", "(II)I"⟩
abbrev cX5_tallyField : ByteArray := prog_7_method_15_code
def yX5_tallyField : MethodName := ⟨RX5, "tallyField", "(I)V"⟩
abbrev cX5_valuesIn : ByteArray := prog_7_method_16_code
def yX5_valuesIn : MethodName := ⟨RX5, "valuesIn", "(III)I"⟩
abbrev cX5_curingValues : ByteArray := prog_7_method_17_code
def yX5_curingValues : MethodName := ⟨RX5, "curingValues", "(III)I"⟩
abbrev cX5_leastSet : ByteArray := prog_7_method_18_code
def yX5_leastSet : MethodName := ⟨RX5, "leastSet", "(I)I"⟩
abbrev cX5_leastWeight : ByteArray := prog_7_method_19_code
def yX5_leastWeight : MethodName := ⟨RX5, "leastWeight", "(I)I"⟩
abbrev cX5_countLeast : ByteArray := prog_7_method_20_code
def yX5_countLeast : MethodName := ⟨RX5, "countLeast", "(I)I"⟩
abbrev cX5_leastAt : ByteArray := prog_7_method_21_code
def yX5_leastAt : MethodName := ⟨RX5, "leastAt", "(II)I"⟩
abbrev cX5_forcedIn : ByteArray := prog_7_method_22_code
def yX5_forcedIn : MethodName := ⟨RX5, "forcedIn", "(I)I"⟩
abbrev cX5_firstWay : ByteArray := prog_7_method_23_code
def yX5_firstWay : MethodName := ⟨RX5, "firstWay", "(II)I"⟩
abbrev cX5_lowestOf : ByteArray := prog_7_method_24_code
def yX5_lowestOf : MethodName := ⟨RX5, "lowestOf", "(I)I"⟩
def RX6 : String := "EditMender$Plan"
def TX6 : u_T := fun k => match k with
  | 0 => ("EditMender$Plan", "fieldCount", "I", false)
  | 1 => ("EditMender$Plan", "sizes", "[I", true)
  | 2 => ("EditMender$Plan", "weights", "[I", true)
  | 3 => ("EditMender$Plan", "scaled", "[I", true)
  | 4 => ("EditMender$Plan", "letters", "[B", true)
  | 5 => ("EditMender$Plan", "letterCounts", "[I", true)
  | 6 => ("EditMender$Plan", "groupField", "I", false)
  | 7 => ("EditMender$Plan", "editCount", "I", false)
  | 8 => ("EditMender$Plan", "editSets", "[I", true)
  | 9 => ("EditMender$Plan", "rowCount", "I", false)
  | _ => ("EditMender$Plan", "rowCodes", "[I", true)
def tyX6 : Nat → FieldType := fun k => match k with
  | 0 => .int
  | 1 => .array .int
  | 2 => .array .int
  | 3 => .array .int
  | 4 => .array .byte
  | 5 => .array .int
  | 6 => .int
  | 7 => .int
  | 8 => .array .int
  | 9 => .int
  | _ => .array .int
abbrev wsX60 : List Cond := u_ws RX6 TX6 11
theorem nmX6 : ∀ a, a < 11 → ∀ b, b < 11 → a ≠ b → (TX6 a).2.1 ≠ (TX6 b).2.1 := by decide +kernel
theorem tyX6_ok : ∀ k, k < 11 → parseFieldDescriptor (TX6 k).2.2.1 = some (tyX6 k) := by decide +kernel
abbrev cX6_init : ByteArray := prog_8_method_1_code
def yX6_init : MethodName := ⟨RX6, "<init>", "()V"⟩
abbrev cX6_clear : ByteArray := prog_8_method_2_code
def yX6_clear : MethodName := ⟨RX6, "clear", "()V"⟩
abbrev cX6_copyFrom : ByteArray := prog_8_method_3_code
def yX6_copyFrom : MethodName := ⟨RX6, "copyFrom", "(LEditMender$Plan;)V"⟩
abbrev cX6_letter : ByteArray := prog_8_method_4_code
def yX6_letter : MethodName := ⟨RX6, "letter", "(II)I"⟩
abbrev cX6_allFields : ByteArray := prog_8_method_5_code
def yX6_allFields : MethodName := ⟨RX6, "allFields", "()I"⟩
abbrev cX6_allEdits : ByteArray := prog_8_method_6_code
def yX6_allEdits : MethodName := ⟨RX6, "allEdits", "()I"⟩
abbrev cX6_allValues : ByteArray := prog_8_method_7_code
def yX6_allValues : MethodName := ⟨RX6, "allValues", "(I)I"⟩
abbrev cX6_editSet : ByteArray := prog_8_method_8_code
def yX6_editSet : MethodName := ⟨RX6, "editSet", "(II)I"⟩
abbrev cX6_allForms : ByteArray := prog_8_method_9_code
def yX6_allForms : MethodName := ⟨RX6, "allForms", "()I"⟩
abbrev cX6_weightOf : ByteArray := prog_8_method_10_code
def yX6_weightOf : MethodName := ⟨RX6, "weightOf", "(I)I"⟩
abbrev cX6_holdsForm : ByteArray := prog_8_method_11_code
def yX6_holdsForm : MethodName := ⟨RX6, "holdsForm", "(I)Z"⟩
abbrev cX6_farApart : ByteArray := prog_8_method_12_code
def yX6_farApart : MethodName := ⟨RX6, "farApart", "(III)I"⟩
abbrev cX6_apart : ByteArray := prog_8_method_13_code
def yX6_apart : MethodName := ⟨RX6, "apart", "(III)I"⟩
def RX7 : String := "EditMender$Reader"
def TX7 : u_T := fun k => match k with
  | 0 => ("EditMender$Reader", "tape", "LEditMender$Tape;", true)
  | 1 => ("EditMender$Reader", "plan", "LEditMender$Plan;", true)
  | 2 => ("EditMender$Reader", "start", "I", false)
  | 3 => ("EditMender$Reader", "stop", "I", false)
  | _ => ("EditMender$Reader", "fieldsEnded", "Z", false)
def tyX7 : Nat → FieldType := fun k => match k with
  | 0 => .object "EditMender$Tape"
  | 1 => .object "EditMender$Plan"
  | 2 => .int
  | 3 => .int
  | _ => .boolean
abbrev wsX70 : List Cond := u_ws RX7 TX7 5
theorem nmX7 : ∀ a, a < 5 → ∀ b, b < 5 → a ≠ b → (TX7 a).2.1 ≠ (TX7 b).2.1 := by decide +kernel
theorem tyX7_ok : ∀ k, k < 5 → parseFieldDescriptor (TX7 k).2.2.1 = some (tyX7 k) := by decide +kernel
abbrev cX7_init : ByteArray := prog_9_method_1_code
def yX7_init : MethodName := ⟨RX7, "<init>", "(LEditMender$Tape;LEditMender$Plan;)V"⟩
abbrev cX7_place : ByteArray := prog_9_method_2_code
def yX7_place : MethodName := ⟨RX7, "place", "()I"⟩
abbrev cX7_readText : ByteArray := prog_9_method_3_code
def yX7_readText : MethodName := ⟨RX7, "readText", "()Z"⟩
abbrev cX7_readLine : ByteArray := prog_9_method_4_code
def yX7_readLine : MethodName := ⟨RX7, "readLine", "()Z"⟩
abbrev cX7_readField : ByteArray := prog_9_method_5_code
def yX7_readField : MethodName := ⟨RX7, "readField", "()Z"⟩
abbrev cX7_keepName : ByteArray := prog_9_method_6_code
def yX7_keepName : MethodName := ⟨RX7, "keepName", "(I)V"⟩
abbrev cX7_readGroup : ByteArray := prog_9_method_7_code
def yX7_readGroup : MethodName := ⟨RX7, "readGroup", "()Z"⟩
abbrev cX7_readEdit : ByteArray := prog_9_method_8_code
def yX7_readEdit : MethodName := ⟨RX7, "readEdit", "()Z"⟩
abbrev cX7_readSpans : ByteArray := prog_9_method_9_code
def yX7_readSpans : MethodName := ⟨RX7, "readSpans", "(I)I"⟩
abbrev cX7_readRow : ByteArray := prog_9_method_10_code
def yX7_readRow : MethodName := ⟨RX7, "readRow", "()Z"⟩
abbrev cX7_next : ByteArray := prog_9_method_11_code
def yX7_next : MethodName := ⟨RX7, "next", "()V"⟩
abbrev cX7_takes : ByteArray := prog_9_method_12_code
def yX7_takes : MethodName := ⟨RX7, "takes", "(C)Z"⟩
abbrev cX7_takeNumber : ByteArray := prog_9_method_13_code
def yX7_takeNumber : MethodName := ⟨RX7, "takeNumber", "(II)I"⟩
abbrev cX7_isSign : ByteArray := prog_9_method_14_code
def yX7_isSign : MethodName := ⟨RX7, "isSign", "(C)Z"⟩
abbrev cX7_isWord : ByteArray := prog_9_method_15_code
def yX7_isWord : MethodName := ⟨RX7, "isWord", "(Ljava/lang/String;)Z"⟩
abbrev cX7_isName : ByteArray := prog_9_method_16_code
def yX7_isName : MethodName := ⟨RX7, "isName", "()Z"⟩
abbrev cX7_toldField : ByteArray := prog_9_method_17_code
def yX7_toldField : MethodName := ⟨RX7, "toldField", "()I"⟩
abbrev cX7_isNameOf : ByteArray := prog_9_method_18_code
def yX7_isNameOf : MethodName := ⟨RX7, "isNameOf", "(I)Z"⟩
abbrev cX7_isBlank : ByteArray := prog_9_method_19_code
def yX7_isBlank : MethodName := ⟨RX7, "isBlank", "(I)Z"⟩
abbrev cX7_isLetter : ByteArray := prog_9_method_20_code
def yX7_isLetter : MethodName := ⟨RX7, "isLetter", "(I)Z"⟩
abbrev cX7_isDigit : ByteArray := prog_9_method_21_code
def yX7_isDigit : MethodName := ⟨RX7, "isDigit", "(I)Z"⟩
def RX8 : String := "EditMender$Rows"
def TX8 : u_T := fun k => match k with
  | 0 => ("EditMender$Rows", "codes", "[I", true)
  | 1 => ("EditMender$Rows", "count", "I", false)
  | 2 => ("EditMender$Rows", "kept", "I", false)
  | _ => ("EditMender$Rows", "pages", "[I", true)
def tyX8 : Nat → FieldType := fun k => match k with
  | 0 => .array .int
  | 1 => .int
  | 2 => .int
  | _ => .array .int
abbrev wsX80 : List Cond := u_ws RX8 TX8 4
theorem nmX8 : ∀ a, a < 4 → ∀ b, b < 4 → a ≠ b → (TX8 a).2.1 ≠ (TX8 b).2.1 := by decide +kernel
theorem tyX8_ok : ∀ k, k < 4 → parseFieldDescriptor (TX8 k).2.2.1 = some (tyX8 k) := by decide +kernel
abbrev cX8_init : ByteArray := prog_10_method_1_code
def yX8_init : MethodName := ⟨RX8, "<init>", "()V"⟩
abbrev cX8_start : ByteArray := prog_10_method_2_code
def yX8_start : MethodName := ⟨RX8, "start", "(LEditMender$Plan;)V"⟩
abbrev cX8_codeOf : ByteArray := prog_10_method_3_code
def yX8_codeOf : MethodName := ⟨RX8, "codeOf", "(I)I"⟩
def RX9 : String := "EditMender$Tape"
def TX9 : u_T := fun k => match k with
  | 0 => ("EditMender$Tape", "bytes", "[B", true)
  | _ => ("EditMender$Tape", "size", "I", false)
def tyX9 : Nat → FieldType := fun k => match k with
  | 0 => .array .byte
  | _ => .int
abbrev wsX90 : List Cond := u_ws RX9 TX9 2
theorem nmX9 : ∀ a, a < 2 → ∀ b, b < 2 → a ≠ b → (TX9 a).2.1 ≠ (TX9 b).2.1 := by decide +kernel
theorem tyX9_ok : ∀ k, k < 2 → parseFieldDescriptor (TX9 k).2.2.1 = some (tyX9 k) := by decide +kernel
abbrev cX9_init : ByteArray := prog_11_method_1_code
def yX9_init : MethodName := ⟨RX9, "<init>", "()V"⟩
abbrev cX9_hasRoom : ByteArray := prog_11_method_2_code
def yX9_hasRoom : MethodName := ⟨RX9, "hasRoom", "(I)Z"⟩
abbrev cX9_put : ByteArray := prog_11_method_3_code
def yX9_put : MethodName := ⟨RX9, "put", "(I)V"⟩
abbrev cX9_at : ByteArray := prog_11_method_4_code
def yX9_at : MethodName := ⟨RX9, "at", "(I)I"⟩
def RX10 : String := "EditMender"
def TX10 : u_T := fun k => match k with
  | 0 => ("EditMender", "tape", "LEditMender$Tape;", true)
  | 1 => ("EditMender", "plan", "LEditMender$Plan;", true)
  | 2 => ("EditMender", "draft", "LEditMender$Plan;", true)
  | 3 => ("EditMender", "reader", "LEditMender$Reader;", true)
  | 4 => ("EditMender", "logic", "LEditMender$Logic;", true)
  | 5 => ("EditMender", "boxList", "LEditMender$Boxes;", true)
  | 6 => ("EditMender", "rows", "LEditMender$Rows;", true)
  | 7 => ("EditMender", "donors", "LEditMender$Donors;", true)
  | 8 => ("EditMender", "kinds", "LEditMender$Kinds;", true)
  | 9 => ("EditMender", "mendedRows", "[I", true)
  | 10 => ("EditMender", "written", "[B", true)
  | 11 => ("EditMender", "writtenSize", "I", false)
  | _ => ("EditMender", "textFault", "I", false)
def tyX10 : Nat → FieldType := fun k => match k with
  | 0 => .object "EditMender$Tape"
  | 1 => .object "EditMender$Plan"
  | 2 => .object "EditMender$Plan"
  | 3 => .object "EditMender$Reader"
  | 4 => .object "EditMender$Logic"
  | 5 => .object "EditMender$Boxes"
  | 6 => .object "EditMender$Rows"
  | 7 => .object "EditMender$Donors"
  | 8 => .object "EditMender$Kinds"
  | 9 => .array .int
  | 10 => .array .byte
  | 11 => .int
  | _ => .int
abbrev wsX100 : List Cond := u_ws RX10 TX10 13
theorem nmX10 : ∀ a, a < 13 → ∀ b, b < 13 → a ≠ b → (TX10 a).2.1 ≠ (TX10 b).2.1 := by decide +kernel
theorem tyX10_ok : ∀ k, k < 13 → parseFieldDescriptor (TX10 k).2.2.1 = some (tyX10 k) := by decide +kernel
abbrev cX10_init : ByteArray := prog_1_method_1_code
def yX10_init : MethodName := ⟨RX10, "<init>", "()V"⟩
abbrev cX10_feed : ByteArray := prog_1_method_2_code
def yX10_feed : MethodName := ⟨RX10, "feed", "(IIIII)I"⟩
abbrev cX10_end : ByteArray := prog_1_method_3_code
def yX10_end : MethodName := ⟨RX10, "end", "(I)Z"⟩
abbrev cX10_read : ByteArray := prog_1_method_4_code
def yX10_read : MethodName := ⟨RX10, "read", "()I"⟩
abbrev cX10_field : ByteArray := prog_1_method_6_code
def yX10_field : MethodName := ⟨RX10, "field", "(II)I"⟩
abbrev cX10_box : ByteArray := prog_1_method_13_code
def yX10_box : MethodName := ⟨RX10, "box", "(II)I"⟩
abbrev cX10_tried : ByteArray := prog_1_method_15_code
def yX10_tried : MethodName := ⟨RX10, "tried", "(I)I"⟩
abbrev cX10_answer : ByteArray := prog_1_method_16_code
def yX10_answer : MethodName := ⟨RX10, "answer", "(II)I"⟩
abbrev cX10_within : ByteArray := prog_1_method_21_code
def yX10_within : MethodName := ⟨RX10, "within", "(II)I"⟩
abbrev cX10_mends : ByteArray := prog_1_method_25_code
def yX10_mends : MethodName := ⟨RX10, "mends", "(II)Z"⟩
abbrev cX10_ways : ByteArray := prog_1_method_26_code
def yX10_ways : MethodName := ⟨RX10, "ways", "(II)I"⟩
abbrev cX10_least : ByteArray := prog_1_method_27_code
def yX10_least : MethodName := ⟨RX10, "least", "(II)I"⟩
abbrev cX10_leastOf : ByteArray := prog_1_method_28_code
def yX10_leastOf : MethodName := ⟨RX10, "leastOf", "(II)I"⟩
abbrev cX10_values : ByteArray := prog_1_method_29_code
def yX10_values : MethodName := ⟨RX10, "values", "(III)I"⟩
abbrev cX10_forced : ByteArray := prog_1_method_30_code
def yX10_forced : MethodName := ⟨RX10, "forced", "(I)I"⟩
abbrev cX10_would : ByteArray := prog_1_method_33_code
def yX10_would : MethodName := ⟨RX10, "would", "(II)I"⟩
abbrev cX10_count : ByteArray := prog_1_method_50_code
def yX10_count : MethodName := ⟨RX10, "count", "(I)I"⟩
abbrev cX10_needField : ByteArray := prog_1_method_51_code
def yX10_needField : MethodName := ⟨RX10, "needField", "(I)V"⟩
abbrev cX10_needRow : ByteArray := prog_1_method_53_code
def yX10_needRow : MethodName := ⟨RX10, "needRow", "(I)V"⟩
abbrev cX10_needBox : ByteArray := prog_1_method_54_code
def yX10_needBox : MethodName := ⟨RX10, "needBox", "(I)V"⟩
abbrev cX10_needSet : ByteArray := prog_1_method_56_code
def yX10_needSet : MethodName := ⟨RX10, "needSet", "(I)V"⟩
abbrev cX10_needWay : ByteArray := prog_1_method_57_code
def yX10_needWay : MethodName := ⟨RX10, "needWay", "(I)V"⟩
abbrev cX10_needAnswers : ByteArray := prog_1_method_59_code
def yX10_needAnswers : MethodName := ⟨RX10, "needAnswers", "(II)V"⟩
def RX11 : String := "EditMenderLaw$Dice"
def TX11 : u_T := fun k => match k with
  | _ => ("EditMenderLaw$Dice", "v", "I", false)
def tyX11 : Nat → FieldType := fun k => match k with
  | _ => .int
abbrev wsX110 : List Cond := u_ws RX11 TX11 1
theorem nmX11 : ∀ a, a < 1 → ∀ b, b < 1 → a ≠ b → (TX11 a).2.1 ≠ (TX11 b).2.1 := by decide +kernel
theorem tyX11_ok : ∀ k, k < 1 → parseFieldDescriptor (TX11 k).2.2.1 = some (tyX11 k) := by decide +kernel
abbrev cX11_init : ByteArray := prog_13_method_1_code
def yX11_init : MethodName := ⟨RX11, "<init>", "(I)V"⟩
abbrev cX11_of : ByteArray := prog_13_method_2_code
def yX11_of : MethodName := ⟨RX11, "of", "(I)I"⟩
def RX12 : String := "EditMenderModel"
def TX12 : u_T := fun k => match k with
  | _ => ("", "", "", false)
def tyX12 : Nat → FieldType := fun k => match k with
  | _ => .int
abbrev wsX120 : List Cond := u_ws RX12 TX12 0
theorem nmX12 : ∀ a, a < 0 → ∀ b, b < 0 → a ≠ b → (TX12 a).2.1 ≠ (TX12 b).2.1 := by decide +kernel
theorem tyX12_ok : ∀ k, k < 0 → parseFieldDescriptor (TX12 k).2.2.1 = some (tyX12 k) := by decide +kernel
def RJx145de : String := "java/io/Serializable"
def TJx145de : u_T := fun k => match k with
  | _ => ("", "", "", false)
def tyJx145de : Nat → FieldType := fun k => match k with
  | _ => .int
abbrev wsJx145de0 : List Cond := u_ws RJx145de TJx145de 0
theorem nmJx145de : ∀ a, a < 0 → ∀ b, b < 0 → a ≠ b → (TJx145de a).2.1 ≠ (TJx145de b).2.1 := by decide +kernel
theorem tyJx145de_ok : ∀ k, k < 0 → parseFieldDescriptor (TJx145de k).2.2.1 = some (tyJx145de k) := by decide +kernel
def RJ5 : String := "java/lang/AbstractStringBuilder"
def TJ5 : u_T := fun k => match k with
  | _ => ("", "", "", false)
def tyJ5 : Nat → FieldType := fun k => match k with
  | _ => .int
abbrev wsJ50 : List Cond := u_ws RJ5 TJ5 0
theorem nmJ5 : ∀ a, a < 0 → ∀ b, b < 0 → a ≠ b → (TJ5 a).2.1 ≠ (TJ5 b).2.1 := by decide +kernel
theorem tyJ5_ok : ∀ k, k < 0 → parseFieldDescriptor (TJ5 k).2.2.1 = some (tyJ5 k) := by decide +kernel
abbrev cJ5_init_d00df : ByteArray := prog_16_method_2_code
def yJ5_init_d00df : MethodName := ⟨RJ5, "<init>", "(I)V"⟩
abbrev cJ5_length_8abf5 : ByteArray := prog_16_method_6_code
def yJ5_length_8abf5 : MethodName := ⟨RJ5, "length", "()I"⟩
abbrev cJ5_ensureCapacityInternal_d00df : ByteArray := prog_16_method_9_code
def yJ5_ensureCapacityInternal_d00df : MethodName := ⟨RJ5, "ensureCapacityInternal", "(I)V"⟩
abbrev cJ5_newCapacity_0f7a4 : ByteArray := prog_16_method_10_code
def yJ5_newCapacity_0f7a4 : MethodName := ⟨RJ5, "newCapacity", "(I)I"⟩
abbrev cJ5_inflate_da8c8 : ByteArray := prog_16_method_11_code
def yJ5_inflate_da8c8 : MethodName := ⟨RJ5, "inflate", "()V"⟩
abbrev cJ5_append_cf1ce : ByteArray := prog_16_method_22_code
def yJ5_append_cf1ce : MethodName := ⟨RJ5, "append", "(Ljava/lang/String;)Ljava/lang/AbstractStringBuilder;"⟩
abbrev cJ5_appendNull_278bc : ByteArray := prog_16_method_26_code
def yJ5_appendNull_278bc : MethodName := ⟨RJ5, "appendNull", "()Ljava/lang/AbstractStringBuilder;"⟩
abbrev cJ5_append_3fe6f : ByteArray := prog_16_method_31_code
def yJ5_append_3fe6f : MethodName := ⟨RJ5, "append", "(C)Ljava/lang/AbstractStringBuilder;"⟩
abbrev cJ5_append_c97b9 : ByteArray := prog_16_method_32_code
def yJ5_append_c97b9 : MethodName := ⟨RJ5, "append", "(I)Ljava/lang/AbstractStringBuilder;"⟩
abbrev cJ5_getValue_6d5f1 : ByteArray := prog_16_method_64_code
def yJ5_getValue_6d5f1 : MethodName := ⟨RJ5, "getValue", "()[B"⟩
abbrev cJ5_isLatin1_aae02 : ByteArray := prog_16_method_68_code
def yJ5_isLatin1_aae02 : MethodName := ⟨RJ5, "isLatin1", "()Z"⟩
abbrev cJ5_inflateIfNeededFor_a7421 : ByteArray := prog_16_method_71_code
def yJ5_inflateIfNeededFor_a7421 : MethodName := ⟨RJ5, "inflateIfNeededFor", "(Ljava/lang/String;)V"⟩
abbrev cJ5_putStringAt_47b60 : ByteArray := prog_16_method_73_code
def yJ5_putStringAt_47b60 : MethodName := ⟨RJ5, "putStringAt", "(ILjava/lang/String;)V"⟩
def RJx2cfe8 : String := "java/lang/Appendable"
def TJx2cfe8 : u_T := fun k => match k with
  | _ => ("", "", "", false)
def tyJx2cfe8 : Nat → FieldType := fun k => match k with
  | _ => .int
abbrev wsJx2cfe80 : List Cond := u_ws RJx2cfe8 TJx2cfe8 0
theorem nmJx2cfe8 : ∀ a, a < 0 → ∀ b, b < 0 → a ≠ b → (TJx2cfe8 a).2.1 ≠ (TJx2cfe8 b).2.1 := by decide +kernel
theorem tyJx2cfe8_ok : ∀ k, k < 0 → parseFieldDescriptor (TJx2cfe8 k).2.2.1 = some (tyJx2cfe8 k) := by decide +kernel
def RJx9f9b0 : String := "java/lang/CharSequence"
def TJx9f9b0 : u_T := fun k => match k with
  | _ => ("", "", "", false)
def tyJx9f9b0 : Nat → FieldType := fun k => match k with
  | _ => .int
abbrev wsJx9f9b00 : List Cond := u_ws RJx9f9b0 TJx9f9b0 0
theorem nmJx9f9b0 : ∀ a, a < 0 → ∀ b, b < 0 → a ≠ b → (TJx9f9b0 a).2.1 ≠ (TJx9f9b0 b).2.1 := by decide +kernel
theorem tyJx9f9b0_ok : ∀ k, k < 0 → parseFieldDescriptor (TJx9f9b0 k).2.2.1 = some (tyJx9f9b0 k) := by decide +kernel
def RJx8e188 : String := "java/lang/Cloneable"
def TJx8e188 : u_T := fun k => match k with
  | _ => ("", "", "", false)
def tyJx8e188 : Nat → FieldType := fun k => match k with
  | _ => .int
abbrev wsJx8e1880 : List Cond := u_ws RJx8e188 TJx8e188 0
theorem nmJx8e188 : ∀ a, a < 0 → ∀ b, b < 0 → a ≠ b → (TJx8e188 a).2.1 ≠ (TJx8e188 b).2.1 := by decide +kernel
theorem tyJx8e188_ok : ∀ k, k < 0 → parseFieldDescriptor (TJx8e188 k).2.2.1 = some (tyJx8e188 k) := by decide +kernel
def RJxb160c : String := "java/lang/Comparable"
def TJxb160c : u_T := fun k => match k with
  | _ => ("", "", "", false)
def tyJxb160c : Nat → FieldType := fun k => match k with
  | _ => .int
abbrev wsJxb160c0 : List Cond := u_ws RJxb160c TJxb160c 0
theorem nmJxb160c : ∀ a, a < 0 → ∀ b, b < 0 → a ≠ b → (TJxb160c a).2.1 ≠ (TJxb160c b).2.1 := by decide +kernel
theorem tyJxb160c_ok : ∀ k, k < 0 → parseFieldDescriptor (TJxb160c k).2.2.1 = some (tyJxb160c k) := by decide +kernel
def RJ6 : String := "java/lang/Integer"
def TJ6 : u_T := fun k => match k with
  | _ => ("", "", "", false)
def tyJ6 : Nat → FieldType := fun k => match k with
  | _ => .int
abbrev wsJ60 : List Cond := u_ws RJ6 TJ6 0
theorem nmJ6 : ∀ a, a < 0 → ∀ b, b < 0 → a ≠ b → (TJ6 a).2.1 ≠ (TJ6 b).2.1 := by decide +kernel
theorem tyJ6_ok : ∀ k, k < 0 → parseFieldDescriptor (TJ6 k).2.2.1 = some (tyJ6 k) := by decide +kernel
abbrev cJ6_getChars_ba4f3 : ByteArray := prog_25_method_12_code
def yJ6_getChars_ba4f3 : MethodName := ⟨RJ6, "getChars", "(II[B)I"⟩
abbrev cJ6_stringSize_0f7a4 : ByteArray := prog_25_method_13_code
def yJ6_stringSize_0f7a4 : MethodName := ⟨RJ6, "stringSize", "(I)I"⟩
abbrev cJ6_bitCount_0f7a4 : ByteArray := prog_25_method_49_code
def yJ6_bitCount_0f7a4 : MethodName := ⟨RJ6, "bitCount", "(I)I"⟩
def RJ9 : String := "java/lang/Math"
def TJ9 : u_T := fun k => match k with
  | _ => ("", "", "", false)
def tyJ9 : Nat → FieldType := fun k => match k with
  | _ => .int
abbrev wsJ90 : List Cond := u_ws RJ9 TJ9 0
theorem nmJ9 : ∀ a, a < 0 → ∀ b, b < 0 → a ≠ b → (TJ9 a).2.1 ≠ (TJ9 b).2.1 := by decide +kernel
theorem tyJ9_ok : ∀ k, k < 0 → parseFieldDescriptor (TJ9 k).2.2.1 = some (tyJ9 k) := by decide +kernel
abbrev cJ9_abs_0f7a4 : ByteArray := prog_26_method_59_code
def yJ9_abs_0f7a4 : MethodName := ⟨RJ9, "abs", "(I)I"⟩
abbrev cJ9_max_7cf53 : ByteArray := prog_26_method_65_code
def yJ9_max_7cf53 : MethodName := ⟨RJ9, "max", "(II)I"⟩
abbrev cJ9_min_7cf53 : ByteArray := prog_26_method_69_code
def yJ9_min_7cf53 : MethodName := ⟨RJ9, "min", "(II)I"⟩
def RJxd2413 : String := "java/lang/Number"
def TJxd2413 : u_T := fun k => match k with
  | _ => ("", "", "", false)
def tyJxd2413 : Nat → FieldType := fun k => match k with
  | _ => .int
abbrev wsJxd24130 : List Cond := u_ws RJxd2413 TJxd2413 0
theorem nmJxd2413 : ∀ a, a < 0 → ∀ b, b < 0 → a ≠ b → (TJxd2413 a).2.1 ≠ (TJxd2413 b).2.1 := by decide +kernel
theorem tyJxd2413_ok : ∀ k, k < 0 → parseFieldDescriptor (TJxd2413 k).2.2.1 = some (tyJxd2413 k) := by decide +kernel
def RJ0 : String := "java/lang/String"
def TJ0 : u_T := fun k => match k with
  | 0 => ("java/lang/String", "value", "[B", true)
  | 1 => ("java/lang/String", "coder", "B", true)
  | 2 => ("java/lang/String", "hash", "I", false)
  | _ => ("java/lang/String", "hashIsZero", "Z", false)
def tyJ0 : Nat → FieldType := fun k => match k with
  | 0 => .array .byte
  | 1 => .byte
  | 2 => .int
  | _ => .boolean
abbrev wsJ00 : List Cond := u_ws RJ0 TJ0 4
theorem nmJ0 : ∀ a, a < 4 → ∀ b, b < 4 → a ≠ b → (TJ0 a).2.1 ≠ (TJ0 b).2.1 := by decide +kernel
theorem tyJ0_ok : ∀ k, k < 4 → parseFieldDescriptor (TJ0 k).2.2.1 = some (tyJ0 k) := by decide +kernel
abbrev cJ0_init_81219 : ByteArray := prog_29_method_53_code
def yJ0_init_81219 : MethodName := ⟨RJ0, "<init>", "(Ljava/lang/StringBuilder;)V"⟩
abbrev cJ0_length_8abf5 : ByteArray := prog_29_method_54_code
def yJ0_length_8abf5 : MethodName := ⟨RJ0, "length", "()I"⟩
abbrev cJ0_charAt_5068e : ByteArray := prog_29_method_56_code
def yJ0_charAt_5068e : MethodName := ⟨RJ0, "charAt", "(I)C"⟩
abbrev cJ0_getBytes_840e7 : ByteArray := prog_29_method_147_code
def yJ0_getBytes_840e7 : MethodName := ⟨RJ0, "getBytes", "([BIB)V"⟩
abbrev cJ0_init_db425 : ByteArray := prog_29_method_150_code
def yJ0_init_db425 : MethodName := ⟨RJ0, "<init>", "(Ljava/lang/AbstractStringBuilder;Ljava/lang/Void;)V"⟩
abbrev cJ0_coder_7d493 : ByteArray := prog_29_method_152_code
def yJ0_coder_7d493 : MethodName := ⟨RJ0, "coder", "()B"⟩
abbrev cJ0_isLatin1_aae02 : ByteArray := prog_29_method_154_code
def yJ0_isLatin1_aae02 : MethodName := ⟨RJ0, "isLatin1", "()Z"⟩
abbrev cJ0_checkIndex_df160 : ByteArray := prog_29_method_155_code
def yJ0_checkIndex_df160 : MethodName := ⟨RJ0, "checkIndex", "(II)V"⟩
abbrev cJ0_checkBoundsOffCount_cabcc : ByteArray := prog_29_method_157_code
def yJ0_checkBoundsOffCount_cabcc : MethodName := ⟨RJ0, "checkBoundsOffCount", "(III)I"⟩
abbrev cJ0_checkBoundsBeginEnd_23922 : ByteArray := prog_29_method_158_code
def yJ0_checkBoundsBeginEnd_23922 : MethodName := ⟨RJ0, "checkBoundsBeginEnd", "(III)V"⟩
def RJ4 : String := "java/lang/StringBuilder"
def TJ4 : u_T := fun k => match k with
  | 0 => ("java/lang/AbstractStringBuilder", "value", "[B", false)
  | 1 => ("java/lang/AbstractStringBuilder", "coder", "B", false)
  | 2 => ("java/lang/AbstractStringBuilder", "maybeLatin1", "Z", false)
  | _ => ("java/lang/AbstractStringBuilder", "count", "I", false)
def tyJ4 : Nat → FieldType := fun k => match k with
  | 0 => .array .byte
  | 1 => .byte
  | 2 => .boolean
  | _ => .int
abbrev wsJ40 : List Cond := u_ws RJ4 TJ4 4
theorem nmJ4 : ∀ a, a < 4 → ∀ b, b < 4 → a ≠ b → (TJ4 a).2.1 ≠ (TJ4 b).2.1 := by decide +kernel
theorem tyJ4_ok : ∀ k, k < 4 → parseFieldDescriptor (TJ4 k).2.2.1 = some (tyJ4 k) := by decide +kernel
abbrev cJ4_init_da8c8 : ByteArray := prog_30_method_1_code
def yJ4_init_da8c8 : MethodName := ⟨RJ4, "<init>", "()V"⟩
abbrev cJ4_append_15ec4 : ByteArray := prog_30_method_7_code
def yJ4_append_15ec4 : MethodName := ⟨RJ4, "append", "(Ljava/lang/String;)Ljava/lang/StringBuilder;"⟩
abbrev cJ4_append_cf468 : ByteArray := prog_30_method_14_code
def yJ4_append_cf468 : MethodName := ⟨RJ4, "append", "(C)Ljava/lang/StringBuilder;"⟩
abbrev cJ4_append_bf812 : ByteArray := prog_30_method_15_code
def yJ4_append_bf812 : MethodName := ⟨RJ4, "append", "(I)Ljava/lang/StringBuilder;"⟩
abbrev cJ4_toString_0e30d : ByteArray := prog_30_method_42_code
def yJ4_toString_0e30d : MethodName := ⟨RJ4, "toString", "()Ljava/lang/String;"⟩
abbrev cJ4_length_8abf5 : ByteArray := prog_30_method_93_code
def yJ4_length_8abf5 : MethodName := ⟨RJ4, "length", "()I"⟩
def RJ1 : String := "java/lang/StringLatin1"
def TJ1 : u_T := fun k => match k with
  | _ => ("", "", "", false)
def tyJ1 : Nat → FieldType := fun k => match k with
  | _ => .int
abbrev wsJ10 : List Cond := u_ws RJ1 TJ1 0
theorem nmJ1 : ∀ a, a < 0 → ∀ b, b < 0 → a ≠ b → (TJ1 a).2.1 ≠ (TJ1 b).2.1 := by decide +kernel
theorem tyJ1_ok : ∀ k, k < 0 → parseFieldDescriptor (TJ1 k).2.2.1 = some (tyJ1 k) := by decide +kernel
abbrev cJ1_charAt_3b067 : ByteArray := prog_31_method_2_code
def yJ1_charAt_3b067 : MethodName := ⟨RJ1, "charAt", "([BI)C"⟩
abbrev cJ1_canEncode_fc78d : ByteArray := prog_31_method_3_code
def yJ1_canEncode_fc78d : MethodName := ⟨RJ1, "canEncode", "(C)Z"⟩
abbrev cJ1_inflate_0e8fd : ByteArray := prog_31_method_50_code
def yJ1_inflate_0e8fd : MethodName := ⟨RJ1, "inflate", "([BI[BII)V"⟩
def RJ2 : String := "java/lang/StringUTF16"
def TJ2 : u_T := fun k => match k with
  | _ => ("", "", "", false)
def tyJ2 : Nat → FieldType := fun k => match k with
  | _ => .int
abbrev wsJ20 : List Cond := u_ws RJ2 TJ2 0
theorem nmJ2 : ∀ a, a < 0 → ∀ b, b < 0 → a ≠ b → (TJ2 a).2.1 ≠ (TJ2 b).2.1 := by decide +kernel
theorem tyJ2_ok : ∀ k, k < 0 → parseFieldDescriptor (TJ2 k).2.2.1 = some (tyJ2 k) := by decide +kernel
abbrev cJ2_newBytesFor_77867 : ByteArray := prog_32_method_2_code
def yJ2_newBytesFor_77867 : MethodName := ⟨RJ2, "newBytesFor", "(I)[B"⟩
abbrev cJ2_newBytesLength_0f7a4 : ByteArray := prog_32_method_3_code
def yJ2_newBytesLength_0f7a4 : MethodName := ⟨RJ2, "newBytesLength", "(I)I"⟩
abbrev cJ2_putChar_b72d1 : ByteArray := prog_32_method_4_code
def yJ2_putChar_b72d1 : MethodName := ⟨RJ2, "putChar", "([BII)V"⟩
abbrev cJ2_getChar_3b067 : ByteArray := prog_32_method_5_code
def yJ2_getChar_3b067 : MethodName := ⟨RJ2, "getChar", "([BI)C"⟩
abbrev cJ2_length_9d52b : ByteArray := prog_32_method_6_code
def yJ2_length_9d52b : MethodName := ⟨RJ2, "length", "([B)I"⟩
abbrev cJ2_coderFromArrayLen_85cad : ByteArray := prog_32_method_15_code
def yJ2_coderFromArrayLen_85cad : MethodName := ⟨RJ2, "coderFromArrayLen", "([BI)B"⟩
abbrev cJ2_compress_39247 : ByteArray := prog_32_method_17_code
def yJ2_compress_39247 : MethodName := ⟨RJ2, "compress", "([BII)[B"⟩
abbrev cJ2_compress_5af95 : ByteArray := prog_32_method_22_code
def yJ2_compress_5af95 : MethodName := ⟨RJ2, "compress", "([BI[BII)I"⟩
abbrev cJ2_putCharSB_b72d1 : ByteArray := prog_32_method_71_code
def yJ2_putCharSB_b72d1 : MethodName := ⟨RJ2, "putCharSB", "([BII)V"⟩
abbrev cJ2_getChars_46870 : ByteArray := prog_32_method_77_code
def yJ2_getChars_46870 : MethodName := ⟨RJ2, "getChars", "(III[B)I"⟩
abbrev cJ2_putCharsAt_cd4e5 : ByteArray := prog_32_method_81_code
def yJ2_putCharsAt_cd4e5 : MethodName := ⟨RJ2, "putCharsAt", "([BICCCC)I"⟩
abbrev cJ2_charAt_3b067 : ByteArray := prog_32_method_83_code
def yJ2_charAt_3b067 : MethodName := ⟨RJ2, "charAt", "([BI)C"⟩
abbrev cJ2_inflate_0e8fd : ByteArray := prog_32_method_86_code
def yJ2_inflate_0e8fd : MethodName := ⟨RJ2, "inflate", "([BI[BII)V"⟩
abbrev cJ2_getChars_ba4f3 : ByteArray := prog_32_method_89_code
def yJ2_getChars_ba4f3 : MethodName := ⟨RJ2, "getChars", "(II[B)I"⟩
abbrev cJ2_checkIndex_2214a : ByteArray := prog_32_method_91_code
def yJ2_checkIndex_2214a : MethodName := ⟨RJ2, "checkIndex", "(I[B)V"⟩
abbrev cJ2_checkBoundsBeginEnd_d044e : ByteArray := prog_32_method_93_code
def yJ2_checkBoundsBeginEnd_d044e : MethodName := ⟨RJ2, "checkBoundsBeginEnd", "(II[B)V"⟩
abbrev cJ2_checkBoundsOffCount_d044e : ByteArray := prog_32_method_94_code
def yJ2_checkBoundsOffCount_d044e : MethodName := ⟨RJ2, "checkBoundsOffCount", "(II[B)V"⟩
def RJ10 : String := "java/lang/System"
def TJ10 : u_T := fun k => match k with
  | _ => ("", "", "", false)
def tyJ10 : Nat → FieldType := fun k => match k with
  | _ => .int
abbrev wsJ100 : List Cond := u_ws RJ10 TJ10 0
theorem nmJ10 : ∀ a, a < 0 → ∀ b, b < 0 → a ≠ b → (TJ10 a).2.1 ≠ (TJ10 b).2.1 := by decide +kernel
theorem tyJ10_ok : ∀ k, k < 0 → parseFieldDescriptor (TJ10 k).2.2.1 = some (tyJ10 k) := by decide +kernel
def RJxfd54e : String := "java/lang/constant/Constable"
def TJxfd54e : u_T := fun k => match k with
  | _ => ("", "", "", false)
def tyJxfd54e : Nat → FieldType := fun k => match k with
  | _ => .int
abbrev wsJxfd54e0 : List Cond := u_ws RJxfd54e TJxfd54e 0
theorem nmJxfd54e : ∀ a, a < 0 → ∀ b, b < 0 → a ≠ b → (TJxfd54e a).2.1 ≠ (TJxfd54e b).2.1 := by decide +kernel
theorem tyJxfd54e_ok : ∀ k, k < 0 → parseFieldDescriptor (TJxfd54e k).2.2.1 = some (tyJxfd54e k) := by decide +kernel
def RJx3cf43 : String := "java/lang/constant/ConstantDesc"
def TJx3cf43 : u_T := fun k => match k with
  | _ => ("", "", "", false)
def tyJx3cf43 : Nat → FieldType := fun k => match k with
  | _ => .int
abbrev wsJx3cf430 : List Cond := u_ws RJx3cf43 TJx3cf43 0
theorem nmJx3cf43 : ∀ a, a < 0 → ∀ b, b < 0 → a ≠ b → (TJx3cf43 a).2.1 ≠ (TJx3cf43 b).2.1 := by decide +kernel
theorem tyJx3cf43_ok : ∀ k, k < 0 → parseFieldDescriptor (TJx3cf43 k).2.2.1 = some (tyJx3cf43 k) := by decide +kernel
def RJ7 : String := "java/util/Arrays"
def TJ7 : u_T := fun k => match k with
  | _ => ("", "", "", false)
def tyJ7 : Nat → FieldType := fun k => match k with
  | _ => .int
abbrev wsJ70 : List Cond := u_ws RJ7 TJ7 0
theorem nmJ7 : ∀ a, a < 0 → ∀ b, b < 0 → a ≠ b → (TJ7 a).2.1 ≠ (TJ7 b).2.1 := by decide +kernel
theorem tyJ7_ok : ∀ k, k < 0 → parseFieldDescriptor (TJ7 k).2.2.1 = some (tyJ7 k) := by decide +kernel
abbrev cJ7_fill_53178 : ByteArray := prog_37_method_103_code
def yJ7_fill_53178 : MethodName := ⟨RJ7, "fill", "([II)V"⟩
abbrev cJ7_copyOf_9075b : ByteArray := prog_37_method_121_code
def yJ7_copyOf_9075b : MethodName := ⟨RJ7, "copyOf", "([BI)[B"⟩
abbrev cJ7_copyOf_59c91 : ByteArray := prog_37_method_123_code
def yJ7_copyOf_59c91 : MethodName := ⟨RJ7, "copyOf", "([II)[I"⟩
abbrev cJ7_checkLength_df160 : ByteArray := prog_37_method_131_code
def yJ7_checkLength_df160 : MethodName := ⟨RJ7, "checkLength", "(II)V"⟩
abbrev cJ7_copyOfRange_39247 : ByteArray := prog_37_method_132_code
def yJ7_copyOfRange_39247 : MethodName := ⟨RJ7, "copyOfRange", "([BII)[B"⟩
abbrev cJ7_copyOfRangeByte_39247 : ByteArray := prog_37_method_133_code
def yJ7_copyOfRangeByte_39247 : MethodName := ⟨RJ7, "copyOfRangeByte", "([BII)[B"⟩
def RJ8 : String := "jdk/internal/util/ArraysSupport"
def TJ8 : u_T := fun k => match k with
  | _ => ("", "", "", false)
def tyJ8 : Nat → FieldType := fun k => match k with
  | _ => .int
abbrev wsJ80 : List Cond := u_ws RJ8 TJ8 0
theorem nmJ8 : ∀ a, a < 0 → ∀ b, b < 0 → a ≠ b → (TJ8 a).2.1 ≠ (TJ8 b).2.1 := by decide +kernel
theorem tyJ8_ok : ∀ k, k < 0 → parseFieldDescriptor (TJ8 k).2.2.1 = some (tyJ8 k) := by decide +kernel
abbrev cJ8_newLength_cabcc : ByteArray := prog_39_method_27_code
def yJ8_newLength_cabcc : MethodName := ⟨RJ8, "newLength", "(III)I"⟩
abbrev cJ8_hugeLength_7cf53 : ByteArray := prog_39_method_28_code
def yJ8_hugeLength_7cf53 : MethodName := ⟨RJ8, "hugeLength", "(II)I"⟩
def RJ3 : String := "jdk/internal/util/Preconditions"
def TJ3 : u_T := fun k => match k with
  | _ => ("", "", "", false)
def tyJ3 : Nat → FieldType := fun k => match k with
  | _ => .int
abbrev wsJ30 : List Cond := u_ws RJ3 TJ3 0
theorem nmJ3 : ∀ a, a < 0 → ∀ b, b < 0 → a ≠ b → (TJ3 a).2.1 ≠ (TJ3 b).2.1 := by decide +kernel
theorem tyJ3_ok : ∀ k, k < 0 → parseFieldDescriptor (TJ3 k).2.2.1 = some (tyJ3 k) := by decide +kernel
abbrev cJ3_checkIndex_8e157 : ByteArray := prog_40_method_11_code
def yJ3_checkIndex_8e157 : MethodName := ⟨RJ3, "checkIndex", "(IILjava/util/function/BiFunction;)I"⟩
abbrev cJ3_checkFromToIndex_8c36e : ByteArray := prog_40_method_12_code
def yJ3_checkFromToIndex_8c36e : MethodName := ⟨RJ3, "checkFromToIndex", "(IIILjava/util/function/BiFunction;)I"⟩
abbrev cJ3_checkFromIndexSize_8c36e : ByteArray := prog_40_method_13_code
def yJ3_checkFromIndexSize_8c36e : MethodName := ⟨RJ3, "checkFromIndexSize", "(IIILjava/util/function/BiFunction;)I"⟩
def RL : String := "EditMenderLaw"
abbrev cL_draw : ByteArray := method_2_code
def yL_draw : MethodName := ⟨RL, "draw", "([II)I"⟩
abbrev cL_span : ByteArray := method_3_code
def yL_span : MethodName := ⟨RL, "span", "(LEditMenderLaw$Dice;I)Ljava/lang/String;"⟩
abbrev cL_text : ByteArray := method_4_code
def yL_text : MethodName := ⟨RL, "text", "(LEditMenderLaw$Dice;)Ljava/lang/String;"⟩
abbrev cL_mender : ByteArray := method_5_code
def yL_mender : MethodName := ⟨RL, "mender", "([I)LEditMender;"⟩
abbrev cL_forms : ByteArray := method_6_code
def yL_forms : MethodName := ⟨RL, "forms", "(LEditMender;)[[I"⟩
abbrev cL_digits : ByteArray := method_7_code
def yL_digits : MethodName := ⟨RL, "digits", "([I)I"⟩
abbrev cL_row : ByteArray := method_8_code
def yL_row : MethodName := ⟨RL, "row", "(LEditMender;I)[I"⟩
abbrev cL_law : ByteArray := code
def yL_law : MethodName := ⟨RL, "law", "([I)Z"⟩
