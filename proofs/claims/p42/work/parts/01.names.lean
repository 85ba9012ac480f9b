def RX0 : String := "ProvenanceTables$Evaluator"
def TX0 : u_T := fun k => match k with
  | 0 => ("ProvenanceTables$Evaluator", "stack", "[LProvenanceTables$Relation;", true)
  | 1 => ("ProvenanceTables$Evaluator", "spare", "LProvenanceTables$Relation;", false)
  | 2 => ("ProvenanceTables$Evaluator", "answer", "LProvenanceTables$Relation;", false)
  | _ => ("ProvenanceTables$Evaluator", "top", "I", false)
def tyX0 : Nat → FieldType := fun k => match k with
  | 0 => .array (.object "ProvenanceTables$Relation")
  | 1 => .object "ProvenanceTables$Relation"
  | 2 => .object "ProvenanceTables$Relation"
  | _ => .int
abbrev wsX00 : List Cond := u_ws RX0 TX0 4
theorem nmX0 : ∀ a, a < 4 → ∀ b, b < 4 → a ≠ b → (TX0 a).2.1 ≠ (TX0 b).2.1 := by decide +kernel
theorem tyX0_ok : ∀ k, k < 4 → parseFieldDescriptor (TX0 k).2.2.1 = some (tyX0 k) := by decide +kernel
abbrev cX0_init : ByteArray := prog_2_method_1_code
def yX0_init : MethodName := ⟨RX0, "<init>", "()V"⟩
abbrev cX0_answer : ByteArray := prog_2_method_2_code
def yX0_answer : MethodName := ⟨RX0, "answer", "()LProvenanceTables$Relation;"⟩
abbrev cX0_compute : ByteArray := prog_2_method_3_code
def yX0_compute : MethodName := ⟨RX0, "compute", "(LProvenanceTables$Query;LProvenanceTables$State;)Z"⟩
abbrev cX0_keepResult : ByteArray := prog_2_method_4_code
def yX0_keepResult : MethodName := ⟨RX0, "keepResult", "()V"⟩
abbrev cX0_computeNode : ByteArray := prog_2_method_5_code
def yX0_computeNode : MethodName := ⟨RX0, "computeNode", "(LProvenanceTables$Query;ILProvenanceTables$State;)Z"⟩
abbrev cX0_fillTable : ByteArray := prog_2_method_6_code
def yX0_fillTable : MethodName := ⟨RX0, "fillTable", "(ILProvenanceTables$State;)Z"⟩
abbrev cX0_fillSelect : ByteArray := prog_2_method_7_code
def yX0_fillSelect : MethodName := ⟨RX0, "fillSelect", "(LProvenanceTables$Relation;III)Z"⟩
abbrev cX0_fillProject : ByteArray := prog_2_method_8_code
def yX0_fillProject : MethodName := ⟨RX0, "fillProject", "(LProvenanceTables$Relation;II)Z"⟩
abbrev cX0_fillJoin : ByteArray := prog_2_method_9_code
def yX0_fillJoin : MethodName := ⟨RX0, "fillJoin", "(LProvenanceTables$Relation;LProvenanceTables$Relation;II)Z"⟩
abbrev cX0_fillUnion : ByteArray := prog_2_method_10_code
def yX0_fillUnion : MethodName := ⟨RX0, "fillUnion", "(LProvenanceTables$Relation;LProvenanceTables$Relation;)Z"⟩
abbrev cX0_addToSpare : ByteArray := prog_2_method_11_code
def yX0_addToSpare : MethodName := ⟨RX0, "addToSpare", "(ILProvenanceTables$Relation;I)Z"⟩
abbrev cX0_waiting : ByteArray := prog_2_method_12_code
def yX0_waiting : MethodName := ⟨RX0, "waiting", "(I)LProvenanceTables$Relation;"⟩
abbrev cX0_pushSpare : ByteArray := prog_2_method_13_code
def yX0_pushSpare : MethodName := ⟨RX0, "pushSpare", "(I)Z"⟩
def RX1 : String := "ProvenanceTables$History"
def TX1 : u_T := fun k => match k with
  | 0 => ("ProvenanceTables$History", "states", "[LProvenanceTables$State;", true)
  | _ => ("ProvenanceTables$History", "size", "I", false)
def tyX1 : Nat → FieldType := fun k => match k with
  | 0 => .array (.object "ProvenanceTables$State")
  | _ => .int
abbrev wsX10 : List Cond := u_ws RX1 TX1 2
theorem nmX1 : ∀ a, a < 2 → ∀ b, b < 2 → a ≠ b → (TX1 a).2.1 ≠ (TX1 b).2.1 := by decide +kernel
theorem tyX1_ok : ∀ k, k < 2 → parseFieldDescriptor (TX1 k).2.2.1 = some (tyX1 k) := by decide +kernel
abbrev cX1_init : ByteArray := prog_3_method_1_code
def yX1_init : MethodName := ⟨RX1, "<init>", "()V"⟩
abbrev cX1_size : ByteArray := prog_3_method_2_code
def yX1_size : MethodName := ⟨RX1, "size", "()I"⟩
abbrev cX1_record : ByteArray := prog_3_method_3_code
def yX1_record : MethodName := ⟨RX1, "record", "(LProvenanceTables$State;)V"⟩
abbrev cX1_takeLatest : ByteArray := prog_3_method_4_code
def yX1_takeLatest : MethodName := ⟨RX1, "takeLatest", "()LProvenanceTables$State;"⟩
abbrev cX1_moveOldestToEnd : ByteArray := prog_3_method_5_code
def yX1_moveOldestToEnd : MethodName := ⟨RX1, "moveOldestToEnd", "()V"⟩
def RX2 : String := "ProvenanceTables$Key"
def TX2 : u_T := fun k => match k with
  | _ => ("", "", "", false)
def tyX2 : Nat → FieldType := fun k => match k with
  | _ => .int
abbrev wsX20 : List Cond := u_ws RX2 TX2 0
theorem nmX2 : ∀ a, a < 0 → ∀ b, b < 0 → a ≠ b → (TX2 a).2.1 ≠ (TX2 b).2.1 := by decide +kernel
theorem tyX2_ok : ∀ k, k < 0 → parseFieldDescriptor (TX2 k).2.2.1 = some (tyX2 k) := by decide +kernel
abbrev cX2_hasMoreDigits : ByteArray := prog_4_method_2_code
def yX2_hasMoreDigits : MethodName := ⟨RX2, "hasMoreDigits", "(II)Z"⟩
abbrev cX2_ofDecimal : ByteArray := prog_4_method_3_code
def yX2_ofDecimal : MethodName := ⟨RX2, "ofDecimal", "(II)I"⟩
abbrev cX2_digit : ByteArray := prog_4_method_4_code
def yX2_digit : MethodName := ⟨RX2, "digit", "(III)I"⟩
abbrev cX2_join : ByteArray := prog_4_method_5_code
def yX2_join : MethodName := ⟨RX2, "join", "(III)I"⟩
def RX3 : String := "ProvenanceTables$Line"
def TX3 : u_T := fun k => match k with
  | 0 => ("ProvenanceTables$Line", "signs", "[C", true)
  | _ => ("ProvenanceTables$Line", "length", "I", false)
def tyX3 : Nat → FieldType := fun k => match k with
  | 0 => .array .char
  | _ => .int
abbrev wsX30 : List Cond := u_ws RX3 TX3 2
theorem nmX3 : ∀ a, a < 2 → ∀ b, b < 2 → a ≠ b → (TX3 a).2.1 ≠ (TX3 b).2.1 := by decide +kernel
theorem tyX3_ok : ∀ k, k < 2 → parseFieldDescriptor (TX3 k).2.2.1 = some (tyX3 k) := by decide +kernel
abbrev cX3_init : ByteArray := prog_5_method_1_code
def yX3_init : MethodName := ⟨RX3, "<init>", "(I)V"⟩
abbrev cX3_length : ByteArray := prog_5_method_2_code
def yX3_length : MethodName := ⟨RX3, "length", "()I"⟩
abbrev cX3_clear : ByteArray := prog_5_method_3_code
def yX3_clear : MethodName := ⟨RX3, "clear", "()V"⟩
abbrev cX3_add : ByteArray := prog_5_method_4_code
def yX3_add : MethodName := ⟨RX3, "add", "(C)Z"⟩
abbrev cX3_codeAt : ByteArray := prog_5_method_6_code
def yX3_codeAt : MethodName := ⟨RX3, "codeAt", "(I)I"⟩
abbrev cX3_contains : ByteArray := prog_5_method_7_code
def yX3_contains : MethodName := ⟨RX3, "contains", "(C)Z"⟩
abbrev cX3_copy : ByteArray := prog_5_method_8_code
def yX3_copy : MethodName := ⟨RX3, "copy", "(LProvenanceTables$Line;)V"⟩
def RX4 : String := "ProvenanceTables$Monomial"
def TX4 : u_T := fun k => match k with
  | _ => ("", "", "", false)
def tyX4 : Nat → FieldType := fun k => match k with
  | _ => .int
abbrev wsX40 : List Cond := u_ws RX4 TX4 0
theorem nmX4 : ∀ a, a < 0 → ∀ b, b < 0 → a ≠ b → (TX4 a).2.1 ≠ (TX4 b).2.1 := by decide +kernel
theorem tyX4_ok : ∀ k, k < 0 → parseFieldDescriptor (TX4 k).2.2.1 = some (tyX4 k) := by decide +kernel
abbrev cX4_ofTag : ByteArray := prog_6_method_2_code
def yX4_ofTag : MethodName := ⟨RX4, "ofTag", "(I)J"⟩
abbrev cX4_power : ByteArray := prog_6_method_3_code
def yX4_power : MethodName := ⟨RX4, "power", "(JI)I"⟩
abbrev cX4_withoutPowers : ByteArray := prog_6_method_4_code
def yX4_withoutPowers : MethodName := ⟨RX4, "withoutPowers", "(J)J"⟩
abbrev cX4_tagSet : ByteArray := prog_6_method_5_code
def yX4_tagSet : MethodName := ⟨RX4, "tagSet", "(J)I"⟩
abbrev cX4_maskOf : ByteArray := prog_6_method_6_code
def yX4_maskOf : MethodName := ⟨RX4, "maskOf", "(I)J"⟩
def RX5 : String := "ProvenanceTables$Polynomial"
def TX5 : u_T := fun k => match k with
  | 0 => ("ProvenanceTables$Polynomial", "monomials", "[J", true)
  | 1 => ("ProvenanceTables$Polynomial", "factors", "[J", true)
  | _ => ("ProvenanceTables$Polynomial", "size", "I", false)
def tyX5 : Nat → FieldType := fun k => match k with
  | 0 => .array .long
  | 1 => .array .long
  | _ => .int
abbrev wsX50 : List Cond := u_ws RX5 TX5 3
theorem nmX5 : ∀ a, a < 3 → ∀ b, b < 3 → a ≠ b → (TX5 a).2.1 ≠ (TX5 b).2.1 := by decide +kernel
theorem tyX5_ok : ∀ k, k < 3 → parseFieldDescriptor (TX5 k).2.2.1 = some (tyX5 k) := by decide +kernel
abbrev cX5_init : ByteArray := prog_7_method_1_code
def yX5_init : MethodName := ⟨RX5, "<init>", "()V"⟩
abbrev cX5_size : ByteArray := prog_7_method_2_code
def yX5_size : MethodName := ⟨RX5, "size", "()I"⟩
abbrev cX5_clear : ByteArray := prog_7_method_3_code
def yX5_clear : MethodName := ⟨RX5, "clear", "()V"⟩
abbrev cX5_hasTerm : ByteArray := prog_7_method_4_code
def yX5_hasTerm : MethodName := ⟨RX5, "hasTerm", "(I)Z"⟩
abbrev cX5_monomialAt : ByteArray := prog_7_method_5_code
def yX5_monomialAt : MethodName := ⟨RX5, "monomialAt", "(I)J"⟩
abbrev cX5_factorAt : ByteArray := prog_7_method_6_code
def yX5_factorAt : MethodName := ⟨RX5, "factorAt", "(I)J"⟩
abbrev cX5_addTerm : ByteArray := prog_7_method_7_code
def yX5_addTerm : MethodName := ⟨RX5, "addTerm", "(JJ)Z"⟩
abbrev cX5_addAll : ByteArray := prog_7_method_8_code
def yX5_addAll : MethodName := ⟨RX5, "addAll", "(LProvenanceTables$Polynomial;)Z"⟩
abbrev cX5_addProduct : ByteArray := prog_7_method_9_code
def yX5_addProduct : MethodName := ⟨RX5, "addProduct", "(LProvenanceTables$Polynomial;LProvenanceTables$Polynomial;)Z"⟩
abbrev cX5_allTags : ByteArray := prog_7_method_10_code
def yX5_allTags : MethodName := ⟨RX5, "allTags", "()I"⟩
abbrev cX5_hasTermWithout : ByteArray := prog_7_method_11_code
def yX5_hasTermWithout : MethodName := ⟨RX5, "hasTermWithout", "(J)Z"⟩
abbrev cX5_setToAvailable : ByteArray := prog_7_method_12_code
def yX5_setToAvailable : MethodName := ⟨RX5, "setToAvailable", "(LProvenanceTables$Polynomial;I)V"⟩
abbrev cX5_setToForm : ByteArray := prog_7_method_13_code
def yX5_setToForm : MethodName := ⟨RX5, "setToForm", "(LProvenanceTables$Polynomial;I)V"⟩
abbrev cX5_setFactorsToOne : ByteArray := prog_7_method_14_code
def yX5_setFactorsToOne : MethodName := ⟨RX5, "setFactorsToOne", "()V"⟩
abbrev cX5_dropContaining : ByteArray := prog_7_method_15_code
def yX5_dropContaining : MethodName := ⟨RX5, "dropContaining", "()V"⟩
abbrev cX5_containsAnother : ByteArray := prog_7_method_16_code
def yX5_containsAnother : MethodName := ⟨RX5, "containsAnother", "(I)Z"⟩
def RX6 : String := "ProvenanceTables$Query"
def TX6 : u_T := fun k => match k with
  | 0 => ("ProvenanceTables$Query", "kinds", "[I", true)
  | 1 => ("ProvenanceTables$Query", "firsts", "[I", true)
  | 2 => ("ProvenanceTables$Query", "seconds", "[I", true)
  | 3 => ("ProvenanceTables$Query", "widthStack", "[I", true)
  | 4 => ("ProvenanceTables$Query", "due", "[C", true)
  | 5 => ("ProvenanceTables$Query", "line", "LProvenanceTables$Line;", false)
  | 6 => ("ProvenanceTables$Query", "size", "I", false)
  | 7 => ("ProvenanceTables$Query", "at", "I", false)
  | 8 => ("ProvenanceTables$Query", "dueCount", "I", false)
  | _ => ("ProvenanceTables$Query", "isWhole", "Z", false)
def tyX6 : Nat → FieldType := fun k => match k with
  | 0 => .array .int
  | 1 => .array .int
  | 2 => .array .int
  | 3 => .array .int
  | 4 => .array .char
  | 5 => .object "ProvenanceTables$Line"
  | 6 => .int
  | 7 => .int
  | 8 => .int
  | _ => .boolean
abbrev wsX60 : List Cond := u_ws RX6 TX6 10
theorem nmX6 : ∀ a, a < 10 → ∀ b, b < 10 → a ≠ b → (TX6 a).2.1 ≠ (TX6 b).2.1 := by decide +kernel
theorem tyX6_ok : ∀ k, k < 10 → parseFieldDescriptor (TX6 k).2.2.1 = some (tyX6 k) := by decide +kernel
abbrev cX6_init : ByteArray := prog_8_method_1_code
def yX6_init : MethodName := ⟨RX6, "<init>", "()V"⟩
abbrev cX6_isWhole : ByteArray := prog_8_method_2_code
def yX6_isWhole : MethodName := ⟨RX6, "isWhole", "()Z"⟩
abbrev cX6_size : ByteArray := prog_8_method_3_code
def yX6_size : MethodName := ⟨RX6, "size", "()I"⟩
abbrev cX6_stoppedAt : ByteArray := prog_8_method_4_code
def yX6_stoppedAt : MethodName := ⟨RX6, "stoppedAt", "()I"⟩
abbrev cX6_kindAt : ByteArray := prog_8_method_5_code
def yX6_kindAt : MethodName := ⟨RX6, "kindAt", "(I)I"⟩
abbrev cX6_firstAt : ByteArray := prog_8_method_6_code
def yX6_firstAt : MethodName := ⟨RX6, "firstAt", "(I)I"⟩
abbrev cX6_secondAt : ByteArray := prog_8_method_7_code
def yX6_secondAt : MethodName := ⟨RX6, "secondAt", "(I)I"⟩
abbrev cX6_partsOf : ByteArray := prog_8_method_8_code
def yX6_partsOf : MethodName := ⟨RX6, "partsOf", "(I)I"⟩
abbrev cX6_read : ByteArray := prog_8_method_9_code
def yX6_read : MethodName := ⟨RX6, "read", "(LProvenanceTables$Line;)Z"⟩
abbrev cX6_fits : ByteArray := prog_8_method_10_code
def yX6_fits : MethodName := ⟨RX6, "fits", "(LProvenanceTables$State;)Z"⟩
abbrev cX6_hasNode : ByteArray := prog_8_method_11_code
def yX6_hasNode : MethodName := ⟨RX6, "hasNode", "(I)Z"⟩
abbrev cX6_widthOfNode : ByteArray := prog_8_method_12_code
def yX6_widthOfNode : MethodName := ⟨RX6, "widthOfNode", "(IIILProvenanceTables$State;)I"⟩
abbrev cX6_namesColumnsBelow : ByteArray := prog_8_method_13_code
def yX6_namesColumnsBelow : MethodName := ⟨RX6, "namesColumnsBelow", "(III)Z"⟩
abbrev cX6_readHead : ByteArray := prog_8_method_14_code
def yX6_readHead : MethodName := ⟨RX6, "readHead", "()Z"⟩
abbrev cX6_readSelect : ByteArray := prog_8_method_15_code
def yX6_readSelect : MethodName := ⟨RX6, "readSelect", "()Z"⟩
abbrev cX6_readProject : ByteArray := prog_8_method_16_code
def yX6_readProject : MethodName := ⟨RX6, "readProject", "()Z"⟩
abbrev cX6_readJoin : ByteArray := prog_8_method_17_code
def yX6_readJoin : MethodName := ⟨RX6, "readJoin", "()Z"⟩
abbrev cX6_addNode : ByteArray := prog_8_method_18_code
def yX6_addNode : MethodName := ⟨RX6, "addNode", "(III)Z"⟩
abbrev cX6_nextCode : ByteArray := prog_8_method_19_code
def yX6_nextCode : MethodName := ⟨RX6, "nextCode", "()I"⟩
abbrev cX6_take : ByteArray := prog_8_method_20_code
def yX6_take : MethodName := ⟨RX6, "take", "(C)Z"⟩
abbrev cX6_takeDigit : ByteArray := prog_8_method_21_code
def yX6_takeDigit : MethodName := ⟨RX6, "takeDigit", "(I)I"⟩
abbrev cX6_push : ByteArray := prog_8_method_22_code
def yX6_push : MethodName := ⟨RX6, "push", "(C)V"⟩
abbrev cX6_pop : ByteArray := prog_8_method_23_code
def yX6_pop : MethodName := ⟨RX6, "pop", "()C"⟩
def RX7 : String := "ProvenanceTables$Relation"
def TX7 : u_T := fun k => match k with
  | 0 => ("ProvenanceTables$Relation", "keys", "[I", true)
  | 1 => ("ProvenanceTables$Relation", "polynomials", "[LProvenanceTables$Polynomial;", true)
  | 2 => ("ProvenanceTables$Relation", "width", "I", false)
  | _ => ("ProvenanceTables$Relation", "size", "I", false)
def tyX7 : Nat → FieldType := fun k => match k with
  | 0 => .array .int
  | 1 => .array (.object "ProvenanceTables$Polynomial")
  | 2 => .int
  | _ => .int
abbrev wsX70 : List Cond := u_ws RX7 TX7 4
theorem nmX7 : ∀ a, a < 4 → ∀ b, b < 4 → a ≠ b → (TX7 a).2.1 ≠ (TX7 b).2.1 := by decide +kernel
theorem tyX7_ok : ∀ k, k < 4 → parseFieldDescriptor (TX7 k).2.2.1 = some (tyX7 k) := by decide +kernel
abbrev cX7_init : ByteArray := prog_9_method_1_code
def yX7_init : MethodName := ⟨RX7, "<init>", "()V"⟩
abbrev cX7_clear : ByteArray := prog_9_method_2_code
def yX7_clear : MethodName := ⟨RX7, "clear", "(I)V"⟩
abbrev cX7_width : ByteArray := prog_9_method_3_code
def yX7_width : MethodName := ⟨RX7, "width", "()I"⟩
abbrev cX7_size : ByteArray := prog_9_method_4_code
def yX7_size : MethodName := ⟨RX7, "size", "()I"⟩
abbrev cX7_hasRow : ByteArray := prog_9_method_5_code
def yX7_hasRow : MethodName := ⟨RX7, "hasRow", "(I)Z"⟩
abbrev cX7_keyAt : ByteArray := prog_9_method_6_code
def yX7_keyAt : MethodName := ⟨RX7, "keyAt", "(I)I"⟩
abbrev cX7_polynomialAt : ByteArray := prog_9_method_7_code
def yX7_polynomialAt : MethodName := ⟨RX7, "polynomialAt", "(I)LProvenanceTables$Polynomial;"⟩
abbrev cX7_countPresent : ByteArray := prog_9_method_8_code
def yX7_countPresent : MethodName := ⟨RX7, "countPresent", "(I)I"⟩
abbrev cX7_rowWith : ByteArray := prog_9_method_9_code
def yX7_rowWith : MethodName := ⟨RX7, "rowWith", "(I)LProvenanceTables$Polynomial;"⟩
def RX8 : String := "ProvenanceTables$State"
def TX8 : u_T := fun k => match k with
  | 0 => ("ProvenanceTables$State", "widths", "[I", true)
  | 1 => ("ProvenanceTables$State", "tables", "[I", true)
  | 2 => ("ProvenanceTables$State", "keys", "[I", true)
  | 3 => ("ProvenanceTables$State", "costs", "[I", true)
  | 4 => ("ProvenanceTables$State", "trusts", "[I", true)
  | 5 => ("ProvenanceTables$State", "queryLine", "LProvenanceTables$Line;", true)
  | 6 => ("ProvenanceTables$State", "tagMask", "I", false)
  | _ => ("ProvenanceTables$State", "withdrawnMask", "I", false)
def tyX8 : Nat → FieldType := fun k => match k with
  | 0 => .array .int
  | 1 => .array .int
  | 2 => .array .int
  | 3 => .array .int
  | 4 => .array .int
  | 5 => .object "ProvenanceTables$Line"
  | 6 => .int
  | _ => .int
abbrev wsX80 : List Cond := u_ws RX8 TX8 8
theorem nmX8 : ∀ a, a < 8 → ∀ b, b < 8 → a ≠ b → (TX8 a).2.1 ≠ (TX8 b).2.1 := by decide +kernel
theorem tyX8_ok : ∀ k, k < 8 → parseFieldDescriptor (TX8 k).2.2.1 = some (tyX8 k) := by decide +kernel
abbrev cX8_init : ByteArray := prog_10_method_1_code
def yX8_init : MethodName := ⟨RX8, "<init>", "()V"⟩
abbrev cX8_copy : ByteArray := prog_10_method_2_code
def yX8_copy : MethodName := ⟨RX8, "copy", "(LProvenanceTables$State;)V"⟩
abbrev cX8_queryLine : ByteArray := prog_10_method_3_code
def yX8_queryLine : MethodName := ⟨RX8, "queryLine", "()LProvenanceTables$Line;"⟩
abbrev cX8_tagMask : ByteArray := prog_10_method_4_code
def yX8_tagMask : MethodName := ⟨RX8, "tagMask", "()I"⟩
abbrev cX8_withdrawnMask : ByteArray := prog_10_method_5_code
def yX8_withdrawnMask : MethodName := ⟨RX8, "withdrawnMask", "()I"⟩
abbrev cX8_hasTag : ByteArray := prog_10_method_6_code
def yX8_hasTag : MethodName := ⟨RX8, "hasTag", "(I)Z"⟩
abbrev cX8_freeTag : ByteArray := prog_10_method_7_code
def yX8_freeTag : MethodName := ⟨RX8, "freeTag", "()I"⟩
abbrev cX8_hasRowIn : ByteArray := prog_10_method_8_code
def yX8_hasRowIn : MethodName := ⟨RX8, "hasRowIn", "(I)Z"⟩
abbrev cX8_queryNames : ByteArray := prog_10_method_9_code
def yX8_queryNames : MethodName := ⟨RX8, "queryNames", "(I)Z"⟩
abbrev cX8_widthOf : ByteArray := prog_10_method_10_code
def yX8_widthOf : MethodName := ⟨RX8, "widthOf", "(I)I"⟩
abbrev cX8_setWidth : ByteArray := prog_10_method_11_code
def yX8_setWidth : MethodName := ⟨RX8, "setWidth", "(II)V"⟩
abbrev cX8_place : ByteArray := prog_10_method_12_code
def yX8_place : MethodName := ⟨RX8, "place", "(III)V"⟩
abbrev cX8_remove : ByteArray := prog_10_method_13_code
def yX8_remove : MethodName := ⟨RX8, "remove", "(I)V"⟩
abbrev cX8_withdraw : ByteArray := prog_10_method_14_code
def yX8_withdraw : MethodName := ⟨RX8, "withdraw", "(IZ)V"⟩
abbrev cX8_changeCost : ByteArray := prog_10_method_15_code
def yX8_changeCost : MethodName := ⟨RX8, "changeCost", "(II)V"⟩
abbrev cX8_changeTrust : ByteArray := prog_10_method_16_code
def yX8_changeTrust : MethodName := ⟨RX8, "changeTrust", "(II)V"⟩
abbrev cX8_tableAt : ByteArray := prog_10_method_17_code
def yX8_tableAt : MethodName := ⟨RX8, "tableAt", "(I)I"⟩
abbrev cX8_keyOf : ByteArray := prog_10_method_18_code
def yX8_keyOf : MethodName := ⟨RX8, "keyOf", "(I)I"⟩
abbrev cX8_costOf : ByteArray := prog_10_method_19_code
def yX8_costOf : MethodName := ⟨RX8, "costOf", "(I)I"⟩
abbrev cX8_trustOf : ByteArray := prog_10_method_20_code
def yX8_trustOf : MethodName := ⟨RX8, "trustOf", "(I)I"⟩
abbrev cX8_costOfTerm : ByteArray := prog_10_method_21_code
def yX8_costOfTerm : MethodName := ⟨RX8, "costOfTerm", "(J)I"⟩
abbrev cX8_trustOfTerm : ByteArray := prog_10_method_22_code
def yX8_trustOfTerm : MethodName := ⟨RX8, "trustOfTerm", "(J)I"⟩
abbrev cX8_confidenceOfTerm : ByteArray := prog_10_method_23_code
def yX8_confidenceOfTerm : MethodName := ⟨RX8, "confidenceOfTerm", "(J)F"⟩
abbrev cX8_copyNumbers : ByteArray := prog_10_method_24_code
def yX8_copyNumbers : MethodName := ⟨RX8, "copyNumbers", "([I[I)V"⟩
def RX9 : String := "ProvenanceTables$TagSets"
def TX9 : u_T := fun k => match k with
  | 0 => ("ProvenanceTables$TagSets", "sets", "[I", true)
  | 1 => ("ProvenanceTables$TagSets", "users", "[I", true)
  | 2 => ("ProvenanceTables$TagSets", "endings", "[I", true)
  | _ => ("ProvenanceTables$TagSets", "size", "I", false)
def tyX9 : Nat → FieldType := fun k => match k with
  | 0 => .array .int
  | 1 => .array .int
  | 2 => .array .int
  | _ => .int
abbrev wsX90 : List Cond := u_ws RX9 TX9 4
theorem nmX9 : ∀ a, a < 4 → ∀ b, b < 4 → a ≠ b → (TX9 a).2.1 ≠ (TX9 b).2.1 := by decide +kernel
theorem tyX9_ok : ∀ k, k < 4 → parseFieldDescriptor (TX9 k).2.2.1 = some (tyX9 k) := by decide +kernel
abbrev cX9_init : ByteArray := prog_11_method_1_code
def yX9_init : MethodName := ⟨RX9, "<init>", "()V"⟩
abbrev cX9_setTo : ByteArray := prog_11_method_2_code
def yX9_setTo : MethodName := ⟨RX9, "setTo", "(LProvenanceTables$Polynomial;)V"⟩
abbrev cX9_countWorlds : ByteArray := prog_11_method_4_code
def yX9_countWorlds : MethodName := ⟨RX9, "countWorlds", "()I"⟩
abbrev cX9_union : ByteArray := prog_11_method_5_code
def yX9_union : MethodName := ⟨RX9, "union", "()I"⟩
abbrev cX9_termsWith : ByteArray := prog_11_method_6_code
def yX9_termsWith : MethodName := ⟨RX9, "termsWith", "(IZ)I"⟩
abbrev cX9_countFrom : ByteArray := prog_11_method_10_code
def yX9_countFrom : MethodName := ⟨RX9, "countFrom", "([I[IIII)I"⟩
def RX10 : String := "ProvenanceTables"
def TX10 : u_T := fun k => match k with
  | 0 => ("ProvenanceTables", "state", "LProvenanceTables$State;", true)
  | 1 => ("ProvenanceTables", "trial", "LProvenanceTables$State;", true)
  | 2 => ("ProvenanceTables", "history", "LProvenanceTables$History;", true)
  | 3 => ("ProvenanceTables", "text", "LProvenanceTables$Line;", true)
  | 4 => ("ProvenanceTables", "paper", "LProvenanceTables$Line;", true)
  | 5 => ("ProvenanceTables", "draft", "LProvenanceTables$Query;", true)
  | 6 => ("ProvenanceTables", "current", "LProvenanceTables$Query;", true)
  | 7 => ("ProvenanceTables", "evaluator", "LProvenanceTables$Evaluator;", true)
  | 8 => ("ProvenanceTables", "shown", "LProvenanceTables$Polynomial;", true)
  | _ => ("ProvenanceTables", "tagSets", "LProvenanceTables$TagSets;", true)
def tyX10 : Nat → FieldType := fun k => match k with
  | 0 => .object "ProvenanceTables$State"
  | 1 => .object "ProvenanceTables$State"
  | 2 => .object "ProvenanceTables$History"
  | 3 => .object "ProvenanceTables$Line"
  | 4 => .object "ProvenanceTables$Line"
  | 5 => .object "ProvenanceTables$Query"
  | 6 => .object "ProvenanceTables$Query"
  | 7 => .object "ProvenanceTables$Evaluator"
  | 8 => .object "ProvenanceTables$Polynomial"
  | _ => .object "ProvenanceTables$TagSets"
abbrev wsX100 : List Cond := u_ws RX10 TX10 10
theorem nmX10 : ∀ a, a < 10 → ∀ b, b < 10 → a ≠ b → (TX10 a).2.1 ≠ (TX10 b).2.1 := by decide +kernel
theorem tyX10_ok : ∀ k, k < 10 → parseFieldDescriptor (TX10 k).2.2.1 = some (tyX10 k) := by decide +kernel
abbrev cX10_init : ByteArray := prog_1_method_1_code
def yX10_init : MethodName := ⟨RX10, "<init>", "()V"⟩
abbrev cX10_setColumns : ByteArray := prog_1_method_2_code
def yX10_setColumns : MethodName := ⟨RX10, "setColumns", "(II)I"⟩
abbrev cX10_addRow : ByteArray := prog_1_method_3_code
def yX10_addRow : MethodName := ⟨RX10, "addRow", "(II)I"⟩
abbrev cX10_dropRow : ByteArray := prog_1_method_4_code
def yX10_dropRow : MethodName := ⟨RX10, "dropRow", "(I)I"⟩
abbrev cX10_setCost : ByteArray := prog_1_method_5_code
def yX10_setCost : MethodName := ⟨RX10, "setCost", "(II)I"⟩
abbrev cX10_setTrust : ByteArray := prog_1_method_6_code
def yX10_setTrust : MethodName := ⟨RX10, "setTrust", "(II)I"⟩
abbrev cX10_setWithdrawn : ByteArray := prog_1_method_7_code
def yX10_setWithdrawn : MethodName := ⟨RX10, "setWithdrawn", "(IZ)I"⟩
abbrev cX10_setQuery : ByteArray := prog_1_method_8_code
def yX10_setQuery : MethodName := ⟨RX10, "setQuery", "()I"⟩
abbrev cX10_dropQuery : ByteArray := prog_1_method_9_code
def yX10_dropQuery : MethodName := ⟨RX10, "dropQuery", "()I"⟩
abbrev cX10_append : ByteArray := prog_1_method_10_code
def yX10_append : MethodName := ⟨RX10, "append", "(I)I"⟩
abbrev cX10_clearText : ByteArray := prog_1_method_11_code
def yX10_clearText : MethodName := ⟨RX10, "clearText", "()I"⟩
abbrev cX10_fault : ByteArray := prog_1_method_12_code
def yX10_fault : MethodName := ⟨RX10, "fault", "()I"⟩
abbrev cX10_undo : ByteArray := prog_1_method_13_code
def yX10_undo : MethodName := ⟨RX10, "undo", "()I"⟩
abbrev cX10_columns : ByteArray := prog_1_method_14_code
def yX10_columns : MethodName := ⟨RX10, "columns", "(I)I"⟩
abbrev cX10_tags : ByteArray := prog_1_method_15_code
def yX10_tags : MethodName := ⟨RX10, "tags", "()I"⟩
abbrev cX10_withdrawn : ByteArray := prog_1_method_16_code
def yX10_withdrawn : MethodName := ⟨RX10, "withdrawn", "()I"⟩
abbrev cX10_tableOf : ByteArray := prog_1_method_17_code
def yX10_tableOf : MethodName := ⟨RX10, "tableOf", "(I)I"⟩
abbrev cX10_value : ByteArray := prog_1_method_18_code
def yX10_value : MethodName := ⟨RX10, "value", "(II)I"⟩
abbrev cX10_cost : ByteArray := prog_1_method_19_code
def yX10_cost : MethodName := ⟨RX10, "cost", "(I)I"⟩
abbrev cX10_trust : ByteArray := prog_1_method_20_code
def yX10_trust : MethodName := ⟨RX10, "trust", "(I)I"⟩
abbrev cX10_queryLength : ByteArray := prog_1_method_21_code
def yX10_queryLength : MethodName := ⟨RX10, "queryLength", "()I"⟩
abbrev cX10_queryAt : ByteArray := prog_1_method_22_code
def yX10_queryAt : MethodName := ⟨RX10, "queryAt", "(I)I"⟩
abbrev cX10_answerRows : ByteArray := prog_1_method_23_code
def yX10_answerRows : MethodName := ⟨RX10, "answerRows", "()I"⟩
abbrev cX10_answerColumns : ByteArray := prog_1_method_24_code
def yX10_answerColumns : MethodName := ⟨RX10, "answerColumns", "()I"⟩
abbrev cX10_answerValue : ByteArray := prog_1_method_25_code
def yX10_answerValue : MethodName := ⟨RX10, "answerValue", "(II)I"⟩
abbrev cX10_terms : ByteArray := prog_1_method_26_code
def yX10_terms : MethodName := ⟨RX10, "terms", "(II)I"⟩
abbrev cX10_coefficient : ByteArray := prog_1_method_27_code
def yX10_coefficient : MethodName := ⟨RX10, "coefficient", "(III)J"⟩
abbrev cX10_exponent : ByteArray := prog_1_method_28_code
def yX10_exponent : MethodName := ⟨RX10, "exponent", "(IIII)I"⟩
abbrev cX10_lineage : ByteArray := prog_1_method_29_code
def yX10_lineage : MethodName := ⟨RX10, "lineage", "(I)I"⟩
abbrev cX10_derivations : ByteArray := prog_1_method_30_code
def yX10_derivations : MethodName := ⟨RX10, "derivations", "(I)J"⟩
abbrev cX10_leastCost : ByteArray := prog_1_method_31_code
def yX10_leastCost : MethodName := ⟨RX10, "leastCost", "(I)I"⟩
abbrev cX10_cheapestTags : ByteArray := prog_1_method_32_code
def yX10_cheapestTags : MethodName := ⟨RX10, "cheapestTags", "(I)I"⟩
abbrev cX10_answerTrust : ByteArray := prog_1_method_33_code
def yX10_answerTrust : MethodName := ⟨RX10, "answerTrust", "(I)I"⟩
abbrev cX10_confidence : ByteArray := prog_1_method_34_code
def yX10_confidence : MethodName := ⟨RX10, "confidence", "(I)F"⟩
abbrev cX10_needed : ByteArray := prog_1_method_35_code
def yX10_needed : MethodName := ⟨RX10, "needed", "(I)I"⟩
abbrev cX10_worlds : ByteArray := prog_1_method_37_code
def yX10_worlds : MethodName := ⟨RX10, "worlds", "(I)I"⟩
abbrev cX10_lostIf : ByteArray := prog_1_method_38_code
def yX10_lostIf : MethodName := ⟨RX10, "lostIf", "(I)I"⟩
abbrev cX10_isTable : ByteArray := prog_1_method_41_code
def yX10_isTable : MethodName := ⟨RX10, "isTable", "(I)Z"⟩
abbrev cX10_isForm : ByteArray := prog_1_method_42_code
def yX10_isForm : MethodName := ⟨RX10, "isForm", "(I)Z"⟩
abbrev cX10_refreshAnswer : ByteArray := prog_1_method_43_code
def yX10_refreshAnswer : MethodName := ⟨RX10, "refreshAnswer", "()V"⟩
abbrev cX10_presentRows : ByteArray := prog_1_method_44_code
def yX10_presentRows : MethodName := ⟨RX10, "presentRows", "()I"⟩
abbrev cX10_showAvailable : ByteArray := prog_1_method_45_code
def yX10_showAvailable : MethodName := ⟨RX10, "showAvailable", "(I)Z"⟩
abbrev cX10_cheapestShown : ByteArray := prog_1_method_46_code
def yX10_cheapestShown : MethodName := ⟨RX10, "cheapestShown", "()I"⟩
def RX11 : String := "ProvenanceTablesModel"
def TX11 : u_T := fun k => match k with
  | _ => ("", "", "", false)
def tyX11 : Nat → FieldType := fun k => match k with
  | _ => .int
abbrev wsX110 : List Cond := u_ws RX11 TX11 0
theorem nmX11 : ∀ a, a < 0 → ∀ b, b < 0 → a ≠ b → (TX11 a).2.1 ≠ (TX11 b).2.1 := by decide +kernel
theorem tyX11_ok : ∀ k, k < 0 → parseFieldDescriptor (TX11 k).2.2.1 = some (tyX11 k) := by decide +kernel
def RJ6 : String := "java/lang/Integer"
def TJ6 : u_T := fun k => match k with
  | _ => ("", "", "", false)
def tyJ6 : Nat → FieldType := fun k => match k with
  | _ => .int
abbrev wsJ60 : List Cond := u_ws RJ6 TJ6 0
theorem nmJ6 : ∀ a, a < 0 → ∀ b, b < 0 → a ≠ b → (TJ6 a).2.1 ≠ (TJ6 b).2.1 := by decide +kernel
theorem tyJ6_ok : ∀ k, k < 0 → parseFieldDescriptor (TJ6 k).2.2.1 = some (tyJ6 k) := by decide +kernel
abbrev cJ6_bitCount_0f7a4 : ByteArray := prog_14_method_49_code
def yJ6_bitCount_0f7a4 : MethodName := ⟨RJ6, "bitCount", "(I)I"⟩
def RJ9 : String := "java/lang/Math"
def TJ9 : u_T := fun k => match k with
  | _ => ("", "", "", false)
def tyJ9 : Nat → FieldType := fun k => match k with
  | _ => .int
abbrev wsJ90 : List Cond := u_ws RJ9 TJ9 0
theorem nmJ9 : ∀ a, a < 0 → ∀ b, b < 0 → a ≠ b → (TJ9 a).2.1 ≠ (TJ9 b).2.1 := by decide +kernel
theorem tyJ9_ok : ∀ k, k < 0 → parseFieldDescriptor (TJ9 k).2.2.1 = some (tyJ9 k) := by decide +kernel
abbrev cJ9_max_7cf53 : ByteArray := prog_15_method_65_code
def yJ9_max_7cf53 : MethodName := ⟨RJ9, "max", "(II)I"⟩
abbrev cJ9_min_7cf53 : ByteArray := prog_15_method_69_code
def yJ9_min_7cf53 : MethodName := ⟨RJ9, "min", "(II)I"⟩
def RL : String := "ProvenanceTablesLaw"
abbrev cL_lot : ByteArray := method_2_code
def yL_lot : MethodName := ⟨RL, "lot", "([II)I"⟩
abbrev cL_low : ByteArray := method_3_code
def yL_low : MethodName := ⟨RL, "low", "(II)I"⟩
abbrev cL_look : ByteArray := method_4_code
def yL_look : MethodName := ⟨RL, "look", "(LProvenanceTables;)J"⟩
abbrev cL_holds : ByteArray := method_5_code
def yL_holds : MethodName := ⟨RL, "holds", "(LProvenanceTables;I)Z"⟩
abbrev cL_types : ByteArray := method_6_code
def yL_types : MethodName := ⟨RL, "types", "(LProvenanceTables;I)Z"⟩
abbrev cL_asks : ByteArray := method_7_code
def yL_asks : MethodName := ⟨RL, "asks", "(LProvenanceTables;[II)Z"⟩
abbrev cL_rows : ByteArray := method_8_code
def yL_rows : MethodName := ⟨RL, "rows", "(LProvenanceTables;[III)Z"⟩
abbrev cL_acts : ByteArray := method_9_code
def yL_acts : MethodName := ⟨RL, "acts", "(LProvenanceTables;[III)Z"⟩
abbrev cL_law : ByteArray := code
def yL_law : MethodName := ⟨RL, "law", "([I)Z"⟩
abbrev vwCl : List vw_C := [(RX0, TX0, 4), (RX1, TX1, 2), (RX3, TX3, 2), (RX5, TX5, 3), (RX6, TX6, 10), (RX7, TX7, 4), (RX8, TX8, 8), (RX9, TX9, 4), (RX10, TX10, 10)]
/-- the words that every method of the system may be handed: those of the tables that stay as classes are warmed -/
def TB : List Cond := lw_tbl.filter goodWord
theorem TB_in : ∀ w ∈ TB, w ∈ lw_tbl := fun w h => (List.mem_filter.mp h).1
theorem TB_good : ∀ w ∈ TB, goodWord w = true := fun w h => (List.mem_filter.mp h).2
theorem tb_t {w : Cond} (h : w ∈ tables_1) (hg : goodWord w = true) : w ∈ TB := List.mem_filter.mpr ⟨List.mem_append_right _ h, hg⟩
theorem tm_1 {w : Cond} {i : Nat} (h : tables_1_1[i]? = some w) : w ∈ tables_1 := List.mem_append_left _ (List.mem_of_getElem? h)
theorem tb_1 {w : Cond} {i : Nat} (h : tables_1_1[i]? = some w) (hg : goodWord w = true) : w ∈ TB := tb_t (tm_1 h) hg
theorem tm_2 {w : Cond} {i : Nat} (h : tables_1_2[i]? = some w) : w ∈ tables_1 := List.mem_append_right _ (List.mem_append_left _ (List.mem_of_getElem? h))
theorem tb_2 {w : Cond} {i : Nat} (h : tables_1_2[i]? = some w) (hg : goodWord w = true) : w ∈ TB := tb_t (tm_2 h) hg
theorem tm_3 {w : Cond} {i : Nat} (h : tables_1_3[i]? = some w) : w ∈ tables_1 := List.mem_append_right _ (List.mem_append_right _ (List.mem_append_left _ (List.mem_of_getElem? h)))
theorem tb_3 {w : Cond} {i : Nat} (h : tables_1_3[i]? = some w) (hg : goodWord w = true) : w ∈ TB := tb_t (tm_3 h) hg
theorem tm_4 {w : Cond} {i : Nat} (h : tables_1_4[i]? = some w) : w ∈ tables_1 := List.mem_append_right _ (List.mem_append_right _ (List.mem_append_right _ (List.mem_of_getElem? h)))
theorem tb_4 {w : Cond} {i : Nat} (h : tables_1_4[i]? = some w) (hg : goodWord w = true) : w ∈ TB := tb_t (tm_4 h) hg
theorem tb_p {q : MethodName × Nat} (h : q ∈ lw_privs) : Cond.selects q.1.cls q.1 q.1 ∈ TB := List.mem_filter.mpr ⟨List.mem_append_left _ (List.mem_map.mpr ⟨q, h, rfl⟩), rfl⟩
