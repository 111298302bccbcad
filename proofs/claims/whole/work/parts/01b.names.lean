/-! ===== names, fields, methods (printed), and one list of words for all ===== -/

/-! ===== BEGIN printed: names, fields, word lists, decode rows ===== -/
def RX0 : String := "CallBoard$Cells"
def TX0 : u_T := fun k => match k with
  | 0 => ("CallBoard$Cells", "classes", "[I", true)
  | 1 => ("CallBoard$Cells", "weights", "[I", true)
  | 2 => ("CallBoard$Cells", "takers", "[I", true)
  | 3 => ("CallBoard$Cells", "size", "I", false)
  | 4 => ("CallBoard$Cells", "starts", "[I", true)
  | 5 => ("CallBoard$Cells", "startTakers", "[I", true)
  | _ => ("CallBoard$Cells", "startCount", "I", false)
def tyX0 : Nat → FieldType := fun k => match k with
  | 0 => .array .int
  | 1 => .array .int
  | 2 => .array .int
  | 3 => .int
  | 4 => .array .int
  | 5 => .array .int
  | _ => .int
abbrev wsX00 : List Cond := u_ws RX0 TX0 7
theorem nmX0 : ∀ a, a < 7 → ∀ b, b < 7 → a ≠ b → (TX0 a).2.1 ≠ (TX0 b).2.1 := by decide +kernel
theorem tyX0_ok : ∀ k, k < 7 → parseFieldDescriptor (TX0 k).2.2.1 = some (tyX0 k) := by decide +kernel
abbrev cX0_init : ByteArray := prog_2_method_1_code
def yX0_init : MethodName := ⟨RX0, "<init>", "()V"⟩
abbrev cX0_fill : ByteArray := prog_2_method_2_code
def yX0_fill : MethodName := ⟨RX0, "fill", "(LCallBoard$Function;I)V"⟩
abbrev cX0_addClass : ByteArray := prog_2_method_3_code
def yX0_addClass : MethodName := ⟨RX0, "addClass", "(II)V"⟩
abbrev cX0_addNew : ByteArray := prog_2_method_4_code
def yX0_addNew : MethodName := ⟨RX0, "addNew", "(III)V"⟩
abbrev cX0_findStarts : ByteArray := prog_2_method_5_code
def yX0_findStarts : MethodName := ⟨RX0, "findStarts", "(LCallBoard$Function;I)V"⟩
abbrev cX0_addStart : ByteArray := prog_2_method_6_code
def yX0_addStart : MethodName := ⟨RX0, "addStart", "(I)V"⟩
def RX1 : String := "CallBoard$Function"
def TX1 : u_T := fun k => match k with
  | 0 => ("CallBoard$Function", "table", "LCallBoard$Table;", true)
  | 1 => ("CallBoard$Function", "number", "I", true)
  | 2 => ("CallBoard$Function", "places", "I", true)
  | 3 => ("CallBoard$Function", "memory", "LCallBoard$Memory;", true)
  | 4 => ("CallBoard$Function", "ordered", "[I", true)
  | 5 => ("CallBoard$Function", "laid", "[LCallBoard$Handler;", true)
  | 6 => ("CallBoard$Function", "beaten", "[I", true)
  | 7 => ("CallBoard$Function", "laidCount", "I", false)
  | 8 => ("CallBoard$Function", "plain", "I", false)
  | _ => ("CallBoard$Function", "frozen", "Z", false)
def tyX1 : Nat → FieldType := fun k => match k with
  | 0 => .object "CallBoard$Table"
  | 1 => .int
  | 2 => .int
  | 3 => .object "CallBoard$Memory"
  | 4 => .array .int
  | 5 => .array (.object "CallBoard$Handler")
  | 6 => .array .int
  | 7 => .int
  | 8 => .int
  | _ => .boolean
abbrev wsX10 : List Cond := u_ws RX1 TX1 10
theorem nmX1 : ∀ a, a < 10 → ∀ b, b < 10 → a ≠ b → (TX1 a).2.1 ≠ (TX1 b).2.1 := by decide +kernel
theorem tyX1_ok : ∀ k, k < 10 → parseFieldDescriptor (TX1 k).2.2.1 = some (tyX1 k) := by decide +kernel
abbrev cX1_init : ByteArray := prog_3_method_1_code
def yX1_init : MethodName := ⟨RX1, "<init>", "(LCallBoard$Table;II)V"⟩
abbrev cX1_hasPlace : ByteArray := prog_3_method_2_code
def yX1_hasPlace : MethodName := ⟨RX1, "hasPlace", "(I)Z"⟩
abbrev cX1_laidAt : ByteArray := prog_3_method_3_code
def yX1_laidAt : MethodName := ⟨RX1, "laidAt", "(I)LCallBoard$Handler;"⟩
abbrev cX1_numberAt : ByteArray := prog_3_method_4_code
def yX1_numberAt : MethodName := ⟨RX1, "numberAt", "(I)I"⟩
abbrev cX1_indexOf : ByteArray := prog_3_method_5_code
def yX1_indexOf : MethodName := ⟨RX1, "indexOf", "(LCallBoard$Handler;)I"⟩
abbrev cX1_hasLaidSame : ByteArray := prog_3_method_6_code
def yX1_hasLaidSame : MethodName := ⟨RX1, "hasLaidSame", "(LCallBoard$Handler;)Z"⟩
abbrev cX1_putLaid : ByteArray := prog_3_method_7_code
def yX1_putLaid : MethodName := ⟨RX1, "putLaid", "(LCallBoard$Handler;)Z"⟩
abbrev cX1_dropLaid : ByteArray := prog_3_method_8_code
def yX1_dropLaid : MethodName := ⟨RX1, "dropLaid", "(LCallBoard$Handler;)V"⟩
abbrev cX1_compareLaid : ByteArray := prog_3_method_9_code
def yX1_compareLaid : MethodName := ⟨RX1, "compareLaid", "()V"⟩
abbrev cX1_putInOrder : ByteArray := prog_3_method_10_code
def yX1_putInOrder : MethodName := ⟨RX1, "putInOrder", "()V"⟩
abbrev cX1_beatenByAny : ByteArray := prog_3_method_11_code
def yX1_beatenByAny : MethodName := ⟨RX1, "beatenByAny", "(I)I"⟩
abbrev cX1_beatenBy : ByteArray := prog_3_method_12_code
def yX1_beatenBy : MethodName := ⟨RX1, "beatenBy", "(I)I"⟩
abbrev cX1_beatersOf : ByteArray := prog_3_method_13_code
def yX1_beatersOf : MethodName := ⟨RX1, "beatersOf", "(I)I"⟩
abbrev cX1_takersOf : ByteArray := prog_3_method_14_code
def yX1_takersOf : MethodName := ⟨RX1, "takersOf", "(LCallBoard$Row;)I"⟩
abbrev cX1_plainTakersOf : ByteArray := prog_3_method_15_code
def yX1_plainTakersOf : MethodName := ⟨RX1, "plainTakersOf", "(LCallBoard$Row;)I"⟩
abbrev cX1_takersOfClass : ByteArray := prog_3_method_16_code
def yX1_takersOfClass : MethodName := ⟨RX1, "takersOfClass", "(II)I"⟩
abbrev cX1_takersOfWeight : ByteArray := prog_3_method_17_code
def yX1_takersOfWeight : MethodName := ⟨RX1, "takersOfWeight", "(II)I"⟩
abbrev cX1_chosenOf : ByteArray := prog_3_method_18_code
def yX1_chosenOf : MethodName := ⟨RX1, "chosenOf", "(I)I"⟩
abbrev cX1_lookForRow : ByteArray := prog_3_method_19_code
def yX1_lookForRow : MethodName := ⟨RX1, "lookForRow", "(LCallBoard$Row;)V"⟩
abbrev cX1_pieceOf : ByteArray := prog_3_method_20_code
def yX1_pieceOf : MethodName := ⟨RX1, "pieceOf", "(II)J"⟩
def RX2 : String := "CallBoard$Handler"
def TX2 : u_T := fun k => match k with
  | 0 => ("CallBoard$Handler", "owner", "LCallBoard$Function;", true)
  | 1 => ("CallBoard$Handler", "number", "I", true)
  | 2 => ("CallBoard$Handler", "action", "I", true)
  | 3 => ("CallBoard$Handler", "value", "I", true)
  | 4 => ("CallBoard$Handler", "around", "Z", true)
  | 5 => ("CallBoard$Handler", "codes", "[I", true)
  | 6 => ("CallBoard$Handler", "lows", "[I", true)
  | 7 => ("CallBoard$Handler", "highs", "[I", true)
  | _ => ("CallBoard$Handler", "state", "I", false)
def tyX2 : Nat → FieldType := fun k => match k with
  | 0 => .object "CallBoard$Function"
  | 1 => .int
  | 2 => .int
  | 3 => .int
  | 4 => .boolean
  | 5 => .array .int
  | 6 => .array .int
  | 7 => .array .int
  | _ => .int
abbrev wsX20 : List Cond := u_ws RX2 TX2 9
theorem nmX2 : ∀ a, a < 9 → ∀ b, b < 9 → a ≠ b → (TX2 a).2.1 ≠ (TX2 b).2.1 := by decide +kernel
theorem tyX2_ok : ∀ k, k < 9 → parseFieldDescriptor (TX2 k).2.2.1 = some (tyX2 k) := by decide +kernel
abbrev cX2_init : ByteArray := prog_4_method_1_code
def yX2_init : MethodName := ⟨RX2, "<init>", "(LCallBoard$Function;IIIZ)V"⟩
abbrev cX2_takesClass : ByteArray := prog_4_method_2_code
def yX2_takesClass : MethodName := ⟨RX2, "takesClass", "(II)Z"⟩
abbrev cX2_takesWeight : ByteArray := prog_4_method_3_code
def yX2_takesWeight : MethodName := ⟨RX2, "takesWeight", "(II)Z"⟩
abbrev cX2_firstRefusingPlace : ByteArray := prog_4_method_4_code
def yX2_firstRefusingPlace : MethodName := ⟨RX2, "firstRefusingPlace", "(LCallBoard$Row;)I"⟩
abbrev cX2_isSameAt : ByteArray := prog_4_method_5_code
def yX2_isSameAt : MethodName := ⟨RX2, "isSameAt", "(ILCallBoard$Handler;)Z"⟩
abbrev cX2_isNarrowerAt : ByteArray := prog_4_method_6_code
def yX2_isNarrowerAt : MethodName := ⟨RX2, "isNarrowerAt", "(ILCallBoard$Handler;)Z"⟩
abbrev cX2_isSameAs : ByteArray := prog_4_method_7_code
def yX2_isSameAs : MethodName := ⟨RX2, "isSameAs", "(LCallBoard$Handler;)Z"⟩
abbrev cX2_isMoreSpecific : ByteArray := prog_4_method_8_code
def yX2_isMoreSpecific : MethodName := ⟨RX2, "isMoreSpecific", "(LCallBoard$Handler;)Z"⟩
def RX3 : String := "CallBoard$Latest"
def TX3 : u_T := fun k => match k with
  | 0 => ("CallBoard$Latest", "steps", "[I", true)
  | 1 => ("CallBoard$Latest", "stepCount", "I", false)
  | 2 => ("CallBoard$Latest", "deepest", "I", false)
  | 3 => ("CallBoard$Latest", "outcome", "I", false)
  | 4 => ("CallBoard$Latest", "failed", "I", false)
  | _ => ("CallBoard$Latest", "sum", "J", false)
def tyX3 : Nat → FieldType := fun k => match k with
  | 0 => .array .int
  | 1 => .int
  | 2 => .int
  | 3 => .int
  | 4 => .int
  | _ => .long
abbrev wsX30 : List Cond := u_ws RX3 TX3 6
theorem nmX3 : ∀ a, a < 6 → ∀ b, b < 6 → a ≠ b → (TX3 a).2.1 ≠ (TX3 b).2.1 := by decide +kernel
theorem tyX3_ok : ∀ k, k < 6 → parseFieldDescriptor (TX3 k).2.2.1 = some (tyX3 k) := by decide +kernel
abbrev cX3_init : ByteArray := prog_5_method_1_code
def yX3_init : MethodName := ⟨RX3, "<init>", "()V"⟩
abbrev cX3_begin : ByteArray := prog_5_method_2_code
def yX3_begin : MethodName := ⟨RX3, "begin", "()V"⟩
abbrev cX3_addStep : ByteArray := prog_5_method_3_code
def yX3_addStep : MethodName := ⟨RX3, "addStep", "(I)V"⟩
abbrev cX3_endWithValue : ByteArray := prog_5_method_4_code
def yX3_endWithValue : MethodName := ⟨RX3, "endWithValue", "(J)V"⟩
abbrev cX3_endWithFailure : ByteArray := prog_5_method_5_code
def yX3_endWithFailure : MethodName := ⟨RX3, "endWithFailure", "(I)V"⟩
def RX4 : String := "CallBoard$Memory"
def TX4 : u_T := fun k => match k with
  | 0 => ("CallBoard$Memory", "classes", "[I", true)
  | 1 => ("CallBoard$Memory", "firstPieces", "[J", true)
  | 2 => ("CallBoard$Memory", "secondPieces", "[J", true)
  | 3 => ("CallBoard$Memory", "looked", "[I", true)
  | 4 => ("CallBoard$Memory", "looks", "I", false)
  | 5 => ("CallBoard$Memory", "size", "I", false)
  | _ => ("CallBoard$Memory", "hits", "I", false)
def tyX4 : Nat → FieldType := fun k => match k with
  | 0 => .array .int
  | 1 => .array .long
  | 2 => .array .long
  | 3 => .array .int
  | 4 => .int
  | 5 => .int
  | _ => .int
abbrev wsX40 : List Cond := u_ws RX4 TX4 7
theorem nmX4 : ∀ a, a < 7 → ∀ b, b < 7 → a ≠ b → (TX4 a).2.1 ≠ (TX4 b).2.1 := by decide +kernel
theorem tyX4_ok : ∀ k, k < 7 → parseFieldDescriptor (TX4 k).2.2.1 = some (tyX4 k) := by decide +kernel
abbrev cX4_init : ByteArray := prog_6_method_1_code
def yX4_init : MethodName := ⟨RX4, "<init>", "()V"⟩
abbrev cX4_forget : ByteArray := prog_6_method_2_code
def yX4_forget : MethodName := ⟨RX4, "forget", "()V"⟩
abbrev cX4_look : ByteArray := prog_6_method_3_code
def yX4_look : MethodName := ⟨RX4, "look", "(IJJ)V"⟩
abbrev cX4_find : ByteArray := prog_6_method_4_code
def yX4_find : MethodName := ⟨RX4, "find", "(IJJ)I"⟩
abbrev cX4_makeRoom : ByteArray := prog_6_method_5_code
def yX4_makeRoom : MethodName := ⟨RX4, "makeRoom", "()I"⟩
def RX5 : String := "CallBoard$Proof"
def TX5 : u_T := fun k => match k with
  | 0 => ("CallBoard$Proof", "first", "LCallBoard$Cells;", true)
  | 1 => ("CallBoard$Proof", "second", "LCallBoard$Cells;", true)
  | 2 => ("CallBoard$Proof", "atFirst", "I", false)
  | 3 => ("CallBoard$Proof", "atSecond", "I", false)
  | 4 => ("CallBoard$Proof", "lesser", "I", false)
  | _ => ("CallBoard$Proof", "greater", "I", false)
def tyX5 : Nat → FieldType := fun k => match k with
  | 0 => .object "CallBoard$Cells"
  | 1 => .object "CallBoard$Cells"
  | 2 => .int
  | 3 => .int
  | 4 => .int
  | _ => .int
abbrev wsX50 : List Cond := u_ws RX5 TX5 6
theorem nmX5 : ∀ a, a < 6 → ∀ b, b < 6 → a ≠ b → (TX5 a).2.1 ≠ (TX5 b).2.1 := by decide +kernel
theorem tyX5_ok : ∀ k, k < 6 → parseFieldDescriptor (TX5 k).2.2.1 = some (tyX5 k) := by decide +kernel
abbrev cX5_init : ByteArray := prog_7_method_1_code
def yX5_init : MethodName := ⟨RX5, "<init>", "()V"⟩
abbrev cX5_fillCells : ByteArray := prog_7_method_2_code
def yX5_fillCells : MethodName := ⟨RX5, "fillCells", "(LCallBoard$Function;)V"⟩
abbrev cX5_findHole : ByteArray := prog_7_method_3_code
def yX5_findHole : MethodName := ⟨RX5, "findHole", "(LCallBoard$Function;)Z"⟩
abbrev cX5_findDoubt : ByteArray := prog_7_method_4_code
def yX5_findDoubt : MethodName := ⟨RX5, "findDoubt", "(LCallBoard$Function;I)Z"⟩
abbrev cX5_haveDoubt : ByteArray := prog_7_method_5_code
def yX5_haveDoubt : MethodName := ⟨RX5, "haveDoubt", "(LCallBoard$Function;II)Z"⟩
abbrev cX5_foundAt : ByteArray := prog_7_method_6_code
def yX5_foundAt : MethodName := ⟨RX5, "foundAt", "(II)Z"⟩
abbrev cX5_partOfTuple : ByteArray := prog_7_method_7_code
def yX5_partOfTuple : MethodName := ⟨RX5, "partOfTuple", "(I)I"⟩
def RX6 : String := "CallBoard$Row"
def TX6 : u_T := fun k => match k with
  | 0 => ("CallBoard$Row", "classes", "[I", true)
  | 1 => ("CallBoard$Row", "weights", "[I", true)
  | _ => ("CallBoard$Row", "places", "I", false)
def tyX6 : Nat → FieldType := fun k => match k with
  | 0 => .array .int
  | 1 => .array .int
  | _ => .int
abbrev wsX60 : List Cond := u_ws RX6 TX6 3
theorem nmX6 : ∀ a, a < 3 → ∀ b, b < 3 → a ≠ b → (TX6 a).2.1 ≠ (TX6 b).2.1 := by decide +kernel
theorem tyX6_ok : ∀ k, k < 3 → parseFieldDescriptor (TX6 k).2.2.1 = some (tyX6 k) := by decide +kernel
abbrev cX6_init : ByteArray := prog_8_method_1_code
def yX6_init : MethodName := ⟨RX6, "<init>", "()V"⟩
abbrev cX6_weightTogether : ByteArray := prog_8_method_2_code
def yX6_weightTogether : MethodName := ⟨RX6, "weightTogether", "()J"⟩
abbrev cX6_turnRound : ByteArray := prog_8_method_3_code
def yX6_turnRound : MethodName := ⟨RX6, "turnRound", "()V"⟩
def RX7 : String := "CallBoard$Stock"
def TX7 : u_T := fun k => match k with
  | 0 => ("CallBoard$Stock", "classes", "[I", true)
  | 1 => ("CallBoard$Stock", "weights", "[I", true)
  | _ => ("CallBoard$Stock", "size", "I", false)
def tyX7 : Nat → FieldType := fun k => match k with
  | 0 => .array .int
  | 1 => .array .int
  | _ => .int
abbrev wsX70 : List Cond := u_ws RX7 TX7 3
theorem nmX7 : ∀ a, a < 3 → ∀ b, b < 3 → a ≠ b → (TX7 a).2.1 ≠ (TX7 b).2.1 := by decide +kernel
theorem tyX7_ok : ∀ k, k < 3 → parseFieldDescriptor (TX7 k).2.2.1 = some (tyX7 k) := by decide +kernel
abbrev cX7_init : ByteArray := prog_9_method_1_code
def yX7_init : MethodName := ⟨RX7, "<init>", "()V"⟩
abbrev cX7_holds : ByteArray := prog_9_method_2_code
def yX7_holds : MethodName := ⟨RX7, "holds", "(I)Z"⟩
abbrev cX7_bring : ByteArray := prog_9_method_3_code
def yX7_bring : MethodName := ⟨RX7, "bring", "(II)I"⟩
def RX8 : String := "CallBoard$Table"
def TX8 : u_T := fun k => match k with
  | 0 => ("CallBoard$Table", "parents", "[I", true)
  | 1 => ("CallBoard$Table", "traits", "[I", true)
  | 2 => ("CallBoard$Table", "reach", "[I", true)
  | 3 => ("CallBoard$Table", "abstracts", "I", false)
  | _ => ("CallBoard$Table", "closed", "Z", false)
def tyX8 : Nat → FieldType := fun k => match k with
  | 0 => .array .int
  | 1 => .array .int
  | 2 => .array .int
  | 3 => .int
  | _ => .boolean
abbrev wsX80 : List Cond := u_ws RX8 TX8 5
theorem nmX8 : ∀ a, a < 5 → ∀ b, b < 5 → a ≠ b → (TX8 a).2.1 ≠ (TX8 b).2.1 := by decide +kernel
theorem tyX8_ok : ∀ k, k < 5 → parseFieldDescriptor (TX8 k).2.2.1 = some (tyX8 k) := by decide +kernel
abbrev cX8_init : ByteArray := prog_10_method_1_code
def yX8_init : MethodName := ⟨RX8, "<init>", "()V"⟩
abbrev cX8_addTrait : ByteArray := prog_10_method_2_code
def yX8_addTrait : MethodName := ⟨RX8, "addTrait", "(II)I"⟩
abbrev cX8_isAbstract : ByteArray := prog_10_method_3_code
def yX8_isAbstract : MethodName := ⟨RX8, "isAbstract", "(I)Z"⟩
abbrev cX8_findReach : ByteArray := prog_10_method_4_code
def yX8_findReach : MethodName := ⟨RX8, "findReach", "()V"⟩
abbrev cX8_goesRound : ByteArray := prog_10_method_5_code
def yX8_goesRound : MethodName := ⟨RX8, "goesRound", "()Z"⟩
abbrev cX8_isBelow : ByteArray := prog_10_method_6_code
def yX8_isBelow : MethodName := ⟨RX8, "isBelow", "(II)Z"⟩
def RX9 : String := "CallBoard"
def TX9 : u_T := fun k => match k with
  | 0 => ("CallBoard", "table", "LCallBoard$Table;", true)
  | 1 => ("CallBoard", "stock", "LCallBoard$Stock;", true)
  | 2 => ("CallBoard", "functions", "[LCallBoard$Function;", true)
  | 3 => ("CallBoard", "handlers", "[LCallBoard$Handler;", true)
  | 4 => ("CallBoard", "told", "[I", true)
  | 5 => ("CallBoard", "counters", "[I", true)
  | 6 => ("CallBoard", "row", "LCallBoard$Row;", true)
  | 7 => ("CallBoard", "latest", "LCallBoard$Latest;", true)
  | 8 => ("CallBoard", "proof", "LCallBoard$Proof;", true)
  | 9 => ("CallBoard", "functionCount", "I", false)
  | 10 => ("CallBoard", "handlerCount", "I", false)
  | _ => ("CallBoard", "explained", "I", false)
def tyX9 : Nat → FieldType := fun k => match k with
  | 0 => .object "CallBoard$Table"
  | 1 => .object "CallBoard$Stock"
  | 2 => .array (.object "CallBoard$Function")
  | 3 => .array (.object "CallBoard$Handler")
  | 4 => .array .int
  | 5 => .array .int
  | 6 => .object "CallBoard$Row"
  | 7 => .object "CallBoard$Latest"
  | 8 => .object "CallBoard$Proof"
  | 9 => .int
  | 10 => .int
  | _ => .int
abbrev wsX90 : List Cond := u_ws RX9 TX9 12
theorem nmX9 : ∀ a, a < 12 → ∀ b, b < 12 → a ≠ b → (TX9 a).2.1 ≠ (TX9 b).2.1 := by decide +kernel
theorem tyX9_ok : ∀ k, k < 12 → parseFieldDescriptor (TX9 k).2.2.1 = some (tyX9 k) := by decide +kernel
abbrev cX9_init : ByteArray := prog_1_method_1_code
def yX9_init : MethodName := ⟨RX9, "<init>", "()V"⟩
abbrev cX9_parent : ByteArray := prog_1_method_2_code
def yX9_parent : MethodName := ⟨RX9, "parent", "(II)I"⟩
abbrev cX9_trait : ByteArray := prog_1_method_3_code
def yX9_trait : MethodName := ⟨RX9, "trait", "(II)I"⟩
abbrev cX9_has : ByteArray := prog_1_method_4_code
def yX9_has : MethodName := ⟨RX9, "has", "(II)I"⟩
abbrev cX9_flag : ByteArray := prog_1_method_5_code
def yX9_flag : MethodName := ⟨RX9, "flag", "(I)I"⟩
abbrev cX9_close : ByteArray := prog_1_method_6_code
def yX9_close : MethodName := ⟨RX9, "close", "()I"⟩
abbrev cX9_below : ByteArray := prog_1_method_7_code
def yX9_below : MethodName := ⟨RX9, "below", "(II)Z"⟩
abbrev cX9_sample : ByteArray := prog_1_method_8_code
def yX9_sample : MethodName := ⟨RX9, "sample", "(II)I"⟩
abbrev cX9_of : ByteArray := prog_1_method_9_code
def yX9_of : MethodName := ⟨RX9, "of", "(II)I"⟩
abbrev cX9_samples : ByteArray := prog_1_method_10_code
def yX9_samples : MethodName := ⟨RX9, "samples", "()I"⟩
abbrev cX9_function : ByteArray := prog_1_method_11_code
def yX9_function : MethodName := ⟨RX9, "function", "(I)I"⟩
abbrev cX9_handler : ByteArray := prog_1_method_12_code
def yX9_handler : MethodName := ⟨RX9, "handler", "(IIIZ)I"⟩
abbrev cX9_place : ByteArray := prog_1_method_13_code
def yX9_place : MethodName := ⟨RX9, "place", "(III)I"⟩
abbrev cX9_test : ByteArray := prog_1_method_14_code
def yX9_test : MethodName := ⟨RX9, "test", "(IIII)I"⟩
abbrev cX9_lay : ByteArray := prog_1_method_15_code
def yX9_lay : MethodName := ⟨RX9, "lay", "(I)I"⟩
abbrev cX9_lift : ByteArray := prog_1_method_16_code
def yX9_lift : MethodName := ⟨RX9, "lift", "(I)I"⟩
abbrev cX9_freeze : ByteArray := prog_1_method_17_code
def yX9_freeze : MethodName := ⟨RX9, "freeze", "(IZ)I"⟩
abbrev cX9_about : ByteArray := prog_1_method_18_code
def yX9_about : MethodName := ⟨RX9, "about", "(II)I"⟩
abbrev cX9_dominates : ByteArray := prog_1_method_19_code
def yX9_dominates : MethodName := ⟨RX9, "dominates", "(II)Z"⟩
abbrev cX9_order : ByteArray := prog_1_method_20_code
def yX9_order : MethodName := ⟨RX9, "order", "(II)I"⟩
abbrev cX9_arg : ByteArray := prog_1_method_21_code
def yX9_arg : MethodName := ⟨RX9, "arg", "(II)I"⟩
abbrev cX9_call : ByteArray := prog_1_method_22_code
def yX9_call : MethodName := ⟨RX9, "call", "(I)I"⟩
abbrev cX9_value : ByteArray := prog_1_method_23_code
def yX9_value : MethodName := ⟨RX9, "value", "()J"⟩
abbrev cX9_failure : ByteArray := prog_1_method_24_code
def yX9_failure : MethodName := ⟨RX9, "failure", "()I"⟩
abbrev cX9_step : ByteArray := prog_1_method_25_code
def yX9_step : MethodName := ⟨RX9, "step", "(I)I"⟩
abbrev cX9_counter : ByteArray := prog_1_method_26_code
def yX9_counter : MethodName := ⟨RX9, "counter", "(I)I"⟩
abbrev cX9_applicable : ByteArray := prog_1_method_27_code
def yX9_applicable : MethodName := ⟨RX9, "applicable", "(II)I"⟩
abbrev cX9_most : ByteArray := prog_1_method_28_code
def yX9_most : MethodName := ⟨RX9, "most", "(I)I"⟩
abbrev cX9_explain : ByteArray := prog_1_method_29_code
def yX9_explain : MethodName := ⟨RX9, "explain", "(I)I"⟩
abbrev cX9_where : ByteArray := prog_1_method_30_code
def yX9_where : MethodName := ⟨RX9, "where", "()I"⟩
abbrev cX9_count : ByteArray := prog_1_method_31_code
def yX9_count : MethodName := ⟨RX9, "count", "(II)I"⟩
abbrev cX9_covered : ByteArray := prog_1_method_32_code
def yX9_covered : MethodName := ⟨RX9, "covered", "(I)I"⟩
abbrev cX9_hole : ByteArray := prog_1_method_33_code
def yX9_hole : MethodName := ⟨RX9, "hole", "(II)J"⟩
abbrev cX9_doubt : ByteArray := prog_1_method_34_code
def yX9_doubt : MethodName := ⟨RX9, "doubt", "(III)J"⟩
abbrev cX9_isClass : ByteArray := prog_1_method_35_code
def yX9_isClass : MethodName := ⟨RX9, "isClass", "(I)Z"⟩
abbrev cX9_isTrait : ByteArray := prog_1_method_36_code
def yX9_isTrait : MethodName := ⟨RX9, "isTrait", "(I)Z"⟩
abbrev cX9_isCode : ByteArray := prog_1_method_37_code
def yX9_isCode : MethodName := ⟨RX9, "isCode", "(I)Z"⟩
abbrev cX9_elementOrZero : ByteArray := prog_1_method_38_code
def yX9_elementOrZero : MethodName := ⟨RX9, "elementOrZero", "([II)I"⟩
abbrev cX9_memberAt : ByteArray := prog_1_method_39_code
def yX9_memberAt : MethodName := ⟨RX9, "memberAt", "(II)I"⟩
abbrev cX9_functionAt : ByteArray := prog_1_method_40_code
def yX9_functionAt : MethodName := ⟨RX9, "functionAt", "(I)LCallBoard$Function;"⟩
abbrev cX9_handlerAt : ByteArray := prog_1_method_41_code
def yX9_handlerAt : MethodName := ⟨RX9, "handlerAt", "(I)LCallBoard$Handler;"⟩
abbrev cX9_readToldRow : ByteArray := prog_1_method_42_code
def yX9_readToldRow : MethodName := ⟨RX9, "readToldRow", "(LCallBoard$Function;)Z"⟩
abbrev cX9_countOfAll : ByteArray := prog_1_method_43_code
def yX9_countOfAll : MethodName := ⟨RX9, "countOfAll", "(I)I"⟩
abbrev cX9_explainAmongTakers : ByteArray := prog_1_method_44_code
def yX9_explainAmongTakers : MethodName := ⟨RX9, "explainAmongTakers", "(LCallBoard$Handler;)I"⟩
abbrev cX9_carryOut : ByteArray := prog_1_method_45_code
def yX9_carryOut : MethodName := ⟨RX9, "carryOut", "(LCallBoard$Function;)LCallBoard$Function;"⟩
abbrev cX9_isBarred : ByteArray := prog_1_method_46_code
def yX9_isBarred : MethodName := ⟨RX9, "isBarred", "(LCallBoard$Function;)Z"⟩
abbrev cX9_runChosen : ByteArray := prog_1_method_47_code
def yX9_runChosen : MethodName := ⟨RX9, "runChosen", "(LCallBoard$Function;I)LCallBoard$Function;"⟩
abbrev cX9_act : ByteArray := prog_1_method_48_code
def yX9_act : MethodName := ⟨RX9, "act", "(LCallBoard$Handler;)LCallBoard$Function;"⟩
abbrev cX9_countUp : ByteArray := prog_1_method_49_code
def yX9_countUp : MethodName := ⟨RX9, "countUp", "(I)I"⟩
abbrev cX9_bringSample : ByteArray := prog_1_method_50_code
def yX9_bringSample : MethodName := ⟨RX9, "bringSample", "(I)V"⟩
abbrev cX9_calledWithin : ByteArray := prog_1_method_51_code
def yX9_calledWithin : MethodName := ⟨RX9, "calledWithin", "(LCallBoard$Handler;)LCallBoard$Function;"⟩
def RX10 : String := "CallBoardModel"
def TX10 : u_T := fun k => match k with
  | 0 => ("CallBoardModel", "parents", "[I", true)
  | 1 => ("CallBoardModel", "direct", "[Z", true)
  | 2 => ("CallBoardModel", "under", "[Z", true)
  | 3 => ("CallBoardModel", "unmade", "[Z", true)
  | 4 => ("CallBoardModel", "closed", "Z", false)
  | 5 => ("CallBoardModel", "samples", "I", false)
  | 6 => ("CallBoardModel", "kinds", "[I", true)
  | 7 => ("CallBoardModel", "weights", "[I", true)
  | 8 => ("CallBoardModel", "functions", "I", false)
  | 9 => ("CallBoardModel", "places", "[I", true)
  | 10 => ("CallBoardModel", "frozen", "[Z", true)
  | 11 => ("CallBoardModel", "hits", "[I", true)
  | 12 => ("CallBoardModel", "rows", "[J", true)
  | 13 => ("CallBoardModel", "rowMany", "[I", true)
  | 14 => ("CallBoardModel", "handlers", "I", false)
  | 15 => ("CallBoardModel", "functionOf", "[I", true)
  | 16 => ("CallBoardModel", "actions", "[I", true)
  | 17 => ("CallBoardModel", "values", "[I", true)
  | 18 => ("CallBoardModel", "around", "[Z", true)
  | 19 => ("CallBoardModel", "states", "[I", true)
  | 20 => ("CallBoardModel", "codes", "[I", true)
  | 21 => ("CallBoardModel", "lows", "[I", true)
  | 22 => ("CallBoardModel", "highs", "[I", true)
  | 23 => ("CallBoardModel", "counters", "[I", true)
  | 24 => ("CallBoardModel", "told", "[I", true)
  | 25 => ("CallBoardModel", "outcome", "I", false)
  | 26 => ("CallBoardModel", "result", "J", false)
  | 27 => ("CallBoardModel", "fault", "I", false)
  | 28 => ("CallBoardModel", "steps", "[I", true)
  | 29 => ("CallBoardModel", "stepMany", "I", false)
  | 30 => ("CallBoardModel", "deepest", "I", false)
  | 31 => ("CallBoardModel", "rowKinds", "[I", true)
  | 32 => ("CallBoardModel", "rowWeights", "[J", true)
  | 33 => ("CallBoardModel", "foundPlace", "I", false)
  | 34 => ("CallBoardModel", "gone", "[Z", true)
  | 35 => ("CallBoardModel", "edges", "[J", true)
  | 36 => ("CallBoardModel", "edgeMany", "[I", true)
  | 37 => ("CallBoardModel", "edgeAt", "[I", true)
  | _ => ("CallBoardModel", "tuple", "[J", true)
def tyX10 : Nat → FieldType := fun k => match k with
  | 0 => .array .int
  | 1 => .array .boolean
  | 2 => .array .boolean
  | 3 => .array .boolean
  | 4 => .boolean
  | 5 => .int
  | 6 => .array .int
  | 7 => .array .int
  | 8 => .int
  | 9 => .array .int
  | 10 => .array .boolean
  | 11 => .array .int
  | 12 => .array .long
  | 13 => .array .int
  | 14 => .int
  | 15 => .array .int
  | 16 => .array .int
  | 17 => .array .int
  | 18 => .array .boolean
  | 19 => .array .int
  | 20 => .array .int
  | 21 => .array .int
  | 22 => .array .int
  | 23 => .array .int
  | 24 => .array .int
  | 25 => .int
  | 26 => .long
  | 27 => .int
  | 28 => .array .int
  | 29 => .int
  | 30 => .int
  | 31 => .array .int
  | 32 => .array .long
  | 33 => .int
  | 34 => .array .boolean
  | 35 => .array .long
  | 36 => .array .int
  | 37 => .array .int
  | _ => .array .long
abbrev wsX100 : List Cond := u_ws RX10 TX10 39
theorem nmX10 : ∀ a, a < 39 → ∀ b, b < 39 → a ≠ b → (TX10 a).2.1 ≠ (TX10 b).2.1 := by decide +kernel
theorem tyX10_ok : ∀ k, k < 39 → parseFieldDescriptor (TX10 k).2.2.1 = some (tyX10 k) := by decide +kernel
abbrev cX10_init : ByteArray := prog_12_method_1_code
def yX10_init : MethodName := ⟨RX10, "<init>", "()V"⟩
abbrev cX10_isClass : ByteArray := prog_12_method_2_code
def yX10_isClass : MethodName := ⟨RX10, "isClass", "(I)Z"⟩
abbrev cX10_isTrait : ByteArray := prog_12_method_3_code
def yX10_isTrait : MethodName := ⟨RX10, "isTrait", "(I)Z"⟩
abbrev cX10_parent : ByteArray := prog_12_method_4_code
def yX10_parent : MethodName := ⟨RX10, "parent", "(II)I"⟩
abbrev cX10_add : ByteArray := prog_12_method_5_code
def yX10_add : MethodName := ⟨RX10, "add", "(II)I"⟩
abbrev cX10_trait : ByteArray := prog_12_method_6_code
def yX10_trait : MethodName := ⟨RX10, "trait", "(II)I"⟩
abbrev cX10_has : ByteArray := prog_12_method_7_code
def yX10_has : MethodName := ⟨RX10, "has", "(II)I"⟩
abbrev cX10_flag : ByteArray := prog_12_method_8_code
def yX10_flag : MethodName := ⟨RX10, "flag", "(I)I"⟩
abbrev cX10_close : ByteArray := prog_12_method_9_code
def yX10_close : MethodName := ⟨RX10, "close", "()I"⟩
abbrev cX10_isBelow : ByteArray := prog_12_method_10_code
def yX10_isBelow : MethodName := ⟨RX10, "isBelow", "(II)Z"⟩
abbrev cX10_below : ByteArray := prog_12_method_11_code
def yX10_below : MethodName := ⟨RX10, "below", "(II)Z"⟩
abbrev cX10_sample : ByteArray := prog_12_method_12_code
def yX10_sample : MethodName := ⟨RX10, "sample", "(II)I"⟩
abbrev cX10_of : ByteArray := prog_12_method_13_code
def yX10_of : MethodName := ⟨RX10, "of", "(II)I"⟩
abbrev cX10_samples : ByteArray := prog_12_method_14_code
def yX10_samples : MethodName := ⟨RX10, "samples", "()I"⟩
abbrev cX10_function : ByteArray := prog_12_method_15_code
def yX10_function : MethodName := ⟨RX10, "function", "(I)I"⟩
abbrev cX10_isFunction : ByteArray := prog_12_method_16_code
def yX10_isFunction : MethodName := ⟨RX10, "isFunction", "(I)Z"⟩
abbrev cX10_isHandler : ByteArray := prog_12_method_17_code
def yX10_isHandler : MethodName := ⟨RX10, "isHandler", "(I)Z"⟩
abbrev cX10_handler : ByteArray := prog_12_method_18_code
def yX10_handler : MethodName := ⟨RX10, "handler", "(IIIZ)I"⟩
abbrev cX10_hasPlace : ByteArray := prog_12_method_19_code
def yX10_hasPlace : MethodName := ⟨RX10, "hasPlace", "(II)Z"⟩
abbrev cX10_place : ByteArray := prog_12_method_20_code
def yX10_place : MethodName := ⟨RX10, "place", "(III)I"⟩
abbrev cX10_test : ByteArray := prog_12_method_21_code
def yX10_test : MethodName := ⟨RX10, "test", "(IIII)I"⟩
abbrev cX10_isLaid : ByteArray := prog_12_method_22_code
def yX10_isLaid : MethodName := ⟨RX10, "isLaid", "(II)Z"⟩
abbrev cX10_laid : ByteArray := prog_12_method_23_code
def yX10_laid : MethodName := ⟨RX10, "laid", "(I)I"⟩
abbrev cX10_areSame : ByteArray := prog_12_method_24_code
def yX10_areSame : MethodName := ⟨RX10, "areSame", "(III)Z"⟩
abbrev cX10_isNarrower : ByteArray := prog_12_method_25_code
def yX10_isNarrower : MethodName := ⟨RX10, "isNarrower", "(III)Z"⟩
abbrev cX10_isMore : ByteArray := prog_12_method_26_code
def yX10_isMore : MethodName := ⟨RX10, "isMore", "(II)Z"⟩
abbrev cX10_lay : ByteArray := prog_12_method_27_code
def yX10_lay : MethodName := ⟨RX10, "lay", "(I)I"⟩
abbrev cX10_lift : ByteArray := prog_12_method_28_code
def yX10_lift : MethodName := ⟨RX10, "lift", "(I)I"⟩
abbrev cX10_freeze : ByteArray := prog_12_method_29_code
def yX10_freeze : MethodName := ⟨RX10, "freeze", "(IZ)I"⟩
abbrev cX10_about : ByteArray := prog_12_method_30_code
def yX10_about : MethodName := ⟨RX10, "about", "(II)I"⟩
abbrev cX10_dominates : ByteArray := prog_12_method_31_code
def yX10_dominates : MethodName := ⟨RX10, "dominates", "(II)Z"⟩
abbrev cX10_inOrder : ByteArray := prog_12_method_32_code
def yX10_inOrder : MethodName := ⟨RX10, "inOrder", "(II)I"⟩
abbrev cX10_order : ByteArray := prog_12_method_33_code
def yX10_order : MethodName := ⟨RX10, "order", "(II)I"⟩
abbrev cX10_takesAt : ByteArray := prog_12_method_34_code
def yX10_takesAt : MethodName := ⟨RX10, "takesAt", "(II)Z"⟩
abbrev cX10_takes : ByteArray := prog_12_method_35_code
def yX10_takes : MethodName := ⟨RX10, "takes", "(I)Z"⟩
abbrev cX10_isOffered : ByteArray := prog_12_method_36_code
def yX10_isOffered : MethodName := ⟨RX10, "isOffered", "(III)Z"⟩
abbrev cX10_offered : ByteArray := prog_12_method_37_code
def yX10_offered : MethodName := ⟨RX10, "offered", "(II)I"⟩
abbrev cX10_chosen : ByteArray := prog_12_method_38_code
def yX10_chosen : MethodName := ⟨RX10, "chosen", "(II)I"⟩
abbrev cX10_tellRow : ByteArray := prog_12_method_39_code
def yX10_tellRow : MethodName := ⟨RX10, "tellRow", "(I)Z"⟩
abbrev cX10_piece : ByteArray := prog_12_method_40_code
def yX10_piece : MethodName := ⟨RX10, "piece", "(II)J"⟩
abbrev cX10_remember : ByteArray := prog_12_method_41_code
def yX10_remember : MethodName := ⟨RX10, "remember", "(I)V"⟩
abbrev cX10_arg : ByteArray := prog_12_method_42_code
def yX10_arg : MethodName := ⟨RX10, "arg", "(II)I"⟩
abbrev cX10_note : ByteArray := prog_12_method_43_code
def yX10_note : MethodName := ⟨RX10, "note", "(I)V"⟩
abbrev cX10_weight : ByteArray := prog_12_method_44_code
def yX10_weight : MethodName := ⟨RX10, "weight", "(I)J"⟩
abbrev cX10_isBarred : ByteArray := prog_12_method_45_code
def yX10_isBarred : MethodName := ⟨RX10, "isBarred", "(I)Z"⟩
abbrev cX10_begin : ByteArray := prog_12_method_46_code
def yX10_begin : MethodName := ⟨RX10, "begin", "(I)I"⟩
abbrev cX10_choose : ByteArray := prog_12_method_47_code
def yX10_choose : MethodName := ⟨RX10, "choose", "(II)I"⟩
abbrev cX10_fail : ByteArray := prog_12_method_48_code
def yX10_fail : MethodName := ⟨RX10, "fail", "(I)I"⟩
abbrev cX10_end : ByteArray := prog_12_method_49_code
def yX10_end : MethodName := ⟨RX10, "end", "(J)I"⟩
abbrev cX10_turn : ByteArray := prog_12_method_50_code
def yX10_turn : MethodName := ⟨RX10, "turn", "()V"⟩
abbrev cX10_rest : ByteArray := prog_12_method_51_code
def yX10_rest : MethodName := ⟨RX10, "rest", "(II)I"⟩
abbrev cX10_callOn : ByteArray := prog_12_method_52_code
def yX10_callOn : MethodName := ⟨RX10, "callOn", "(II)I"⟩
abbrev cX10_grow : ByteArray := prog_12_method_53_code
def yX10_grow : MethodName := ⟨RX10, "grow", "(I)I"⟩
abbrev cX10_run : ByteArray := prog_12_method_54_code
def yX10_run : MethodName := ⟨RX10, "run", "(II)I"⟩
abbrev cX10_call : ByteArray := prog_12_method_55_code
def yX10_call : MethodName := ⟨RX10, "call", "(I)I"⟩
abbrev cX10_value : ByteArray := prog_12_method_56_code
def yX10_value : MethodName := ⟨RX10, "value", "()J"⟩
abbrev cX10_failure : ByteArray := prog_12_method_57_code
def yX10_failure : MethodName := ⟨RX10, "failure", "()I"⟩
abbrev cX10_step : ByteArray := prog_12_method_58_code
def yX10_step : MethodName := ⟨RX10, "step", "(I)I"⟩
abbrev cX10_counter : ByteArray := prog_12_method_59_code
def yX10_counter : MethodName := ⟨RX10, "counter", "(I)I"⟩
abbrev cX10_applicable : ByteArray := prog_12_method_60_code
def yX10_applicable : MethodName := ⟨RX10, "applicable", "(II)I"⟩
abbrev cX10_most : ByteArray := prog_12_method_61_code
def yX10_most : MethodName := ⟨RX10, "most", "(I)I"⟩
abbrev cX10_moreThan : ByteArray := prog_12_method_62_code
def yX10_moreThan : MethodName := ⟨RX10, "moreThan", "(II)I"⟩
abbrev cX10_explain : ByteArray := prog_12_method_63_code
def yX10_explain : MethodName := ⟨RX10, "explain", "(I)I"⟩
abbrev cX10_where : ByteArray := prog_12_method_64_code
def yX10_where : MethodName := ⟨RX10, "where", "()I"⟩
abbrev cX10_countAll : ByteArray := prog_12_method_65_code
def yX10_countAll : MethodName := ⟨RX10, "countAll", "(I)I"⟩
abbrev cX10_count : ByteArray := prog_12_method_66_code
def yX10_count : MethodName := ⟨RX10, "count", "(II)I"⟩
abbrev cX10_findEdges : ByteArray := prog_12_method_67_code
def yX10_findEdges : MethodName := ⟨RX10, "findEdges", "(II)V"⟩
abbrev cX10_nextClass : ByteArray := prog_12_method_68_code
def yX10_nextClass : MethodName := ⟨RX10, "nextClass", "(I)I"⟩
abbrev cX10_firstTuple : ByteArray := prog_12_method_69_code
def yX10_firstTuple : MethodName := ⟨RX10, "firstTuple", "(I)Z"⟩
abbrev cX10_nextAt : ByteArray := prog_12_method_70_code
def yX10_nextAt : MethodName := ⟨RX10, "nextAt", "(II)Z"⟩
abbrev cX10_nextTuple : ByteArray := prog_12_method_71_code
def yX10_nextTuple : MethodName := ⟨RX10, "nextTuple", "(I)Z"⟩
abbrev cX10_keepTuple : ByteArray := prog_12_method_72_code
def yX10_keepTuple : MethodName := ⟨RX10, "keepTuple", "(I)V"⟩
abbrev cX10_findHole : ByteArray := prog_12_method_73_code
def yX10_findHole : MethodName := ⟨RX10, "findHole", "(I)Z"⟩
abbrev cX10_covered : ByteArray := prog_12_method_74_code
def yX10_covered : MethodName := ⟨RX10, "covered", "(I)I"⟩
abbrev cX10_hole : ByteArray := prog_12_method_75_code
def yX10_hole : MethodName := ⟨RX10, "hole", "(II)J"⟩
abbrev cX10_areInDoubt : ByteArray := prog_12_method_76_code
def yX10_areInDoubt : MethodName := ⟨RX10, "areInDoubt", "(III)Z"⟩
abbrev cX10_findDoubt : ByteArray := prog_12_method_77_code
def yX10_findDoubt : MethodName := ⟨RX10, "findDoubt", "(III)Z"⟩
abbrev cX10_doubt : ByteArray := prog_12_method_78_code
def yX10_doubt : MethodName := ⟨RX10, "doubt", "(III)J"⟩
def RJ9 : String := "java/lang/Math"
def TJ9 : u_T := fun k => match k with
  | _ => ("", "", "", false)
def tyJ9 : Nat → FieldType := fun k => match k with
  | _ => .int
abbrev wsJ90 : List Cond := u_ws RJ9 TJ9 0
theorem nmJ9 : ∀ a, a < 0 → ∀ b, b < 0 → a ≠ b → (TJ9 a).2.1 ≠ (TJ9 b).2.1 := by decide +kernel
theorem tyJ9_ok : ∀ k, k < 0 → parseFieldDescriptor (TJ9 k).2.2.1 = some (tyJ9 k) := by decide +kernel
abbrev cJ9_floorMod_7cf53 : ByteArray := prog_13_method_50_code
def yJ9_floorMod_7cf53 : MethodName := ⟨RJ9, "floorMod", "(II)I"⟩
abbrev cJ9_min_f86c9 : ByteArray := prog_13_method_70_code
def yJ9_min_f86c9 : MethodName := ⟨RJ9, "min", "(JJ)J"⟩
def RJ7 : String := "java/util/Arrays"
def TJ7 : u_T := fun k => match k with
  | _ => ("", "", "", false)
def tyJ7 : Nat → FieldType := fun k => match k with
  | _ => .int
abbrev wsJ70 : List Cond := u_ws RJ7 TJ7 0
theorem nmJ7 : ∀ a, a < 0 → ∀ b, b < 0 → a ≠ b → (TJ7 a).2.1 ≠ (TJ7 b).2.1 := by decide +kernel
theorem tyJ7_ok : ∀ k, k < 0 → parseFieldDescriptor (TJ7 k).2.2.1 = some (tyJ7 k) := by decide +kernel
abbrev cJ7_fill_53178 : ByteArray := prog_14_method_103_code
def yJ7_fill_53178 : MethodName := ⟨RJ7, "fill", "([II)V"⟩
def RL : String := "CallBoardLaw"
abbrev cL_law : ByteArray := code
def yL_law : MethodName := ⟨RL, "law", "([I)Z"⟩
abbrev vwCl : List vw_C := [(RX0, TX0, 7), (RX1, TX1, 10), (RX2, TX2, 9), (RX3, TX3, 6), (RX4, TX4, 7), (RX5, TX5, 6), (RX6, TX6, 3), (RX7, TX7, 3), (RX8, TX8, 5), (RX9, TX9, 12), (RX10, TX10, 39)]
/-- the tables' words that stay good -/
def WW : List Cond := lw_tbl.filter goodWord
theorem inWW {w : Cond} (h : w ∈ lw_tbl) (g : goodWord w = true) : w ∈ WW := List.mem_filter.mpr ⟨h, g⟩
theorem tb_1 : ∀ w ∈ tables_1_1, w ∈ lw_tbl := fun w h => List.mem_append_right _ (List.mem_append_left _ h)
theorem tb_2 : ∀ w ∈ tables_1_2, w ∈ lw_tbl := fun w h => List.mem_append_right _ (List.mem_append_right _ (List.mem_append_left _ h))
theorem tb_3 : ∀ w ∈ tables_1_3, w ∈ lw_tbl := fun w h => List.mem_append_right _ (List.mem_append_right _ (List.mem_append_right _ (List.mem_append_left _ h)))
theorem tb_4 : ∀ w ∈ tables_1_4, w ∈ lw_tbl := fun w h => List.mem_append_right _ (List.mem_append_right _ (List.mem_append_right _ (List.mem_append_right _ (List.mem_append_left _ h))))
theorem tb_5 : ∀ w ∈ tables_1_5, w ∈ lw_tbl := fun w h => List.mem_append_right _ (List.mem_append_right _ (List.mem_append_right _ (List.mem_append_right _ (List.mem_append_right _ (List.mem_append_left _ h)))))
theorem tb_6 : ∀ w ∈ tables_1_6, w ∈ lw_tbl := fun w h => List.mem_append_right _ (List.mem_append_right _ (List.mem_append_right _ (List.mem_append_right _ (List.mem_append_right _ (List.mem_append_right _ (h))))))
theorem gw_w {w : Cond} (h : w ∈ WW) : w ∈ WW ∧ ((w.onTables && w.keeps) = true ∨ ∃ ty, w = .arrayClass ty) := ⟨h, good_of_word (List.mem_filter.mp h).2⟩
theorem gw_0 {y : MethodName} {b : ByteArray} {n : Nat} {r : Option FieldType} (h5 : Cond.code y b n r ∈ WW) : GoodIn WW (.code y b n r :: WW) := fun w hw => gw_w ((List.mem_cons.mp hw).elim (fun e => e ▸ h5) id)
theorem gw_V {own C : String} {idx : Nat} {y : MethodName} {b : ByteArray} {n : Nat} {r : Option FieldType} (h1 : Cond.methodLink own idx y ∈ WW) (h2 : Cond.instanceMethod y ∈ WW) (h3 : Cond.selects C y y ∈ WW) (h4 : Cond.initialized C ∈ WW) (h5 : Cond.code y b n r ∈ WW) : GoodIn WW (wsV own idx C y (.code y b n r :: WW)) := by
  intro w hw
  rcases List.mem_append.mp hw with h | h
  · refine gw_w ?_
    simp only [List.mem_cons, List.not_mem_nil, or_false] at h
    rcases h with rfl | rfl | rfl | rfl
    · exact h1
    · exact h2
    · exact h3
    · exact h4
  · exact gw_0 h5 w h
theorem gw_S {own : String} {idx : Nat} {y : MethodName} {b : ByteArray} {n : Nat} {r : Option FieldType} (h1 : Cond.methodLink own idx y ∈ WW) (h2 : Cond.static y ∈ WW) (h4 : Cond.initialized y.cls ∈ WW) (h5 : Cond.code y b n r ∈ WW) : GoodIn WW (va_wsS own idx y (.code y b n r :: WW)) := by
  intro w hw
  rcases List.mem_append.mp hw with h | h
  · refine gw_w ?_
    simp only [List.mem_cons, List.not_mem_nil, or_false] at h
    rcases h with rfl | rfl | rfl
    · exact h1
    · exact h2
    · exact h4
  · exact gw_0 h5 w h
abbrev wsX0_init : List Cond := .code yX0_init cX0_init 1 none :: WW
theorem kc_X0_init : Cond.code yX0_init cX0_init 1 none ∈ WW := inWW (tb_1 _ (List.mem_of_getElem? (i := 138) rfl)) rfl
theorem ki_X0_init : Cond.instanceMethod yX0_init ∈ WW := inWW (tb_1 _ (List.mem_of_getElem? (i := 137) rfl)) rfl
abbrev wsX0_fill : List Cond := .code yX0_fill cX0_fill 4 none :: WW
theorem kc_X0_fill : Cond.code yX0_fill cX0_fill 4 none ∈ WW := inWW (tb_4 _ (List.mem_of_getElem? (i := 21) rfl)) rfl
theorem ki_X0_fill : Cond.instanceMethod yX0_fill ∈ WW := inWW (tb_4 _ (List.mem_of_getElem? (i := 19) rfl)) rfl
theorem ks_X0_fill : Cond.selects RX0 yX0_fill yX0_fill ∈ WW := inWW (tb_4 _ (List.mem_of_getElem? (i := 20) rfl)) rfl
abbrev wsX0_addClass : List Cond := .code yX0_addClass cX0_addClass 4 none :: WW
theorem kc_X0_addClass : Cond.code yX0_addClass cX0_addClass 4 none ∈ WW := inWW (tb_4 _ (List.mem_of_getElem? (i := 44) rfl)) rfl
theorem ki_X0_addClass : Cond.instanceMethod yX0_addClass ∈ WW := inWW (tb_4 _ (List.mem_of_getElem? (i := 43) rfl)) rfl
theorem ks_X0_addClass : Cond.selects RX0 yX0_addClass yX0_addClass ∈ WW := inWW (List.mem_append_left _ (List.mem_of_getElem? (i := 24) rfl)) rfl
abbrev wsX0_addNew : List Cond := .code yX0_addNew cX0_addNew 5 none :: WW
theorem kc_X0_addNew : Cond.code yX0_addNew cX0_addNew 5 none ∈ WW := inWW (tb_4 _ (List.mem_of_getElem? (i := 26) rfl)) rfl
theorem ki_X0_addNew : Cond.instanceMethod yX0_addNew ∈ WW := inWW (tb_4 _ (List.mem_of_getElem? (i := 25) rfl)) rfl
theorem ks_X0_addNew : Cond.selects RX0 yX0_addNew yX0_addNew ∈ WW := inWW (List.mem_append_left _ (List.mem_of_getElem? (i := 21) rfl)) rfl
abbrev wsX0_findStarts : List Cond := .code yX0_findStarts cX0_findStarts 5 none :: WW
theorem kc_X0_findStarts : Cond.code yX0_findStarts cX0_findStarts 5 none ∈ WW := inWW (tb_4 _ (List.mem_of_getElem? (i := 30) rfl)) rfl
theorem ki_X0_findStarts : Cond.instanceMethod yX0_findStarts ∈ WW := inWW (tb_4 _ (List.mem_of_getElem? (i := 29) rfl)) rfl
theorem ks_X0_findStarts : Cond.selects RX0 yX0_findStarts yX0_findStarts ∈ WW := inWW (List.mem_append_left _ (List.mem_of_getElem? (i := 22) rfl)) rfl
abbrev wsX0_addStart : List Cond := .code yX0_addStart cX0_addStart 4 none :: WW
theorem kc_X0_addStart : Cond.code yX0_addStart cX0_addStart 4 none ∈ WW := inWW (tb_4 _ (List.mem_of_getElem? (i := 35) rfl)) rfl
theorem ki_X0_addStart : Cond.instanceMethod yX0_addStart ∈ WW := inWW (tb_4 _ (List.mem_of_getElem? (i := 34) rfl)) rfl
theorem ks_X0_addStart : Cond.selects RX0 yX0_addStart yX0_addStart ∈ WW := inWW (List.mem_append_left _ (List.mem_of_getElem? (i := 23) rfl)) rfl
abbrev wsX1_init : List Cond := .code yX1_init cX1_init 4 none :: WW
theorem kc_X1_init : Cond.code yX1_init cX1_init 4 none ∈ WW := inWW (tb_2 _ (List.mem_of_getElem? (i := 64) rfl)) rfl
theorem ki_X1_init : Cond.instanceMethod yX1_init ∈ WW := inWW (tb_2 _ (List.mem_of_getElem? (i := 63) rfl)) rfl
abbrev wsX1_hasPlace : List Cond := .code yX1_hasPlace cX1_hasPlace 2 (some .boolean) :: WW
theorem kc_X1_hasPlace : Cond.code yX1_hasPlace cX1_hasPlace 2 (some .boolean) ∈ WW := inWW (tb_2 _ (List.mem_of_getElem? (i := 213) rfl)) rfl
theorem ki_X1_hasPlace : Cond.instanceMethod yX1_hasPlace ∈ WW := inWW (tb_2 _ (List.mem_of_getElem? (i := 211) rfl)) rfl
theorem ks_X1_hasPlace : Cond.selects RX1 yX1_hasPlace yX1_hasPlace ∈ WW := inWW (tb_2 _ (List.mem_of_getElem? (i := 212) rfl)) rfl
abbrev wsX1_laidAt : List Cond := .code yX1_laidAt cX1_laidAt 2 (some (.object "CallBoard$Handler")) :: WW
theorem kc_X1_laidAt : Cond.code yX1_laidAt cX1_laidAt 2 (some (.object "CallBoard$Handler")) ∈ WW := inWW (tb_3 _ (List.mem_of_getElem? (i := 61) rfl)) rfl
theorem ki_X1_laidAt : Cond.instanceMethod yX1_laidAt ∈ WW := inWW (tb_3 _ (List.mem_of_getElem? (i := 59) rfl)) rfl
theorem ks_X1_laidAt : Cond.selects RX1 yX1_laidAt yX1_laidAt ∈ WW := inWW (tb_3 _ (List.mem_of_getElem? (i := 60) rfl)) rfl
abbrev wsX1_numberAt : List Cond := .code yX1_numberAt cX1_numberAt 3 (some .int) :: WW
theorem kc_X1_numberAt : Cond.code yX1_numberAt cX1_numberAt 3 (some .int) ∈ WW := inWW (tb_3 _ (List.mem_of_getElem? (i := 57) rfl)) rfl
theorem ki_X1_numberAt : Cond.instanceMethod yX1_numberAt ∈ WW := inWW (tb_3 _ (List.mem_of_getElem? (i := 55) rfl)) rfl
theorem ks_X1_numberAt : Cond.selects RX1 yX1_numberAt yX1_numberAt ∈ WW := inWW (tb_3 _ (List.mem_of_getElem? (i := 56) rfl)) rfl
abbrev wsX1_indexOf : List Cond := .code yX1_indexOf cX1_indexOf 3 (some .int) :: WW
theorem kc_X1_indexOf : Cond.code yX1_indexOf cX1_indexOf 3 (some .int) ∈ WW := inWW (tb_3 _ (List.mem_of_getElem? (i := 229) rfl)) rfl
theorem ki_X1_indexOf : Cond.instanceMethod yX1_indexOf ∈ WW := inWW (tb_3 _ (List.mem_of_getElem? (i := 227) rfl)) rfl
theorem ks_X1_indexOf : Cond.selects RX1 yX1_indexOf yX1_indexOf ∈ WW := inWW (tb_3 _ (List.mem_of_getElem? (i := 228) rfl)) rfl
abbrev wsX1_hasLaidSame : List Cond := .code yX1_hasLaidSame cX1_hasLaidSame 3 (some .boolean) :: WW
theorem kc_X1_hasLaidSame : Cond.code yX1_hasLaidSame cX1_hasLaidSame 3 (some .boolean) ∈ WW := inWW (tb_2 _ (List.mem_of_getElem? (i := 225) rfl)) rfl
theorem ki_X1_hasLaidSame : Cond.instanceMethod yX1_hasLaidSame ∈ WW := inWW (tb_2 _ (List.mem_of_getElem? (i := 223) rfl)) rfl
theorem ks_X1_hasLaidSame : Cond.selects RX1 yX1_hasLaidSame yX1_hasLaidSame ∈ WW := inWW (tb_2 _ (List.mem_of_getElem? (i := 224) rfl)) rfl
abbrev wsX1_putLaid : List Cond := .code yX1_putLaid cX1_putLaid 3 (some .boolean) :: WW
theorem kc_X1_putLaid : Cond.code yX1_putLaid cX1_putLaid 3 (some .boolean) ∈ WW := inWW (tb_2 _ (List.mem_of_getElem? (i := 237) rfl)) rfl
theorem ki_X1_putLaid : Cond.instanceMethod yX1_putLaid ∈ WW := inWW (tb_2 _ (List.mem_of_getElem? (i := 235) rfl)) rfl
theorem ks_X1_putLaid : Cond.selects RX1 yX1_putLaid yX1_putLaid ∈ WW := inWW (tb_2 _ (List.mem_of_getElem? (i := 236) rfl)) rfl
abbrev wsX1_dropLaid : List Cond := .code yX1_dropLaid cX1_dropLaid 4 none :: WW
theorem kc_X1_dropLaid : Cond.code yX1_dropLaid cX1_dropLaid 4 none ∈ WW := inWW (tb_3 _ (List.mem_of_getElem? (i := 33) rfl)) rfl
theorem ki_X1_dropLaid : Cond.instanceMethod yX1_dropLaid ∈ WW := inWW (tb_3 _ (List.mem_of_getElem? (i := 31) rfl)) rfl
theorem ks_X1_dropLaid : Cond.selects RX1 yX1_dropLaid yX1_dropLaid ∈ WW := inWW (tb_3 _ (List.mem_of_getElem? (i := 32) rfl)) rfl
abbrev wsX1_compareLaid : List Cond := .code yX1_compareLaid cX1_compareLaid 3 none :: WW
theorem kc_X1_compareLaid : Cond.code yX1_compareLaid cX1_compareLaid 3 none ∈ WW := inWW (tb_3 _ (List.mem_of_getElem? (i := 1) rfl)) rfl
theorem ki_X1_compareLaid : Cond.instanceMethod yX1_compareLaid ∈ WW := inWW (tb_3 _ (List.mem_of_getElem? (i := 0) rfl)) rfl
theorem ks_X1_compareLaid : Cond.selects RX1 yX1_compareLaid yX1_compareLaid ∈ WW := inWW (List.mem_append_left _ (List.mem_of_getElem? (i := 3) rfl)) rfl
abbrev wsX1_putInOrder : List Cond := .code yX1_putInOrder cX1_putInOrder 4 none :: WW
theorem kc_X1_putInOrder : Cond.code yX1_putInOrder cX1_putInOrder 4 none ∈ WW := inWW (tb_3 _ (List.mem_of_getElem? (i := 14) rfl)) rfl
theorem ki_X1_putInOrder : Cond.instanceMethod yX1_putInOrder ∈ WW := inWW (tb_3 _ (List.mem_of_getElem? (i := 13) rfl)) rfl
theorem ks_X1_putInOrder : Cond.selects RX1 yX1_putInOrder yX1_putInOrder ∈ WW := inWW (List.mem_append_left _ (List.mem_of_getElem? (i := 5) rfl)) rfl
abbrev wsX1_beatenByAny : List Cond := .code yX1_beatenByAny cX1_beatenByAny 4 (some .int) :: WW
theorem kc_X1_beatenByAny : Cond.code yX1_beatenByAny cX1_beatenByAny 4 (some .int) ∈ WW := inWW (tb_3 _ (List.mem_of_getElem? (i := 18) rfl)) rfl
theorem ki_X1_beatenByAny : Cond.instanceMethod yX1_beatenByAny ∈ WW := inWW (tb_3 _ (List.mem_of_getElem? (i := 17) rfl)) rfl
theorem ks_X1_beatenByAny : Cond.selects RX1 yX1_beatenByAny yX1_beatenByAny ∈ WW := inWW (List.mem_append_left _ (List.mem_of_getElem? (i := 6) rfl)) rfl
abbrev wsX1_beatenBy : List Cond := .code yX1_beatenBy cX1_beatenBy 2 (some .int) :: WW
theorem kc_X1_beatenBy : Cond.code yX1_beatenBy cX1_beatenBy 2 (some .int) ∈ WW := inWW (tb_3 _ (List.mem_of_getElem? (i := 186) rfl)) rfl
theorem ki_X1_beatenBy : Cond.instanceMethod yX1_beatenBy ∈ WW := inWW (tb_3 _ (List.mem_of_getElem? (i := 184) rfl)) rfl
theorem ks_X1_beatenBy : Cond.selects RX1 yX1_beatenBy yX1_beatenBy ∈ WW := inWW (tb_3 _ (List.mem_of_getElem? (i := 185) rfl)) rfl
abbrev wsX1_beatersOf : List Cond := .code yX1_beatersOf cX1_beatersOf 4 (some .int) :: WW
theorem kc_X1_beatersOf : Cond.code yX1_beatersOf cX1_beatersOf 4 (some .int) ∈ WW := inWW (tb_3 _ (List.mem_of_getElem? (i := 233) rfl)) rfl
theorem ki_X1_beatersOf : Cond.instanceMethod yX1_beatersOf ∈ WW := inWW (tb_3 _ (List.mem_of_getElem? (i := 231) rfl)) rfl
theorem ks_X1_beatersOf : Cond.selects RX1 yX1_beatersOf yX1_beatersOf ∈ WW := inWW (tb_3 _ (List.mem_of_getElem? (i := 232) rfl)) rfl
abbrev wsX1_takersOf : List Cond := .code yX1_takersOf cX1_takersOf 4 (some .int) :: WW
theorem kc_X1_takersOf : Cond.code yX1_takersOf cX1_takersOf 4 (some .int) ∈ WW := inWW (tb_3 _ (List.mem_of_getElem? (i := 93) rfl)) rfl
theorem ki_X1_takersOf : Cond.instanceMethod yX1_takersOf ∈ WW := inWW (tb_3 _ (List.mem_of_getElem? (i := 91) rfl)) rfl
theorem ks_X1_takersOf : Cond.selects RX1 yX1_takersOf yX1_takersOf ∈ WW := inWW (tb_3 _ (List.mem_of_getElem? (i := 92) rfl)) rfl
abbrev wsX1_plainTakersOf : List Cond := .code yX1_plainTakersOf cX1_plainTakersOf 2 (some .int) :: WW
theorem kc_X1_plainTakersOf : Cond.code yX1_plainTakersOf cX1_plainTakersOf 2 (some .int) ∈ WW := inWW (tb_3 _ (List.mem_of_getElem? (i := 142) rfl)) rfl
theorem ki_X1_plainTakersOf : Cond.instanceMethod yX1_plainTakersOf ∈ WW := inWW (tb_3 _ (List.mem_of_getElem? (i := 140) rfl)) rfl
theorem ks_X1_plainTakersOf : Cond.selects RX1 yX1_plainTakersOf yX1_plainTakersOf ∈ WW := inWW (tb_3 _ (List.mem_of_getElem? (i := 141) rfl)) rfl
abbrev wsX1_takersOfClass : List Cond := .code yX1_takersOfClass cX1_takersOfClass 5 (some .int) :: WW
theorem kc_X1_takersOfClass : Cond.code yX1_takersOfClass cX1_takersOfClass 5 (some .int) ∈ WW := inWW (tb_3 _ (List.mem_of_getElem? (i := 97) rfl)) rfl
theorem ki_X1_takersOfClass : Cond.instanceMethod yX1_takersOfClass ∈ WW := inWW (tb_3 _ (List.mem_of_getElem? (i := 95) rfl)) rfl
theorem ks_X1_takersOfClass : Cond.selects RX1 yX1_takersOfClass yX1_takersOfClass ∈ WW := inWW (tb_3 _ (List.mem_of_getElem? (i := 96) rfl)) rfl
abbrev wsX1_takersOfWeight : List Cond := .code yX1_takersOfWeight cX1_takersOfWeight 5 (some .int) :: WW
theorem kc_X1_takersOfWeight : Cond.code yX1_takersOfWeight cX1_takersOfWeight 5 (some .int) ∈ WW := inWW (tb_3 _ (List.mem_of_getElem? (i := 105) rfl)) rfl
theorem ki_X1_takersOfWeight : Cond.instanceMethod yX1_takersOfWeight ∈ WW := inWW (tb_3 _ (List.mem_of_getElem? (i := 103) rfl)) rfl
theorem ks_X1_takersOfWeight : Cond.selects RX1 yX1_takersOfWeight yX1_takersOfWeight ∈ WW := inWW (tb_3 _ (List.mem_of_getElem? (i := 104) rfl)) rfl
abbrev wsX1_chosenOf : List Cond := .code yX1_chosenOf cX1_chosenOf 4 (some .int) :: WW
theorem kc_X1_chosenOf : Cond.code yX1_chosenOf cX1_chosenOf 4 (some .int) ∈ WW := inWW (tb_3 _ (List.mem_of_getElem? (i := 151) rfl)) rfl
theorem ki_X1_chosenOf : Cond.instanceMethod yX1_chosenOf ∈ WW := inWW (tb_3 _ (List.mem_of_getElem? (i := 149) rfl)) rfl
theorem ks_X1_chosenOf : Cond.selects RX1 yX1_chosenOf yX1_chosenOf ∈ WW := inWW (tb_3 _ (List.mem_of_getElem? (i := 150) rfl)) rfl
abbrev wsX1_lookForRow : List Cond := .code yX1_lookForRow cX1_lookForRow 5 none :: WW
theorem kc_X1_lookForRow : Cond.code yX1_lookForRow cX1_lookForRow 5 none ∈ WW := inWW (tb_3 _ (List.mem_of_getElem? (i := 118) rfl)) rfl
theorem ki_X1_lookForRow : Cond.instanceMethod yX1_lookForRow ∈ WW := inWW (tb_3 _ (List.mem_of_getElem? (i := 116) rfl)) rfl
theorem ks_X1_lookForRow : Cond.selects RX1 yX1_lookForRow yX1_lookForRow ∈ WW := inWW (tb_3 _ (List.mem_of_getElem? (i := 117) rfl)) rfl
abbrev wsX1_pieceOf : List Cond := .code yX1_pieceOf cX1_pieceOf 10 (some .long) :: WW
theorem kc_X1_pieceOf : Cond.code yX1_pieceOf cX1_pieceOf 10 (some .long) ∈ WW := inWW (tb_3 _ (List.mem_of_getElem? (i := 122) rfl)) rfl
theorem ki_X1_pieceOf : Cond.instanceMethod yX1_pieceOf ∈ WW := inWW (tb_3 _ (List.mem_of_getElem? (i := 121) rfl)) rfl
theorem ks_X1_pieceOf : Cond.selects RX1 yX1_pieceOf yX1_pieceOf ∈ WW := inWW (List.mem_append_left _ (List.mem_of_getElem? (i := 10) rfl)) rfl
abbrev wsX2_init : List Cond := .code yX2_init cX2_init 6 none :: WW
theorem kc_X2_init : Cond.code yX2_init cX2_init 6 none ∈ WW := inWW (tb_2 _ (List.mem_of_getElem? (i := 153) rfl)) rfl
theorem ki_X2_init : Cond.instanceMethod yX2_init ∈ WW := inWW (tb_2 _ (List.mem_of_getElem? (i := 152) rfl)) rfl
abbrev wsX2_takesClass : List Cond := .code yX2_takesClass cX2_takesClass 3 (some .boolean) :: WW
theorem kc_X2_takesClass : Cond.code yX2_takesClass cX2_takesClass 3 (some .boolean) ∈ WW := inWW (tb_3 _ (List.mem_of_getElem? (i := 101) rfl)) rfl
theorem ki_X2_takesClass : Cond.instanceMethod yX2_takesClass ∈ WW := inWW (tb_3 _ (List.mem_of_getElem? (i := 99) rfl)) rfl
theorem ks_X2_takesClass : Cond.selects RX2 yX2_takesClass yX2_takesClass ∈ WW := inWW (tb_3 _ (List.mem_of_getElem? (i := 100) rfl)) rfl
abbrev wsX2_takesWeight : List Cond := .code yX2_takesWeight cX2_takesWeight 3 (some .boolean) :: WW
theorem kc_X2_takesWeight : Cond.code yX2_takesWeight cX2_takesWeight 3 (some .boolean) ∈ WW := inWW (tb_3 _ (List.mem_of_getElem? (i := 109) rfl)) rfl
theorem ki_X2_takesWeight : Cond.instanceMethod yX2_takesWeight ∈ WW := inWW (tb_3 _ (List.mem_of_getElem? (i := 107) rfl)) rfl
theorem ks_X2_takesWeight : Cond.selects RX2 yX2_takesWeight yX2_takesWeight ∈ WW := inWW (tb_3 _ (List.mem_of_getElem? (i := 108) rfl)) rfl
abbrev wsX2_firstRefusingPlace : List Cond := .code yX2_firstRefusingPlace cX2_firstRefusingPlace 3 (some .int) :: WW
theorem kc_X2_firstRefusingPlace : Cond.code yX2_firstRefusingPlace cX2_firstRefusingPlace 3 (some .int) ∈ WW := inWW (tb_3 _ (List.mem_of_getElem? (i := 219) rfl)) rfl
theorem ki_X2_firstRefusingPlace : Cond.instanceMethod yX2_firstRefusingPlace ∈ WW := inWW (tb_3 _ (List.mem_of_getElem? (i := 217) rfl)) rfl
theorem ks_X2_firstRefusingPlace : Cond.selects RX2 yX2_firstRefusingPlace yX2_firstRefusingPlace ∈ WW := inWW (tb_3 _ (List.mem_of_getElem? (i := 218) rfl)) rfl
abbrev wsX2_isSameAt : List Cond := .code yX2_isSameAt cX2_isSameAt 3 (some .boolean) :: WW
theorem kc_X2_isSameAt : Cond.code yX2_isSameAt cX2_isSameAt 3 (some .boolean) ∈ WW := inWW (tb_2 _ (List.mem_of_getElem? (i := 233) rfl)) rfl
theorem ki_X2_isSameAt : Cond.instanceMethod yX2_isSameAt ∈ WW := inWW (tb_2 _ (List.mem_of_getElem? (i := 232) rfl)) rfl
theorem ks_X2_isSameAt : Cond.selects RX2 yX2_isSameAt yX2_isSameAt ∈ WW := inWW (List.mem_append_left _ (List.mem_of_getElem? (i := 2) rfl)) rfl
abbrev wsX2_isNarrowerAt : List Cond := .code yX2_isNarrowerAt cX2_isNarrowerAt 3 (some .boolean) :: WW
theorem kc_X2_isNarrowerAt : Cond.code yX2_isNarrowerAt cX2_isNarrowerAt 3 (some .boolean) ∈ WW := inWW (tb_3 _ (List.mem_of_getElem? (i := 9) rfl)) rfl
theorem ki_X2_isNarrowerAt : Cond.instanceMethod yX2_isNarrowerAt ∈ WW := inWW (tb_3 _ (List.mem_of_getElem? (i := 8) rfl)) rfl
theorem ks_X2_isNarrowerAt : Cond.selects RX2 yX2_isNarrowerAt yX2_isNarrowerAt ∈ WW := inWW (List.mem_append_left _ (List.mem_of_getElem? (i := 4) rfl)) rfl
abbrev wsX2_isSameAs : List Cond := .code yX2_isSameAs cX2_isSameAs 3 (some .boolean) :: WW
theorem kc_X2_isSameAs : Cond.code yX2_isSameAs cX2_isSameAs 3 (some .boolean) ∈ WW := inWW (tb_2 _ (List.mem_of_getElem? (i := 229) rfl)) rfl
theorem ki_X2_isSameAs : Cond.instanceMethod yX2_isSameAs ∈ WW := inWW (tb_2 _ (List.mem_of_getElem? (i := 227) rfl)) rfl
theorem ks_X2_isSameAs : Cond.selects RX2 yX2_isSameAs yX2_isSameAs ∈ WW := inWW (tb_2 _ (List.mem_of_getElem? (i := 228) rfl)) rfl
abbrev wsX2_isMoreSpecific : List Cond := .code yX2_isMoreSpecific cX2_isMoreSpecific 4 (some .boolean) :: WW
theorem kc_X2_isMoreSpecific : Cond.code yX2_isMoreSpecific cX2_isMoreSpecific 4 (some .boolean) ∈ WW := inWW (tb_3 _ (List.mem_of_getElem? (i := 5) rfl)) rfl
theorem ki_X2_isMoreSpecific : Cond.instanceMethod yX2_isMoreSpecific ∈ WW := inWW (tb_3 _ (List.mem_of_getElem? (i := 3) rfl)) rfl
theorem ks_X2_isMoreSpecific : Cond.selects RX2 yX2_isMoreSpecific yX2_isMoreSpecific ∈ WW := inWW (tb_3 _ (List.mem_of_getElem? (i := 4) rfl)) rfl
abbrev wsX3_init : List Cond := .code yX3_init cX3_init 1 none :: WW
theorem kc_X3_init : Cond.code yX3_init cX3_init 1 none ∈ WW := inWW (tb_1 _ (List.mem_of_getElem? (i := 101) rfl)) rfl
theorem ki_X3_init : Cond.instanceMethod yX3_init ∈ WW := inWW (tb_1 _ (List.mem_of_getElem? (i := 100) rfl)) rfl
abbrev wsX3_begin : List Cond := .code yX3_begin cX3_begin 1 none :: WW
theorem kc_X3_begin : Cond.code yX3_begin cX3_begin 1 none ∈ WW := inWW (tb_3 _ (List.mem_of_getElem? (i := 77) rfl)) rfl
theorem ki_X3_begin : Cond.instanceMethod yX3_begin ∈ WW := inWW (tb_3 _ (List.mem_of_getElem? (i := 75) rfl)) rfl
theorem ks_X3_begin : Cond.selects RX3 yX3_begin yX3_begin ∈ WW := inWW (tb_3 _ (List.mem_of_getElem? (i := 76) rfl)) rfl
abbrev wsX3_addStep : List Cond := .code yX3_addStep cX3_addStep 2 none :: WW
theorem kc_X3_addStep : Cond.code yX3_addStep cX3_addStep 2 none ∈ WW := inWW (tb_3 _ (List.mem_of_getElem? (i := 114) rfl)) rfl
theorem ki_X3_addStep : Cond.instanceMethod yX3_addStep ∈ WW := inWW (tb_3 _ (List.mem_of_getElem? (i := 112) rfl)) rfl
theorem ks_X3_addStep : Cond.selects RX3 yX3_addStep yX3_addStep ∈ WW := inWW (tb_3 _ (List.mem_of_getElem? (i := 113) rfl)) rfl
abbrev wsX3_endWithValue : List Cond := .code yX3_endWithValue cX3_endWithValue 3 none :: WW
theorem kc_X3_endWithValue : Cond.code yX3_endWithValue cX3_endWithValue 3 none ∈ WW := inWW (tb_3 _ (List.mem_of_getElem? (i := 159) rfl)) rfl
theorem ki_X3_endWithValue : Cond.instanceMethod yX3_endWithValue ∈ WW := inWW (tb_3 _ (List.mem_of_getElem? (i := 157) rfl)) rfl
theorem ks_X3_endWithValue : Cond.selects RX3 yX3_endWithValue yX3_endWithValue ∈ WW := inWW (tb_3 _ (List.mem_of_getElem? (i := 158) rfl)) rfl
abbrev wsX3_endWithFailure : List Cond := .code yX3_endWithFailure cX3_endWithFailure 2 none :: WW
theorem kc_X3_endWithFailure : Cond.code yX3_endWithFailure cX3_endWithFailure 2 none ∈ WW := inWW (tb_3 _ (List.mem_of_getElem? (i := 163) rfl)) rfl
theorem ki_X3_endWithFailure : Cond.instanceMethod yX3_endWithFailure ∈ WW := inWW (tb_3 _ (List.mem_of_getElem? (i := 161) rfl)) rfl
theorem ks_X3_endWithFailure : Cond.selects RX3 yX3_endWithFailure yX3_endWithFailure ∈ WW := inWW (tb_3 _ (List.mem_of_getElem? (i := 162) rfl)) rfl
abbrev wsX4_init : List Cond := .code yX4_init cX4_init 1 none :: WW
theorem kc_X4_init : Cond.code yX4_init cX4_init 1 none ∈ WW := inWW (tb_2 _ (List.mem_of_getElem? (i := 70) rfl)) rfl
theorem ki_X4_init : Cond.instanceMethod yX4_init ∈ WW := inWW (tb_2 _ (List.mem_of_getElem? (i := 69) rfl)) rfl
abbrev wsX4_forget : List Cond := .code yX4_forget cX4_forget 1 none :: WW
theorem kc_X4_forget : Cond.code yX4_forget cX4_forget 1 none ∈ WW := inWW (tb_3 _ (List.mem_of_getElem? (i := 25) rfl)) rfl
theorem ki_X4_forget : Cond.instanceMethod yX4_forget ∈ WW := inWW (tb_3 _ (List.mem_of_getElem? (i := 23) rfl)) rfl
theorem ks_X4_forget : Cond.selects RX4 yX4_forget yX4_forget ∈ WW := inWW (tb_3 _ (List.mem_of_getElem? (i := 24) rfl)) rfl
abbrev wsX4_look : List Cond := .code yX4_look cX4_look 7 none :: WW
theorem kc_X4_look : Cond.code yX4_look cX4_look 7 none ∈ WW := inWW (tb_3 _ (List.mem_of_getElem? (i := 130) rfl)) rfl
theorem ki_X4_look : Cond.instanceMethod yX4_look ∈ WW := inWW (tb_3 _ (List.mem_of_getElem? (i := 128) rfl)) rfl
theorem ks_X4_look : Cond.selects RX4 yX4_look yX4_look ∈ WW := inWW (tb_3 _ (List.mem_of_getElem? (i := 129) rfl)) rfl
abbrev wsX4_find : List Cond := .code yX4_find cX4_find 7 (some .int) :: WW
theorem kc_X4_find : Cond.code yX4_find cX4_find 7 (some .int) ∈ WW := inWW (tb_3 _ (List.mem_of_getElem? (i := 134) rfl)) rfl
theorem ki_X4_find : Cond.instanceMethod yX4_find ∈ WW := inWW (tb_3 _ (List.mem_of_getElem? (i := 133) rfl)) rfl
theorem ks_X4_find : Cond.selects RX4 yX4_find yX4_find ∈ WW := inWW (List.mem_append_left _ (List.mem_of_getElem? (i := 11) rfl)) rfl
abbrev wsX4_makeRoom : List Cond := .code yX4_makeRoom cX4_makeRoom 3 (some .int) :: WW
theorem kc_X4_makeRoom : Cond.code yX4_makeRoom cX4_makeRoom 3 (some .int) ∈ WW := inWW (tb_3 _ (List.mem_of_getElem? (i := 138) rfl)) rfl
theorem ki_X4_makeRoom : Cond.instanceMethod yX4_makeRoom ∈ WW := inWW (tb_3 _ (List.mem_of_getElem? (i := 137) rfl)) rfl
theorem ks_X4_makeRoom : Cond.selects RX4 yX4_makeRoom yX4_makeRoom ∈ WW := inWW (List.mem_append_left _ (List.mem_of_getElem? (i := 12) rfl)) rfl
abbrev wsX5_init : List Cond := .code yX5_init cX5_init 1 none :: WW
theorem kc_X5_init : Cond.code yX5_init cX5_init 1 none ∈ WW := inWW (tb_1 _ (List.mem_of_getElem? (i := 132) rfl)) rfl
theorem ki_X5_init : Cond.instanceMethod yX5_init ∈ WW := inWW (tb_1 _ (List.mem_of_getElem? (i := 131) rfl)) rfl
abbrev wsX5_fillCells : List Cond := .code yX5_fillCells cX5_fillCells 2 none :: WW
theorem kc_X5_fillCells : Cond.code yX5_fillCells cX5_fillCells 2 none ∈ WW := inWW (tb_4 _ (List.mem_of_getElem? (i := 17) rfl)) rfl
theorem ki_X5_fillCells : Cond.instanceMethod yX5_fillCells ∈ WW := inWW (tb_4 _ (List.mem_of_getElem? (i := 16) rfl)) rfl
theorem ks_X5_fillCells : Cond.selects RX5 yX5_fillCells yX5_fillCells ∈ WW := inWW (List.mem_append_left _ (List.mem_of_getElem? (i := 20) rfl)) rfl
abbrev wsX5_findHole : List Cond := .code yX5_findHole cX5_findHole 4 (some .boolean) :: WW
theorem kc_X5_findHole : Cond.code yX5_findHole cX5_findHole 4 (some .boolean) ∈ WW := inWW (tb_4 _ (List.mem_of_getElem? (i := 13) rfl)) rfl
theorem ki_X5_findHole : Cond.instanceMethod yX5_findHole ∈ WW := inWW (tb_4 _ (List.mem_of_getElem? (i := 11) rfl)) rfl
theorem ks_X5_findHole : Cond.selects RX5 yX5_findHole yX5_findHole ∈ WW := inWW (tb_4 _ (List.mem_of_getElem? (i := 12) rfl)) rfl
abbrev wsX5_findDoubt : List Cond := .code yX5_findDoubt cX5_findDoubt 6 (some .boolean) :: WW
theorem kc_X5_findDoubt : Cond.code yX5_findDoubt cX5_findDoubt 6 (some .boolean) ∈ WW := inWW (tb_4 _ (List.mem_of_getElem? (i := 66) rfl)) rfl
theorem ki_X5_findDoubt : Cond.instanceMethod yX5_findDoubt ∈ WW := inWW (tb_4 _ (List.mem_of_getElem? (i := 64) rfl)) rfl
theorem ks_X5_findDoubt : Cond.selects RX5 yX5_findDoubt yX5_findDoubt ∈ WW := inWW (tb_4 _ (List.mem_of_getElem? (i := 65) rfl)) rfl
abbrev wsX5_haveDoubt : List Cond := .code yX5_haveDoubt cX5_haveDoubt 9 (some .boolean) :: WW
theorem kc_X5_haveDoubt : Cond.code yX5_haveDoubt cX5_haveDoubt 9 (some .boolean) ∈ WW := inWW (tb_4 _ (List.mem_of_getElem? (i := 70) rfl)) rfl
theorem ki_X5_haveDoubt : Cond.instanceMethod yX5_haveDoubt ∈ WW := inWW (tb_4 _ (List.mem_of_getElem? (i := 69) rfl)) rfl
theorem ks_X5_haveDoubt : Cond.selects RX5 yX5_haveDoubt yX5_haveDoubt ∈ WW := inWW (List.mem_append_left _ (List.mem_of_getElem? (i := 26) rfl)) rfl
abbrev wsX5_foundAt : List Cond := .code yX5_foundAt cX5_foundAt 3 (some .boolean) :: WW
theorem kc_X5_foundAt : Cond.code yX5_foundAt cX5_foundAt 3 (some .boolean) ∈ WW := inWW (tb_4 _ (List.mem_of_getElem? (i := 49) rfl)) rfl
theorem ki_X5_foundAt : Cond.instanceMethod yX5_foundAt ∈ WW := inWW (tb_4 _ (List.mem_of_getElem? (i := 48) rfl)) rfl
theorem ks_X5_foundAt : Cond.selects RX5 yX5_foundAt yX5_foundAt ∈ WW := inWW (List.mem_append_left _ (List.mem_of_getElem? (i := 25) rfl)) rfl
abbrev wsX5_partOfTuple : List Cond := .code yX5_partOfTuple cX5_partOfTuple 2 (some .int) :: WW
theorem kc_X5_partOfTuple : Cond.code yX5_partOfTuple cX5_partOfTuple 2 (some .int) ∈ WW := inWW (tb_4 _ (List.mem_of_getElem? (i := 58) rfl)) rfl
theorem ki_X5_partOfTuple : Cond.instanceMethod yX5_partOfTuple ∈ WW := inWW (tb_4 _ (List.mem_of_getElem? (i := 56) rfl)) rfl
theorem ks_X5_partOfTuple : Cond.selects RX5 yX5_partOfTuple yX5_partOfTuple ∈ WW := inWW (tb_4 _ (List.mem_of_getElem? (i := 57) rfl)) rfl
abbrev wsX6_init : List Cond := .code yX6_init cX6_init 1 none :: WW
theorem kc_X6_init : Cond.code yX6_init cX6_init 1 none ∈ WW := inWW (tb_1 _ (List.mem_of_getElem? (i := 78) rfl)) rfl
theorem ki_X6_init : Cond.instanceMethod yX6_init ∈ WW := inWW (tb_1 _ (List.mem_of_getElem? (i := 77) rfl)) rfl
abbrev wsX6_weightTogether : List Cond := .code yX6_weightTogether cX6_weightTogether 4 (some .long) :: WW
theorem kc_X6_weightTogether : Cond.code yX6_weightTogether cX6_weightTogether 4 (some .long) ∈ WW := inWW (tb_3 _ (List.mem_of_getElem? (i := 89) rfl)) rfl
theorem ki_X6_weightTogether : Cond.instanceMethod yX6_weightTogether ∈ WW := inWW (tb_3 _ (List.mem_of_getElem? (i := 87) rfl)) rfl
theorem ks_X6_weightTogether : Cond.selects RX6 yX6_weightTogether yX6_weightTogether ∈ WW := inWW (tb_3 _ (List.mem_of_getElem? (i := 88) rfl)) rfl
abbrev wsX6_turnRound : List Cond := .code yX6_turnRound cX6_turnRound 3 none :: WW
theorem kc_X6_turnRound : Cond.code yX6_turnRound cX6_turnRound 3 none ∈ WW := inWW (tb_3 _ (List.mem_of_getElem? (i := 182) rfl)) rfl
theorem ki_X6_turnRound : Cond.instanceMethod yX6_turnRound ∈ WW := inWW (tb_3 _ (List.mem_of_getElem? (i := 180) rfl)) rfl
theorem ks_X6_turnRound : Cond.selects RX6 yX6_turnRound yX6_turnRound ∈ WW := inWW (tb_3 _ (List.mem_of_getElem? (i := 181) rfl)) rfl
abbrev wsX7_init : List Cond := .code yX7_init cX7_init 1 none :: WW
theorem kc_X7_init : Cond.code yX7_init cX7_init 1 none ∈ WW := inWW (tb_1 _ (List.mem_of_getElem? (i := 55) rfl)) rfl
theorem ki_X7_init : Cond.instanceMethod yX7_init ∈ WW := inWW (tb_1 _ (List.mem_of_getElem? (i := 54) rfl)) rfl
abbrev wsX7_holds : List Cond := .code yX7_holds cX7_holds 2 (some .boolean) :: WW
theorem kc_X7_holds : Cond.code yX7_holds cX7_holds 2 (some .boolean) ∈ WW := inWW (tb_2 _ (List.mem_of_getElem? (i := 52) rfl)) rfl
theorem ki_X7_holds : Cond.instanceMethod yX7_holds ∈ WW := inWW (tb_2 _ (List.mem_of_getElem? (i := 50) rfl)) rfl
theorem ks_X7_holds : Cond.selects RX7 yX7_holds yX7_holds ∈ WW := inWW (tb_2 _ (List.mem_of_getElem? (i := 51) rfl)) rfl
abbrev wsX7_bring : List Cond := .code yX7_bring cX7_bring 3 (some .int) :: WW
theorem kc_X7_bring : Cond.code yX7_bring cX7_bring 3 (some .int) ∈ WW := inWW (tb_2 _ (List.mem_of_getElem? (i := 44) rfl)) rfl
theorem ki_X7_bring : Cond.instanceMethod yX7_bring ∈ WW := inWW (tb_2 _ (List.mem_of_getElem? (i := 42) rfl)) rfl
theorem ks_X7_bring : Cond.selects RX7 yX7_bring yX7_bring ∈ WW := inWW (tb_2 _ (List.mem_of_getElem? (i := 43) rfl)) rfl
abbrev wsX8_init : List Cond := .code yX8_init cX8_init 1 none :: WW
theorem kc_X8_init : Cond.code yX8_init cX8_init 1 none ∈ WW := inWW (tb_1 _ (List.mem_of_getElem? (i := 26) rfl)) rfl
theorem ki_X8_init : Cond.instanceMethod yX8_init ∈ WW := inWW (tb_1 _ (List.mem_of_getElem? (i := 25) rfl)) rfl
abbrev wsX8_addTrait : List Cond := .code yX8_addTrait cX8_addTrait 4 (some .int) :: WW
theorem kc_X8_addTrait : Cond.code yX8_addTrait cX8_addTrait 4 (some .int) ∈ WW := inWW (tb_2 _ (List.mem_of_getElem? (i := 1) rfl)) rfl
theorem ki_X8_addTrait : Cond.instanceMethod yX8_addTrait ∈ WW := inWW (tb_1 _ (List.mem_of_getElem? (i := 239) rfl)) rfl
theorem ks_X8_addTrait : Cond.selects RX8 yX8_addTrait yX8_addTrait ∈ WW := inWW (tb_2 _ (List.mem_of_getElem? (i := 0) rfl)) rfl
abbrev wsX8_isAbstract : List Cond := .code yX8_isAbstract cX8_isAbstract 2 (some .boolean) :: WW
theorem kc_X8_isAbstract : Cond.code yX8_isAbstract cX8_isAbstract 2 (some .boolean) ∈ WW := inWW (tb_2 _ (List.mem_of_getElem? (i := 13) rfl)) rfl
theorem ki_X8_isAbstract : Cond.instanceMethod yX8_isAbstract ∈ WW := inWW (tb_2 _ (List.mem_of_getElem? (i := 11) rfl)) rfl
theorem ks_X8_isAbstract : Cond.selects RX8 yX8_isAbstract yX8_isAbstract ∈ WW := inWW (tb_2 _ (List.mem_of_getElem? (i := 12) rfl)) rfl
abbrev wsX8_findReach : List Cond := .code yX8_findReach cX8_findReach 3 none :: WW
theorem kc_X8_findReach : Cond.code yX8_findReach cX8_findReach 3 none ∈ WW := inWW (tb_2 _ (List.mem_of_getElem? (i := 21) rfl)) rfl
theorem ki_X8_findReach : Cond.instanceMethod yX8_findReach ∈ WW := inWW (tb_2 _ (List.mem_of_getElem? (i := 19) rfl)) rfl
theorem ks_X8_findReach : Cond.selects RX8 yX8_findReach yX8_findReach ∈ WW := inWW (tb_2 _ (List.mem_of_getElem? (i := 20) rfl)) rfl
abbrev wsX8_goesRound : List Cond := .code yX8_goesRound cX8_goesRound 2 (some .boolean) :: WW
theorem kc_X8_goesRound : Cond.code yX8_goesRound cX8_goesRound 2 (some .boolean) ∈ WW := inWW (tb_2 _ (List.mem_of_getElem? (i := 25) rfl)) rfl
theorem ki_X8_goesRound : Cond.instanceMethod yX8_goesRound ∈ WW := inWW (tb_2 _ (List.mem_of_getElem? (i := 23) rfl)) rfl
theorem ks_X8_goesRound : Cond.selects RX8 yX8_goesRound yX8_goesRound ∈ WW := inWW (tb_2 _ (List.mem_of_getElem? (i := 24) rfl)) rfl
abbrev wsX8_isBelow : List Cond := .code yX8_isBelow cX8_isBelow 3 (some .boolean) :: WW
theorem kc_X8_isBelow : Cond.code yX8_isBelow cX8_isBelow 3 (some .boolean) ∈ WW := inWW (tb_2 _ (List.mem_of_getElem? (i := 36) rfl)) rfl
theorem ki_X8_isBelow : Cond.instanceMethod yX8_isBelow ∈ WW := inWW (tb_2 _ (List.mem_of_getElem? (i := 34) rfl)) rfl
theorem ks_X8_isBelow : Cond.selects RX8 yX8_isBelow yX8_isBelow ∈ WW := inWW (tb_2 _ (List.mem_of_getElem? (i := 35) rfl)) rfl
abbrev wsX9_init : List Cond := .code yX9_init cX9_init 1 none :: WW
theorem kc_X9_init : Cond.code yX9_init cX9_init 1 none ∈ WW := inWW (tb_1 _ (List.mem_of_getElem? (i := 18) rfl)) rfl
theorem ki_X9_init : Cond.instanceMethod yX9_init ∈ WW := inWW (tb_1 _ (List.mem_of_getElem? (i := 17) rfl)) rfl
abbrev wsX9_parent : List Cond := .code yX9_parent cX9_parent 3 (some .int) :: WW
theorem kc_X9_parent : Cond.code yX9_parent cX9_parent 3 (some .int) ∈ WW := inWW (tb_1 _ (List.mem_of_getElem? (i := 227) rfl)) rfl
theorem ki_X9_parent : Cond.instanceMethod yX9_parent ∈ WW := inWW (tb_1 _ (List.mem_of_getElem? (i := 225) rfl)) rfl
theorem ks_X9_parent : Cond.selects RX9 yX9_parent yX9_parent ∈ WW := inWW (tb_1 _ (List.mem_of_getElem? (i := 226) rfl)) rfl
abbrev wsX9_trait : List Cond := .code yX9_trait cX9_trait 3 (some .int) :: WW
theorem kc_X9_trait : Cond.code yX9_trait cX9_trait 3 (some .int) ∈ WW := inWW (tb_1 _ (List.mem_of_getElem? (i := 234) rfl)) rfl
theorem ki_X9_trait : Cond.instanceMethod yX9_trait ∈ WW := inWW (tb_1 _ (List.mem_of_getElem? (i := 232) rfl)) rfl
theorem ks_X9_trait : Cond.selects RX9 yX9_trait yX9_trait ∈ WW := inWW (tb_1 _ (List.mem_of_getElem? (i := 233) rfl)) rfl
abbrev wsX9_has : List Cond := .code yX9_has cX9_has 3 (some .int) :: WW
theorem kc_X9_has : Cond.code yX9_has cX9_has 3 (some .int) ∈ WW := inWW (tb_2 _ (List.mem_of_getElem? (i := 5) rfl)) rfl
theorem ki_X9_has : Cond.instanceMethod yX9_has ∈ WW := inWW (tb_2 _ (List.mem_of_getElem? (i := 3) rfl)) rfl
theorem ks_X9_has : Cond.selects RX9 yX9_has yX9_has ∈ WW := inWW (tb_2 _ (List.mem_of_getElem? (i := 4) rfl)) rfl
abbrev wsX9_flag : List Cond := .code yX9_flag cX9_flag 2 (some .int) :: WW
theorem kc_X9_flag : Cond.code yX9_flag cX9_flag 2 (some .int) ∈ WW := inWW (tb_2 _ (List.mem_of_getElem? (i := 9) rfl)) rfl
theorem ki_X9_flag : Cond.instanceMethod yX9_flag ∈ WW := inWW (tb_2 _ (List.mem_of_getElem? (i := 7) rfl)) rfl
theorem ks_X9_flag : Cond.selects RX9 yX9_flag yX9_flag ∈ WW := inWW (tb_2 _ (List.mem_of_getElem? (i := 8) rfl)) rfl
abbrev wsX9_close : List Cond := .code yX9_close cX9_close 1 (some .int) :: WW
theorem kc_X9_close : Cond.code yX9_close cX9_close 1 (some .int) ∈ WW := inWW (tb_2 _ (List.mem_of_getElem? (i := 17) rfl)) rfl
theorem ki_X9_close : Cond.instanceMethod yX9_close ∈ WW := inWW (tb_2 _ (List.mem_of_getElem? (i := 15) rfl)) rfl
theorem ks_X9_close : Cond.selects RX9 yX9_close yX9_close ∈ WW := inWW (tb_2 _ (List.mem_of_getElem? (i := 16) rfl)) rfl
abbrev wsX9_below : List Cond := .code yX9_below cX9_below 3 (some .boolean) :: WW
theorem kc_X9_below : Cond.code yX9_below cX9_below 3 (some .boolean) ∈ WW := inWW (tb_2 _ (List.mem_of_getElem? (i := 29) rfl)) rfl
theorem ki_X9_below : Cond.instanceMethod yX9_below ∈ WW := inWW (tb_2 _ (List.mem_of_getElem? (i := 27) rfl)) rfl
theorem ks_X9_below : Cond.selects RX9 yX9_below yX9_below ∈ WW := inWW (tb_2 _ (List.mem_of_getElem? (i := 28) rfl)) rfl
abbrev wsX9_sample : List Cond := .code yX9_sample cX9_sample 4 (some .int) :: WW
theorem kc_X9_sample : Cond.code yX9_sample cX9_sample 4 (some .int) ∈ WW := inWW (tb_2 _ (List.mem_of_getElem? (i := 40) rfl)) rfl
theorem ki_X9_sample : Cond.instanceMethod yX9_sample ∈ WW := inWW (tb_2 _ (List.mem_of_getElem? (i := 38) rfl)) rfl
theorem ks_X9_sample : Cond.selects RX9 yX9_sample yX9_sample ∈ WW := inWW (tb_2 _ (List.mem_of_getElem? (i := 39) rfl)) rfl
abbrev wsX9_of : List Cond := .code yX9_of cX9_of 3 (some .int) :: WW
theorem kc_X9_of : Cond.code yX9_of cX9_of 3 (some .int) ∈ WW := inWW (tb_2 _ (List.mem_of_getElem? (i := 48) rfl)) rfl
theorem ki_X9_of : Cond.instanceMethod yX9_of ∈ WW := inWW (tb_2 _ (List.mem_of_getElem? (i := 46) rfl)) rfl
theorem ks_X9_of : Cond.selects RX9 yX9_of yX9_of ∈ WW := inWW (tb_2 _ (List.mem_of_getElem? (i := 47) rfl)) rfl
abbrev wsX9_samples : List Cond := .code yX9_samples cX9_samples 1 (some .int) :: WW
theorem kc_X9_samples : Cond.code yX9_samples cX9_samples 1 (some .int) ∈ WW := inWW (tb_2 _ (List.mem_of_getElem? (i := 56) rfl)) rfl
theorem ki_X9_samples : Cond.instanceMethod yX9_samples ∈ WW := inWW (tb_2 _ (List.mem_of_getElem? (i := 54) rfl)) rfl
theorem ks_X9_samples : Cond.selects RX9 yX9_samples yX9_samples ∈ WW := inWW (tb_2 _ (List.mem_of_getElem? (i := 55) rfl)) rfl
abbrev wsX9_function : List Cond := .code yX9_function cX9_function 2 (some .int) :: WW
theorem kc_X9_function : Cond.code yX9_function cX9_function 2 (some .int) ∈ WW := inWW (tb_2 _ (List.mem_of_getElem? (i := 60) rfl)) rfl
theorem ki_X9_function : Cond.instanceMethod yX9_function ∈ WW := inWW (tb_2 _ (List.mem_of_getElem? (i := 58) rfl)) rfl
theorem ks_X9_function : Cond.selects RX9 yX9_function yX9_function ∈ WW := inWW (tb_2 _ (List.mem_of_getElem? (i := 59) rfl)) rfl
abbrev wsX9_handler : List Cond := .code yX9_handler cX9_handler 6 (some .int) :: WW
theorem kc_X9_handler : Cond.code yX9_handler cX9_handler 6 (some .int) ∈ WW := inWW (tb_2 _ (List.mem_of_getElem? (i := 145) rfl)) rfl
theorem ki_X9_handler : Cond.instanceMethod yX9_handler ∈ WW := inWW (tb_2 _ (List.mem_of_getElem? (i := 143) rfl)) rfl
theorem ks_X9_handler : Cond.selects RX9 yX9_handler yX9_handler ∈ WW := inWW (tb_2 _ (List.mem_of_getElem? (i := 144) rfl)) rfl
abbrev wsX9_place : List Cond := .code yX9_place cX9_place 5 (some .int) :: WW
theorem kc_X9_place : Cond.code yX9_place cX9_place 5 (some .int) ∈ WW := inWW (tb_2 _ (List.mem_of_getElem? (i := 205) rfl)) rfl
theorem ki_X9_place : Cond.instanceMethod yX9_place ∈ WW := inWW (tb_2 _ (List.mem_of_getElem? (i := 203) rfl)) rfl
theorem ks_X9_place : Cond.selects RX9 yX9_place yX9_place ∈ WW := inWW (tb_2 _ (List.mem_of_getElem? (i := 204) rfl)) rfl
abbrev wsX9_test : List Cond := .code yX9_test cX9_test 6 (some .int) :: WW
theorem kc_X9_test : Cond.code yX9_test cX9_test 6 (some .int) ∈ WW := inWW (tb_2 _ (List.mem_of_getElem? (i := 217) rfl)) rfl
theorem ki_X9_test : Cond.instanceMethod yX9_test ∈ WW := inWW (tb_2 _ (List.mem_of_getElem? (i := 215) rfl)) rfl
theorem ks_X9_test : Cond.selects RX9 yX9_test yX9_test ∈ WW := inWW (tb_2 _ (List.mem_of_getElem? (i := 216) rfl)) rfl
abbrev wsX9_lay : List Cond := .code yX9_lay cX9_lay 4 (some .int) :: WW
theorem kc_X9_lay : Cond.code yX9_lay cX9_lay 4 (some .int) ∈ WW := inWW (tb_2 _ (List.mem_of_getElem? (i := 221) rfl)) rfl
theorem ki_X9_lay : Cond.instanceMethod yX9_lay ∈ WW := inWW (tb_2 _ (List.mem_of_getElem? (i := 219) rfl)) rfl
theorem ks_X9_lay : Cond.selects RX9 yX9_lay yX9_lay ∈ WW := inWW (tb_2 _ (List.mem_of_getElem? (i := 220) rfl)) rfl
abbrev wsX9_lift : List Cond := .code yX9_lift cX9_lift 3 (some .int) :: WW
theorem kc_X9_lift : Cond.code yX9_lift cX9_lift 3 (some .int) ∈ WW := inWW (tb_3 _ (List.mem_of_getElem? (i := 29) rfl)) rfl
theorem ki_X9_lift : Cond.instanceMethod yX9_lift ∈ WW := inWW (tb_3 _ (List.mem_of_getElem? (i := 27) rfl)) rfl
theorem ks_X9_lift : Cond.selects RX9 yX9_lift yX9_lift ∈ WW := inWW (tb_3 _ (List.mem_of_getElem? (i := 28) rfl)) rfl
abbrev wsX9_freeze : List Cond := .code yX9_freeze cX9_freeze 4 (some .int) :: WW
theorem kc_X9_freeze : Cond.code yX9_freeze cX9_freeze 4 (some .int) ∈ WW := inWW (tb_3 _ (List.mem_of_getElem? (i := 37) rfl)) rfl
theorem ki_X9_freeze : Cond.instanceMethod yX9_freeze ∈ WW := inWW (tb_3 _ (List.mem_of_getElem? (i := 35) rfl)) rfl
theorem ks_X9_freeze : Cond.selects RX9 yX9_freeze yX9_freeze ∈ WW := inWW (tb_3 _ (List.mem_of_getElem? (i := 36) rfl)) rfl
abbrev wsX9_about : List Cond := .code yX9_about cX9_about 4 (some .int) :: WW
theorem kc_X9_about : Cond.code yX9_about cX9_about 4 (some .int) ∈ WW := inWW (tb_3 _ (List.mem_of_getElem? (i := 41) rfl)) rfl
theorem ki_X9_about : Cond.instanceMethod yX9_about ∈ WW := inWW (tb_3 _ (List.mem_of_getElem? (i := 39) rfl)) rfl
theorem ks_X9_about : Cond.selects RX9 yX9_about yX9_about ∈ WW := inWW (tb_3 _ (List.mem_of_getElem? (i := 40) rfl)) rfl
abbrev wsX9_dominates : List Cond := .code yX9_dominates cX9_dominates 5 (some .boolean) :: WW
theorem kc_X9_dominates : Cond.code yX9_dominates cX9_dominates 5 (some .boolean) ∈ WW := inWW (tb_3 _ (List.mem_of_getElem? (i := 48) rfl)) rfl
theorem ki_X9_dominates : Cond.instanceMethod yX9_dominates ∈ WW := inWW (tb_3 _ (List.mem_of_getElem? (i := 46) rfl)) rfl
theorem ks_X9_dominates : Cond.selects RX9 yX9_dominates yX9_dominates ∈ WW := inWW (tb_3 _ (List.mem_of_getElem? (i := 47) rfl)) rfl
abbrev wsX9_order : List Cond := .code yX9_order cX9_order 4 (some .int) :: WW
theorem kc_X9_order : Cond.code yX9_order cX9_order 4 (some .int) ∈ WW := inWW (tb_3 _ (List.mem_of_getElem? (i := 53) rfl)) rfl
theorem ki_X9_order : Cond.instanceMethod yX9_order ∈ WW := inWW (tb_3 _ (List.mem_of_getElem? (i := 51) rfl)) rfl
theorem ks_X9_order : Cond.selects RX9 yX9_order yX9_order ∈ WW := inWW (tb_3 _ (List.mem_of_getElem? (i := 52) rfl)) rfl
abbrev wsX9_arg : List Cond := .code yX9_arg cX9_arg 3 (some .int) :: WW
theorem kc_X9_arg : Cond.code yX9_arg cX9_arg 3 (some .int) ∈ WW := inWW (tb_3 _ (List.mem_of_getElem? (i := 65) rfl)) rfl
theorem ki_X9_arg : Cond.instanceMethod yX9_arg ∈ WW := inWW (tb_3 _ (List.mem_of_getElem? (i := 63) rfl)) rfl
theorem ks_X9_arg : Cond.selects RX9 yX9_arg yX9_arg ∈ WW := inWW (tb_3 _ (List.mem_of_getElem? (i := 64) rfl)) rfl
abbrev wsX9_call : List Cond := .code yX9_call cX9_call 5 (some .int) :: WW
theorem kc_X9_call : Cond.code yX9_call cX9_call 5 (some .int) ∈ WW := inWW (tb_3 _ (List.mem_of_getElem? (i := 69) rfl)) rfl
theorem ki_X9_call : Cond.instanceMethod yX9_call ∈ WW := inWW (tb_3 _ (List.mem_of_getElem? (i := 67) rfl)) rfl
theorem ks_X9_call : Cond.selects RX9 yX9_call yX9_call ∈ WW := inWW (tb_3 _ (List.mem_of_getElem? (i := 68) rfl)) rfl
abbrev wsX9_value : List Cond := .code yX9_value cX9_value 1 (some .long) :: WW
theorem kc_X9_value : Cond.code yX9_value cX9_value 1 (some .long) ∈ WW := inWW (tb_3 _ (List.mem_of_getElem? (i := 190) rfl)) rfl
theorem ki_X9_value : Cond.instanceMethod yX9_value ∈ WW := inWW (tb_3 _ (List.mem_of_getElem? (i := 188) rfl)) rfl
theorem ks_X9_value : Cond.selects RX9 yX9_value yX9_value ∈ WW := inWW (tb_3 _ (List.mem_of_getElem? (i := 189) rfl)) rfl
abbrev wsX9_failure : List Cond := .code yX9_failure cX9_failure 1 (some .int) :: WW
theorem kc_X9_failure : Cond.code yX9_failure cX9_failure 1 (some .int) ∈ WW := inWW (tb_3 _ (List.mem_of_getElem? (i := 194) rfl)) rfl
theorem ki_X9_failure : Cond.instanceMethod yX9_failure ∈ WW := inWW (tb_3 _ (List.mem_of_getElem? (i := 192) rfl)) rfl
theorem ks_X9_failure : Cond.selects RX9 yX9_failure yX9_failure ∈ WW := inWW (tb_3 _ (List.mem_of_getElem? (i := 193) rfl)) rfl
abbrev wsX9_step : List Cond := .code yX9_step cX9_step 2 (some .int) :: WW
theorem kc_X9_step : Cond.code yX9_step cX9_step 2 (some .int) ∈ WW := inWW (tb_3 _ (List.mem_of_getElem? (i := 198) rfl)) rfl
theorem ki_X9_step : Cond.instanceMethod yX9_step ∈ WW := inWW (tb_3 _ (List.mem_of_getElem? (i := 196) rfl)) rfl
theorem ks_X9_step : Cond.selects RX9 yX9_step yX9_step ∈ WW := inWW (tb_3 _ (List.mem_of_getElem? (i := 197) rfl)) rfl
abbrev wsX9_counter : List Cond := .code yX9_counter cX9_counter 2 (some .int) :: WW
theorem kc_X9_counter : Cond.code yX9_counter cX9_counter 2 (some .int) ∈ WW := inWW (tb_3 _ (List.mem_of_getElem? (i := 202) rfl)) rfl
theorem ki_X9_counter : Cond.instanceMethod yX9_counter ∈ WW := inWW (tb_3 _ (List.mem_of_getElem? (i := 200) rfl)) rfl
theorem ks_X9_counter : Cond.selects RX9 yX9_counter yX9_counter ∈ WW := inWW (tb_3 _ (List.mem_of_getElem? (i := 201) rfl)) rfl
abbrev wsX9_applicable : List Cond := .code yX9_applicable cX9_applicable 4 (some .int) :: WW
theorem kc_X9_applicable : Cond.code yX9_applicable cX9_applicable 4 (some .int) ∈ WW := inWW (tb_3 _ (List.mem_of_getElem? (i := 206) rfl)) rfl
theorem ki_X9_applicable : Cond.instanceMethod yX9_applicable ∈ WW := inWW (tb_3 _ (List.mem_of_getElem? (i := 204) rfl)) rfl
theorem ks_X9_applicable : Cond.selects RX9 yX9_applicable yX9_applicable ∈ WW := inWW (tb_3 _ (List.mem_of_getElem? (i := 205) rfl)) rfl
abbrev wsX9_most : List Cond := .code yX9_most cX9_most 3 (some .int) :: WW
theorem kc_X9_most : Cond.code yX9_most cX9_most 3 (some .int) ∈ WW := inWW (tb_3 _ (List.mem_of_getElem? (i := 211) rfl)) rfl
theorem ki_X9_most : Cond.instanceMethod yX9_most ∈ WW := inWW (tb_3 _ (List.mem_of_getElem? (i := 209) rfl)) rfl
theorem ks_X9_most : Cond.selects RX9 yX9_most yX9_most ∈ WW := inWW (tb_3 _ (List.mem_of_getElem? (i := 210) rfl)) rfl
abbrev wsX9_explain : List Cond := .code yX9_explain cX9_explain 4 (some .int) :: WW
theorem kc_X9_explain : Cond.code yX9_explain cX9_explain 4 (some .int) ∈ WW := inWW (tb_3 _ (List.mem_of_getElem? (i := 215) rfl)) rfl
theorem ki_X9_explain : Cond.instanceMethod yX9_explain ∈ WW := inWW (tb_3 _ (List.mem_of_getElem? (i := 213) rfl)) rfl
theorem ks_X9_explain : Cond.selects RX9 yX9_explain yX9_explain ∈ WW := inWW (tb_3 _ (List.mem_of_getElem? (i := 214) rfl)) rfl
abbrev wsX9_where : List Cond := .code yX9_where cX9_where 1 (some .int) :: WW
theorem kc_X9_where : Cond.code yX9_where cX9_where 1 (some .int) ∈ WW := inWW (tb_3 _ (List.mem_of_getElem? (i := 237) rfl)) rfl
theorem ki_X9_where : Cond.instanceMethod yX9_where ∈ WW := inWW (tb_3 _ (List.mem_of_getElem? (i := 235) rfl)) rfl
theorem ks_X9_where : Cond.selects RX9 yX9_where yX9_where ∈ WW := inWW (tb_3 _ (List.mem_of_getElem? (i := 236) rfl)) rfl
abbrev wsX9_count : List Cond := .code yX9_count cX9_count 4 (some .int) :: WW
theorem kc_X9_count : Cond.code yX9_count cX9_count 4 (some .int) ∈ WW := inWW (tb_4 _ (List.mem_of_getElem? (i := 1) rfl)) rfl
theorem ki_X9_count : Cond.instanceMethod yX9_count ∈ WW := inWW (tb_3 _ (List.mem_of_getElem? (i := 239) rfl)) rfl
theorem ks_X9_count : Cond.selects RX9 yX9_count yX9_count ∈ WW := inWW (tb_4 _ (List.mem_of_getElem? (i := 0) rfl)) rfl
abbrev wsX9_covered : List Cond := .code yX9_covered cX9_covered 3 (some .int) :: WW
theorem kc_X9_covered : Cond.code yX9_covered cX9_covered 3 (some .int) ∈ WW := inWW (tb_4 _ (List.mem_of_getElem? (i := 9) rfl)) rfl
theorem ki_X9_covered : Cond.instanceMethod yX9_covered ∈ WW := inWW (tb_4 _ (List.mem_of_getElem? (i := 7) rfl)) rfl
theorem ks_X9_covered : Cond.selects RX9 yX9_covered yX9_covered ∈ WW := inWW (tb_4 _ (List.mem_of_getElem? (i := 8) rfl)) rfl
abbrev wsX9_hole : List Cond := .code yX9_hole cX9_hole 4 (some .long) :: WW
theorem kc_X9_hole : Cond.code yX9_hole cX9_hole 4 (some .long) ∈ WW := inWW (tb_4 _ (List.mem_of_getElem? (i := 53) rfl)) rfl
theorem ki_X9_hole : Cond.instanceMethod yX9_hole ∈ WW := inWW (tb_4 _ (List.mem_of_getElem? (i := 51) rfl)) rfl
theorem ks_X9_hole : Cond.selects RX9 yX9_hole yX9_hole ∈ WW := inWW (tb_4 _ (List.mem_of_getElem? (i := 52) rfl)) rfl
abbrev wsX9_doubt : List Cond := .code yX9_doubt cX9_doubt 5 (some .long) :: WW
theorem kc_X9_doubt : Cond.code yX9_doubt cX9_doubt 5 (some .long) ∈ WW := inWW (tb_4 _ (List.mem_of_getElem? (i := 62) rfl)) rfl
theorem ki_X9_doubt : Cond.instanceMethod yX9_doubt ∈ WW := inWW (tb_4 _ (List.mem_of_getElem? (i := 60) rfl)) rfl
theorem ks_X9_doubt : Cond.selects RX9 yX9_doubt yX9_doubt ∈ WW := inWW (tb_4 _ (List.mem_of_getElem? (i := 61) rfl)) rfl
abbrev wsX9_isClass : List Cond := .code yX9_isClass cX9_isClass 1 (some .boolean) :: WW
theorem kc_X9_isClass : Cond.code yX9_isClass cX9_isClass 1 (some .boolean) ∈ WW := inWW (tb_1 _ (List.mem_of_getElem? (i := 230) rfl)) rfl
theorem kt_X9_isClass : Cond.static yX9_isClass ∈ WW := inWW (tb_1 _ (List.mem_of_getElem? (i := 229) rfl)) rfl
abbrev wsX9_isTrait : List Cond := .code yX9_isTrait cX9_isTrait 1 (some .boolean) :: WW
theorem kc_X9_isTrait : Cond.code yX9_isTrait cX9_isTrait 1 (some .boolean) ∈ WW := inWW (tb_1 _ (List.mem_of_getElem? (i := 237) rfl)) rfl
theorem kt_X9_isTrait : Cond.static yX9_isTrait ∈ WW := inWW (tb_1 _ (List.mem_of_getElem? (i := 236) rfl)) rfl
abbrev wsX9_isCode : List Cond := .code yX9_isCode cX9_isCode 1 (some .boolean) :: WW
theorem kc_X9_isCode : Cond.code yX9_isCode cX9_isCode 1 (some .boolean) ∈ WW := inWW (tb_2 _ (List.mem_of_getElem? (i := 32) rfl)) rfl
theorem kt_X9_isCode : Cond.static yX9_isCode ∈ WW := inWW (tb_2 _ (List.mem_of_getElem? (i := 31) rfl)) rfl
abbrev wsX9_elementOrZero : List Cond := .code yX9_elementOrZero cX9_elementOrZero 2 (some .int) :: WW
theorem kc_X9_elementOrZero : Cond.code yX9_elementOrZero cX9_elementOrZero 2 (some .int) ∈ WW := inWW (tb_3 _ (List.mem_of_getElem? (i := 44) rfl)) rfl
theorem kt_X9_elementOrZero : Cond.static yX9_elementOrZero ∈ WW := inWW (tb_3 _ (List.mem_of_getElem? (i := 43) rfl)) rfl
abbrev wsX9_memberAt : List Cond := .code yX9_memberAt cX9_memberAt 4 (some .int) :: WW
theorem kc_X9_memberAt : Cond.code yX9_memberAt cX9_memberAt 4 (some .int) ∈ WW := inWW (tb_3 _ (List.mem_of_getElem? (i := 21) rfl)) rfl
theorem kt_X9_memberAt : Cond.static yX9_memberAt ∈ WW := inWW (tb_3 _ (List.mem_of_getElem? (i := 20) rfl)) rfl
abbrev wsX9_functionAt : List Cond := .code yX9_functionAt cX9_functionAt 2 (some (.object "CallBoard$Function")) :: WW
theorem kc_X9_functionAt : Cond.code yX9_functionAt cX9_functionAt 2 (some (.object "CallBoard$Function")) ∈ WW := inWW (tb_2 _ (List.mem_of_getElem? (i := 149) rfl)) rfl
theorem ki_X9_functionAt : Cond.instanceMethod yX9_functionAt ∈ WW := inWW (tb_2 _ (List.mem_of_getElem? (i := 148) rfl)) rfl
theorem ks_X9_functionAt : Cond.selects RX9 yX9_functionAt yX9_functionAt ∈ WW := inWW (List.mem_append_left _ (List.mem_of_getElem? (i := 0) rfl)) rfl
abbrev wsX9_handlerAt : List Cond := .code yX9_handlerAt cX9_handlerAt 2 (some (.object "CallBoard$Handler")) :: WW
theorem kc_X9_handlerAt : Cond.code yX9_handlerAt cX9_handlerAt 2 (some (.object "CallBoard$Handler")) ∈ WW := inWW (tb_2 _ (List.mem_of_getElem? (i := 209) rfl)) rfl
theorem ki_X9_handlerAt : Cond.instanceMethod yX9_handlerAt ∈ WW := inWW (tb_2 _ (List.mem_of_getElem? (i := 208) rfl)) rfl
theorem ks_X9_handlerAt : Cond.selects RX9 yX9_handlerAt yX9_handlerAt ∈ WW := inWW (List.mem_append_left _ (List.mem_of_getElem? (i := 1) rfl)) rfl
abbrev wsX9_readToldRow : List Cond := .code yX9_readToldRow cX9_readToldRow 4 (some .boolean) :: WW
theorem kc_X9_readToldRow : Cond.code yX9_readToldRow cX9_readToldRow 4 (some .boolean) ∈ WW := inWW (tb_3 _ (List.mem_of_getElem? (i := 73) rfl)) rfl
theorem ki_X9_readToldRow : Cond.instanceMethod yX9_readToldRow ∈ WW := inWW (tb_3 _ (List.mem_of_getElem? (i := 72) rfl)) rfl
theorem ks_X9_readToldRow : Cond.selects RX9 yX9_readToldRow yX9_readToldRow ∈ WW := inWW (List.mem_append_left _ (List.mem_of_getElem? (i := 7) rfl)) rfl
abbrev wsX9_countOfAll : List Cond := .code yX9_countOfAll cX9_countOfAll 2 (some .int) :: WW
theorem kc_X9_countOfAll : Cond.code yX9_countOfAll cX9_countOfAll 2 (some .int) ∈ WW := inWW (tb_4 _ (List.mem_of_getElem? (i := 5) rfl)) rfl
theorem ki_X9_countOfAll : Cond.instanceMethod yX9_countOfAll ∈ WW := inWW (tb_4 _ (List.mem_of_getElem? (i := 4) rfl)) rfl
theorem ks_X9_countOfAll : Cond.selects RX9 yX9_countOfAll yX9_countOfAll ∈ WW := inWW (List.mem_append_left _ (List.mem_of_getElem? (i := 19) rfl)) rfl
abbrev wsX9_explainAmongTakers : List Cond := .code yX9_explainAmongTakers cX9_explainAmongTakers 7 (some .int) :: WW
theorem kc_X9_explainAmongTakers : Cond.code yX9_explainAmongTakers cX9_explainAmongTakers 7 (some .int) ∈ WW := inWW (tb_3 _ (List.mem_of_getElem? (i := 225) rfl)) rfl
theorem ki_X9_explainAmongTakers : Cond.instanceMethod yX9_explainAmongTakers ∈ WW := inWW (tb_3 _ (List.mem_of_getElem? (i := 224) rfl)) rfl
theorem ks_X9_explainAmongTakers : Cond.selects RX9 yX9_explainAmongTakers yX9_explainAmongTakers ∈ WW := inWW (List.mem_append_left _ (List.mem_of_getElem? (i := 18) rfl)) rfl
abbrev wsX9_carryOut : List Cond := .code yX9_carryOut cX9_carryOut 3 (some (.object "CallBoard$Function")) :: WW
theorem kc_X9_carryOut : Cond.code yX9_carryOut cX9_carryOut 3 (some (.object "CallBoard$Function")) ∈ WW := inWW (tb_3 _ (List.mem_of_getElem? (i := 81) rfl)) rfl
theorem ki_X9_carryOut : Cond.instanceMethod yX9_carryOut ∈ WW := inWW (tb_3 _ (List.mem_of_getElem? (i := 80) rfl)) rfl
theorem ks_X9_carryOut : Cond.selects RX9 yX9_carryOut yX9_carryOut ∈ WW := inWW (List.mem_append_left _ (List.mem_of_getElem? (i := 8) rfl)) rfl
abbrev wsX9_isBarred : List Cond := .code yX9_isBarred cX9_isBarred 7 (some .boolean) :: WW
theorem kc_X9_isBarred : Cond.code yX9_isBarred cX9_isBarred 7 (some .boolean) ∈ WW := inWW (tb_3 _ (List.mem_of_getElem? (i := 85) rfl)) rfl
theorem ki_X9_isBarred : Cond.instanceMethod yX9_isBarred ∈ WW := inWW (tb_3 _ (List.mem_of_getElem? (i := 84) rfl)) rfl
theorem ks_X9_isBarred : Cond.selects RX9 yX9_isBarred yX9_isBarred ∈ WW := inWW (List.mem_append_left _ (List.mem_of_getElem? (i := 9) rfl)) rfl
abbrev wsX9_runChosen : List Cond := .code yX9_runChosen cX9_runChosen 7 (some (.object "CallBoard$Function")) :: WW
theorem kc_X9_runChosen : Cond.code yX9_runChosen cX9_runChosen 7 (some (.object "CallBoard$Function")) ∈ WW := inWW (tb_3 _ (List.mem_of_getElem? (i := 147) rfl)) rfl
theorem ki_X9_runChosen : Cond.instanceMethod yX9_runChosen ∈ WW := inWW (tb_3 _ (List.mem_of_getElem? (i := 146) rfl)) rfl
theorem ks_X9_runChosen : Cond.selects RX9 yX9_runChosen yX9_runChosen ∈ WW := inWW (List.mem_append_left _ (List.mem_of_getElem? (i := 13) rfl)) rfl
abbrev wsX9_act : List Cond := .code yX9_act cX9_act 2 (some (.object "CallBoard$Function")) :: WW
theorem kc_X9_act : Cond.code yX9_act cX9_act 2 (some (.object "CallBoard$Function")) ∈ WW := inWW (tb_3 _ (List.mem_of_getElem? (i := 155) rfl)) rfl
theorem ki_X9_act : Cond.instanceMethod yX9_act ∈ WW := inWW (tb_3 _ (List.mem_of_getElem? (i := 154) rfl)) rfl
theorem ks_X9_act : Cond.selects RX9 yX9_act yX9_act ∈ WW := inWW (List.mem_append_left _ (List.mem_of_getElem? (i := 14) rfl)) rfl
abbrev wsX9_countUp : List Cond := .code yX9_countUp cX9_countUp 2 (some .int) :: WW
theorem kc_X9_countUp : Cond.code yX9_countUp cX9_countUp 2 (some .int) ∈ WW := inWW (tb_3 _ (List.mem_of_getElem? (i := 170) rfl)) rfl
theorem ki_X9_countUp : Cond.instanceMethod yX9_countUp ∈ WW := inWW (tb_3 _ (List.mem_of_getElem? (i := 169) rfl)) rfl
theorem ks_X9_countUp : Cond.selects RX9 yX9_countUp yX9_countUp ∈ WW := inWW (List.mem_append_left _ (List.mem_of_getElem? (i := 15) rfl)) rfl
abbrev wsX9_bringSample : List Cond := .code yX9_bringSample cX9_bringSample 3 none :: WW
theorem kc_X9_bringSample : Cond.code yX9_bringSample cX9_bringSample 3 none ∈ WW := inWW (tb_3 _ (List.mem_of_getElem? (i := 174) rfl)) rfl
theorem ki_X9_bringSample : Cond.instanceMethod yX9_bringSample ∈ WW := inWW (tb_3 _ (List.mem_of_getElem? (i := 173) rfl)) rfl
theorem ks_X9_bringSample : Cond.selects RX9 yX9_bringSample yX9_bringSample ∈ WW := inWW (List.mem_append_left _ (List.mem_of_getElem? (i := 16) rfl)) rfl
abbrev wsX9_calledWithin : List Cond := .code yX9_calledWithin cX9_calledWithin 3 (some (.object "CallBoard$Function")) :: WW
theorem kc_X9_calledWithin : Cond.code yX9_calledWithin cX9_calledWithin 3 (some (.object "CallBoard$Function")) ∈ WW := inWW (tb_3 _ (List.mem_of_getElem? (i := 178) rfl)) rfl
theorem ki_X9_calledWithin : Cond.instanceMethod yX9_calledWithin ∈ WW := inWW (tb_3 _ (List.mem_of_getElem? (i := 177) rfl)) rfl
theorem ks_X9_calledWithin : Cond.selects RX9 yX9_calledWithin yX9_calledWithin ∈ WW := inWW (List.mem_append_left _ (List.mem_of_getElem? (i := 17) rfl)) rfl
abbrev wsX10_init : List Cond := .code yX10_init cX10_init 2 none :: WW
theorem kc_X10_init : Cond.code yX10_init cX10_init 2 none ∈ WW := inWW (tb_4 _ (List.mem_of_getElem? (i := 77) rfl)) rfl
theorem ki_X10_init : Cond.instanceMethod yX10_init ∈ WW := inWW (tb_4 _ (List.mem_of_getElem? (i := 76) rfl)) rfl
abbrev wsX10_isClass : List Cond := .code yX10_isClass cX10_isClass 1 (some .boolean) :: WW
theorem kc_X10_isClass : Cond.code yX10_isClass cX10_isClass 1 (some .boolean) ∈ WW := inWW (tb_4 _ (List.mem_of_getElem? (i := 204) rfl)) rfl
theorem kt_X10_isClass : Cond.static yX10_isClass ∈ WW := inWW (tb_4 _ (List.mem_of_getElem? (i := 203) rfl)) rfl
abbrev wsX10_isTrait : List Cond := .code yX10_isTrait cX10_isTrait 1 (some .boolean) :: WW
theorem kc_X10_isTrait : Cond.code yX10_isTrait cX10_isTrait 1 (some .boolean) ∈ WW := inWW (tb_4 _ (List.mem_of_getElem? (i := 211) rfl)) rfl
theorem kt_X10_isTrait : Cond.static yX10_isTrait ∈ WW := inWW (tb_4 _ (List.mem_of_getElem? (i := 210) rfl)) rfl
abbrev wsX10_parent : List Cond := .code yX10_parent cX10_parent 3 (some .int) :: WW
theorem kc_X10_parent : Cond.code yX10_parent cX10_parent 3 (some .int) ∈ WW := inWW (tb_4 _ (List.mem_of_getElem? (i := 201) rfl)) rfl
theorem ki_X10_parent : Cond.instanceMethod yX10_parent ∈ WW := inWW (tb_4 _ (List.mem_of_getElem? (i := 199) rfl)) rfl
theorem ks_X10_parent : Cond.selects RX10 yX10_parent yX10_parent ∈ WW := inWW (tb_4 _ (List.mem_of_getElem? (i := 200) rfl)) rfl
abbrev wsX10_add : List Cond := .code yX10_add cX10_add 4 (some .int) :: WW
theorem kc_X10_add : Cond.code yX10_add cX10_add 4 (some .int) ∈ WW := inWW (tb_4 _ (List.mem_of_getElem? (i := 215) rfl)) rfl
theorem ki_X10_add : Cond.instanceMethod yX10_add ∈ WW := inWW (tb_4 _ (List.mem_of_getElem? (i := 214) rfl)) rfl
theorem ks_X10_add : Cond.selects RX10 yX10_add yX10_add ∈ WW := inWW (List.mem_append_left _ (List.mem_of_getElem? (i := 27) rfl)) rfl
abbrev wsX10_trait : List Cond := .code yX10_trait cX10_trait 3 (some .int) :: WW
theorem kc_X10_trait : Cond.code yX10_trait cX10_trait 3 (some .int) ∈ WW := inWW (tb_4 _ (List.mem_of_getElem? (i := 208) rfl)) rfl
theorem ki_X10_trait : Cond.instanceMethod yX10_trait ∈ WW := inWW (tb_4 _ (List.mem_of_getElem? (i := 206) rfl)) rfl
theorem ks_X10_trait : Cond.selects RX10 yX10_trait yX10_trait ∈ WW := inWW (tb_4 _ (List.mem_of_getElem? (i := 207) rfl)) rfl
abbrev wsX10_has : List Cond := .code yX10_has cX10_has 3 (some .int) :: WW
theorem kc_X10_has : Cond.code yX10_has cX10_has 3 (some .int) ∈ WW := inWW (tb_4 _ (List.mem_of_getElem? (i := 219) rfl)) rfl
theorem ki_X10_has : Cond.instanceMethod yX10_has ∈ WW := inWW (tb_4 _ (List.mem_of_getElem? (i := 217) rfl)) rfl
theorem ks_X10_has : Cond.selects RX10 yX10_has yX10_has ∈ WW := inWW (tb_4 _ (List.mem_of_getElem? (i := 218) rfl)) rfl
abbrev wsX10_flag : List Cond := .code yX10_flag cX10_flag 3 (some .int) :: WW
theorem kc_X10_flag : Cond.code yX10_flag cX10_flag 3 (some .int) ∈ WW := inWW (tb_4 _ (List.mem_of_getElem? (i := 223) rfl)) rfl
theorem ki_X10_flag : Cond.instanceMethod yX10_flag ∈ WW := inWW (tb_4 _ (List.mem_of_getElem? (i := 221) rfl)) rfl
theorem ks_X10_flag : Cond.selects RX10 yX10_flag yX10_flag ∈ WW := inWW (tb_4 _ (List.mem_of_getElem? (i := 222) rfl)) rfl
abbrev wsX10_close : List Cond := .code yX10_close cX10_close 4 (some .int) :: WW
theorem kc_X10_close : Cond.code yX10_close cX10_close 4 (some .int) ∈ WW := inWW (tb_4 _ (List.mem_of_getElem? (i := 227) rfl)) rfl
theorem ki_X10_close : Cond.instanceMethod yX10_close ∈ WW := inWW (tb_4 _ (List.mem_of_getElem? (i := 225) rfl)) rfl
theorem ks_X10_close : Cond.selects RX10 yX10_close yX10_close ∈ WW := inWW (tb_4 _ (List.mem_of_getElem? (i := 226) rfl)) rfl
abbrev wsX10_isBelow : List Cond := .code yX10_isBelow cX10_isBelow 3 (some .boolean) :: WW
theorem kc_X10_isBelow : Cond.code yX10_isBelow cX10_isBelow 3 (some .boolean) ∈ WW := inWW (tb_4 _ (List.mem_of_getElem? (i := 235) rfl)) rfl
theorem ki_X10_isBelow : Cond.instanceMethod yX10_isBelow ∈ WW := inWW (tb_4 _ (List.mem_of_getElem? (i := 234) rfl)) rfl
theorem ks_X10_isBelow : Cond.selects RX10 yX10_isBelow yX10_isBelow ∈ WW := inWW (List.mem_append_left _ (List.mem_of_getElem? (i := 28) rfl)) rfl
abbrev wsX10_below : List Cond := .code yX10_below cX10_below 3 (some .boolean) :: WW
theorem kc_X10_below : Cond.code yX10_below cX10_below 3 (some .boolean) ∈ WW := inWW (tb_4 _ (List.mem_of_getElem? (i := 231) rfl)) rfl
theorem ki_X10_below : Cond.instanceMethod yX10_below ∈ WW := inWW (tb_4 _ (List.mem_of_getElem? (i := 229) rfl)) rfl
theorem ks_X10_below : Cond.selects RX10 yX10_below yX10_below ∈ WW := inWW (tb_4 _ (List.mem_of_getElem? (i := 230) rfl)) rfl
abbrev wsX10_sample : List Cond := .code yX10_sample cX10_sample 3 (some .int) :: WW
theorem kc_X10_sample : Cond.code yX10_sample cX10_sample 3 (some .int) ∈ WW := inWW (tb_4 _ (List.mem_of_getElem? (i := 239) rfl)) rfl
theorem ki_X10_sample : Cond.instanceMethod yX10_sample ∈ WW := inWW (tb_4 _ (List.mem_of_getElem? (i := 237) rfl)) rfl
theorem ks_X10_sample : Cond.selects RX10 yX10_sample yX10_sample ∈ WW := inWW (tb_4 _ (List.mem_of_getElem? (i := 238) rfl)) rfl
abbrev wsX10_of : List Cond := .code yX10_of cX10_of 3 (some .int) :: WW
theorem kc_X10_of : Cond.code yX10_of cX10_of 3 (some .int) ∈ WW := inWW (tb_5 _ (List.mem_of_getElem? (i := 3) rfl)) rfl
theorem ki_X10_of : Cond.instanceMethod yX10_of ∈ WW := inWW (tb_5 _ (List.mem_of_getElem? (i := 1) rfl)) rfl
theorem ks_X10_of : Cond.selects RX10 yX10_of yX10_of ∈ WW := inWW (tb_5 _ (List.mem_of_getElem? (i := 2) rfl)) rfl
abbrev wsX10_samples : List Cond := .code yX10_samples cX10_samples 1 (some .int) :: WW
theorem kc_X10_samples : Cond.code yX10_samples cX10_samples 1 (some .int) ∈ WW := inWW (tb_5 _ (List.mem_of_getElem? (i := 7) rfl)) rfl
theorem ki_X10_samples : Cond.instanceMethod yX10_samples ∈ WW := inWW (tb_5 _ (List.mem_of_getElem? (i := 5) rfl)) rfl
theorem ks_X10_samples : Cond.selects RX10 yX10_samples yX10_samples ∈ WW := inWW (tb_5 _ (List.mem_of_getElem? (i := 6) rfl)) rfl
abbrev wsX10_function : List Cond := .code yX10_function cX10_function 2 (some .int) :: WW
theorem kc_X10_function : Cond.code yX10_function cX10_function 2 (some .int) ∈ WW := inWW (tb_5 _ (List.mem_of_getElem? (i := 11) rfl)) rfl
theorem ki_X10_function : Cond.instanceMethod yX10_function ∈ WW := inWW (tb_5 _ (List.mem_of_getElem? (i := 9) rfl)) rfl
theorem ks_X10_function : Cond.selects RX10 yX10_function yX10_function ∈ WW := inWW (tb_5 _ (List.mem_of_getElem? (i := 10) rfl)) rfl
abbrev wsX10_isFunction : List Cond := .code yX10_isFunction cX10_isFunction 2 (some .boolean) :: WW
theorem kc_X10_isFunction : Cond.code yX10_isFunction cX10_isFunction 2 (some .boolean) ∈ WW := inWW (tb_5 _ (List.mem_of_getElem? (i := 19) rfl)) rfl
theorem ki_X10_isFunction : Cond.instanceMethod yX10_isFunction ∈ WW := inWW (tb_5 _ (List.mem_of_getElem? (i := 18) rfl)) rfl
theorem ks_X10_isFunction : Cond.selects RX10 yX10_isFunction yX10_isFunction ∈ WW := inWW (List.mem_append_left _ (List.mem_of_getElem? (i := 29) rfl)) rfl
abbrev wsX10_isHandler : List Cond := .code yX10_isHandler cX10_isHandler 2 (some .boolean) :: WW
theorem kc_X10_isHandler : Cond.code yX10_isHandler cX10_isHandler 2 (some .boolean) ∈ WW := inWW (tb_5 _ (List.mem_of_getElem? (i := 33) rfl)) rfl
theorem ki_X10_isHandler : Cond.instanceMethod yX10_isHandler ∈ WW := inWW (tb_5 _ (List.mem_of_getElem? (i := 32) rfl)) rfl
theorem ks_X10_isHandler : Cond.selects RX10 yX10_isHandler yX10_isHandler ∈ WW := inWW (List.mem_append_left _ (List.mem_of_getElem? (i := 31) rfl)) rfl
abbrev wsX10_handler : List Cond := .code yX10_handler cX10_handler 7 (some .int) :: WW
theorem kc_X10_handler : Cond.code yX10_handler cX10_handler 7 (some .int) ∈ WW := inWW (tb_5 _ (List.mem_of_getElem? (i := 15) rfl)) rfl
theorem ki_X10_handler : Cond.instanceMethod yX10_handler ∈ WW := inWW (tb_5 _ (List.mem_of_getElem? (i := 13) rfl)) rfl
theorem ks_X10_handler : Cond.selects RX10 yX10_handler yX10_handler ∈ WW := inWW (tb_5 _ (List.mem_of_getElem? (i := 14) rfl)) rfl
abbrev wsX10_hasPlace : List Cond := .code yX10_hasPlace cX10_hasPlace 3 (some .boolean) :: WW
theorem kc_X10_hasPlace : Cond.code yX10_hasPlace cX10_hasPlace 3 (some .boolean) ∈ WW := inWW (tb_5 _ (List.mem_of_getElem? (i := 29) rfl)) rfl
theorem ki_X10_hasPlace : Cond.instanceMethod yX10_hasPlace ∈ WW := inWW (tb_5 _ (List.mem_of_getElem? (i := 28) rfl)) rfl
theorem ks_X10_hasPlace : Cond.selects RX10 yX10_hasPlace yX10_hasPlace ∈ WW := inWW (List.mem_append_left _ (List.mem_of_getElem? (i := 30) rfl)) rfl
abbrev wsX10_place : List Cond := .code yX10_place cX10_place 4 (some .int) :: WW
theorem kc_X10_place : Cond.code yX10_place cX10_place 4 (some .int) ∈ WW := inWW (tb_5 _ (List.mem_of_getElem? (i := 25) rfl)) rfl
theorem ki_X10_place : Cond.instanceMethod yX10_place ∈ WW := inWW (tb_5 _ (List.mem_of_getElem? (i := 23) rfl)) rfl
theorem ks_X10_place : Cond.selects RX10 yX10_place yX10_place ∈ WW := inWW (tb_5 _ (List.mem_of_getElem? (i := 24) rfl)) rfl
abbrev wsX10_test : List Cond := .code yX10_test cX10_test 5 (some .int) :: WW
theorem kc_X10_test : Cond.code yX10_test cX10_test 5 (some .int) ∈ WW := inWW (tb_5 _ (List.mem_of_getElem? (i := 37) rfl)) rfl
theorem ki_X10_test : Cond.instanceMethod yX10_test ∈ WW := inWW (tb_5 _ (List.mem_of_getElem? (i := 35) rfl)) rfl
theorem ks_X10_test : Cond.selects RX10 yX10_test yX10_test ∈ WW := inWW (tb_5 _ (List.mem_of_getElem? (i := 36) rfl)) rfl
abbrev wsX10_isLaid : List Cond := .code yX10_isLaid cX10_isLaid 3 (some .boolean) :: WW
theorem kc_X10_isLaid : Cond.code yX10_isLaid cX10_isLaid 3 (some .boolean) ∈ WW := inWW (tb_5 _ (List.mem_of_getElem? (i := 45) rfl)) rfl
theorem ki_X10_isLaid : Cond.instanceMethod yX10_isLaid ∈ WW := inWW (tb_5 _ (List.mem_of_getElem? (i := 44) rfl)) rfl
theorem ks_X10_isLaid : Cond.selects RX10 yX10_isLaid yX10_isLaid ∈ WW := inWW (List.mem_append_left _ (List.mem_of_getElem? (i := 32) rfl)) rfl
abbrev wsX10_laid : List Cond := .code yX10_laid cX10_laid 4 (some .int) :: WW
theorem kc_X10_laid : Cond.code yX10_laid cX10_laid 4 (some .int) ∈ WW := inWW (tb_5 _ (List.mem_of_getElem? (i := 53) rfl)) rfl
theorem ki_X10_laid : Cond.instanceMethod yX10_laid ∈ WW := inWW (tb_5 _ (List.mem_of_getElem? (i := 52) rfl)) rfl
theorem ks_X10_laid : Cond.selects RX10 yX10_laid yX10_laid ∈ WW := inWW (List.mem_append_left _ (List.mem_of_getElem? (i := 34) rfl)) rfl
abbrev wsX10_areSame : List Cond := .code yX10_areSame cX10_areSame 4 (some .boolean) :: WW
theorem kc_X10_areSame : Cond.code yX10_areSame cX10_areSame 4 (some .boolean) ∈ WW := inWW (tb_5 _ (List.mem_of_getElem? (i := 49) rfl)) rfl
theorem ki_X10_areSame : Cond.instanceMethod yX10_areSame ∈ WW := inWW (tb_5 _ (List.mem_of_getElem? (i := 48) rfl)) rfl
theorem ks_X10_areSame : Cond.selects RX10 yX10_areSame yX10_areSame ∈ WW := inWW (List.mem_append_left _ (List.mem_of_getElem? (i := 33) rfl)) rfl
abbrev wsX10_isNarrower : List Cond := .code yX10_isNarrower cX10_isNarrower 6 (some .boolean) :: WW
theorem kc_X10_isNarrower : Cond.code yX10_isNarrower cX10_isNarrower 6 (some .boolean) ∈ WW := inWW (tb_5 _ (List.mem_of_getElem? (i := 77) rfl)) rfl
theorem ki_X10_isNarrower : Cond.instanceMethod yX10_isNarrower ∈ WW := inWW (tb_5 _ (List.mem_of_getElem? (i := 76) rfl)) rfl
theorem ks_X10_isNarrower : Cond.selects RX10 yX10_isNarrower yX10_isNarrower ∈ WW := inWW (List.mem_append_left _ (List.mem_of_getElem? (i := 36) rfl)) rfl
abbrev wsX10_isMore : List Cond := .code yX10_isMore cX10_isMore 7 (some .boolean) :: WW
theorem kc_X10_isMore : Cond.code yX10_isMore cX10_isMore 7 (some .boolean) ∈ WW := inWW (tb_5 _ (List.mem_of_getElem? (i := 73) rfl)) rfl
theorem ki_X10_isMore : Cond.instanceMethod yX10_isMore ∈ WW := inWW (tb_5 _ (List.mem_of_getElem? (i := 72) rfl)) rfl
theorem ks_X10_isMore : Cond.selects RX10 yX10_isMore yX10_isMore ∈ WW := inWW (List.mem_append_left _ (List.mem_of_getElem? (i := 35) rfl)) rfl
abbrev wsX10_lay : List Cond := .code yX10_lay cX10_lay 6 (some .int) :: WW
theorem kc_X10_lay : Cond.code yX10_lay cX10_lay 6 (some .int) ∈ WW := inWW (tb_5 _ (List.mem_of_getElem? (i := 41) rfl)) rfl
theorem ki_X10_lay : Cond.instanceMethod yX10_lay ∈ WW := inWW (tb_5 _ (List.mem_of_getElem? (i := 39) rfl)) rfl
theorem ks_X10_lay : Cond.selects RX10 yX10_lay yX10_lay ∈ WW := inWW (tb_5 _ (List.mem_of_getElem? (i := 40) rfl)) rfl
abbrev wsX10_lift : List Cond := .code yX10_lift cX10_lift 2 (some .int) :: WW
theorem kc_X10_lift : Cond.code yX10_lift cX10_lift 2 (some .int) ∈ WW := inWW (tb_5 _ (List.mem_of_getElem? (i := 57) rfl)) rfl
theorem ki_X10_lift : Cond.instanceMethod yX10_lift ∈ WW := inWW (tb_5 _ (List.mem_of_getElem? (i := 55) rfl)) rfl
theorem ks_X10_lift : Cond.selects RX10 yX10_lift yX10_lift ∈ WW := inWW (tb_5 _ (List.mem_of_getElem? (i := 56) rfl)) rfl
abbrev wsX10_freeze : List Cond := .code yX10_freeze cX10_freeze 4 (some .int) :: WW
theorem kc_X10_freeze : Cond.code yX10_freeze cX10_freeze 4 (some .int) ∈ WW := inWW (tb_5 _ (List.mem_of_getElem? (i := 61) rfl)) rfl
theorem ki_X10_freeze : Cond.instanceMethod yX10_freeze ∈ WW := inWW (tb_5 _ (List.mem_of_getElem? (i := 59) rfl)) rfl
theorem ks_X10_freeze : Cond.selects RX10 yX10_freeze yX10_freeze ∈ WW := inWW (tb_5 _ (List.mem_of_getElem? (i := 60) rfl)) rfl
abbrev wsX10_about : List Cond := .code yX10_about cX10_about 5 (some .int) :: WW
theorem kc_X10_about : Cond.code yX10_about cX10_about 5 (some .int) ∈ WW := inWW (tb_5 _ (List.mem_of_getElem? (i := 65) rfl)) rfl
theorem ki_X10_about : Cond.instanceMethod yX10_about ∈ WW := inWW (tb_5 _ (List.mem_of_getElem? (i := 63) rfl)) rfl
theorem ks_X10_about : Cond.selects RX10 yX10_about yX10_about ∈ WW := inWW (tb_5 _ (List.mem_of_getElem? (i := 64) rfl)) rfl
abbrev wsX10_dominates : List Cond := .code yX10_dominates cX10_dominates 3 (some .boolean) :: WW
theorem kc_X10_dominates : Cond.code yX10_dominates cX10_dominates 3 (some .boolean) ∈ WW := inWW (tb_5 _ (List.mem_of_getElem? (i := 69) rfl)) rfl
theorem ki_X10_dominates : Cond.instanceMethod yX10_dominates ∈ WW := inWW (tb_5 _ (List.mem_of_getElem? (i := 67) rfl)) rfl
theorem ks_X10_dominates : Cond.selects RX10 yX10_dominates yX10_dominates ∈ WW := inWW (tb_5 _ (List.mem_of_getElem? (i := 68) rfl)) rfl
abbrev wsX10_inOrder : List Cond := .code yX10_inOrder cX10_inOrder 8 (some .int) :: WW
theorem kc_X10_inOrder : Cond.code yX10_inOrder cX10_inOrder 8 (some .int) ∈ WW := inWW (tb_5 _ (List.mem_of_getElem? (i := 85) rfl)) rfl
theorem ki_X10_inOrder : Cond.instanceMethod yX10_inOrder ∈ WW := inWW (tb_5 _ (List.mem_of_getElem? (i := 84) rfl)) rfl
theorem ks_X10_inOrder : Cond.selects RX10 yX10_inOrder yX10_inOrder ∈ WW := inWW (List.mem_append_left _ (List.mem_of_getElem? (i := 37) rfl)) rfl
abbrev wsX10_order : List Cond := .code yX10_order cX10_order 3 (some .int) :: WW
theorem kc_X10_order : Cond.code yX10_order cX10_order 3 (some .int) ∈ WW := inWW (tb_5 _ (List.mem_of_getElem? (i := 81) rfl)) rfl
theorem ki_X10_order : Cond.instanceMethod yX10_order ∈ WW := inWW (tb_5 _ (List.mem_of_getElem? (i := 79) rfl)) rfl
theorem ks_X10_order : Cond.selects RX10 yX10_order yX10_order ∈ WW := inWW (tb_5 _ (List.mem_of_getElem? (i := 80) rfl)) rfl
abbrev wsX10_takesAt : List Cond := .code yX10_takesAt cX10_takesAt 5 (some .boolean) :: WW
theorem kc_X10_takesAt : Cond.code yX10_takesAt cX10_takesAt 5 (some .boolean) ∈ WW := inWW (tb_5 _ (List.mem_of_getElem? (i := 113) rfl)) rfl
theorem ki_X10_takesAt : Cond.instanceMethod yX10_takesAt ∈ WW := inWW (tb_5 _ (List.mem_of_getElem? (i := 112) rfl)) rfl
theorem ks_X10_takesAt : Cond.selects RX10 yX10_takesAt yX10_takesAt ∈ WW := inWW (List.mem_append_left _ (List.mem_of_getElem? (i := 42) rfl)) rfl
abbrev wsX10_takes : List Cond := .code yX10_takes cX10_takes 4 (some .boolean) :: WW
theorem kc_X10_takes : Cond.code yX10_takes cX10_takes 4 (some .boolean) ∈ WW := inWW (tb_5 _ (List.mem_of_getElem? (i := 109) rfl)) rfl
theorem ki_X10_takes : Cond.instanceMethod yX10_takes ∈ WW := inWW (tb_5 _ (List.mem_of_getElem? (i := 108) rfl)) rfl
theorem ks_X10_takes : Cond.selects RX10 yX10_takes yX10_takes ∈ WW := inWW (List.mem_append_left _ (List.mem_of_getElem? (i := 41) rfl)) rfl
abbrev wsX10_isOffered : List Cond := .code yX10_isOffered cX10_isOffered 4 (some .boolean) :: WW
theorem kc_X10_isOffered : Cond.code yX10_isOffered cX10_isOffered 4 (some .boolean) ∈ WW := inWW (tb_5 _ (List.mem_of_getElem? (i := 142) rfl)) rfl
theorem ki_X10_isOffered : Cond.instanceMethod yX10_isOffered ∈ WW := inWW (tb_5 _ (List.mem_of_getElem? (i := 141) rfl)) rfl
theorem ks_X10_isOffered : Cond.selects RX10 yX10_isOffered yX10_isOffered ∈ WW := inWW (List.mem_append_left _ (List.mem_of_getElem? (i := 49) rfl)) rfl
abbrev wsX10_offered : List Cond := .code yX10_offered cX10_offered 5 (some .int) :: WW
theorem kc_X10_offered : Cond.code yX10_offered cX10_offered 5 (some .int) ∈ WW := inWW (tb_5 _ (List.mem_of_getElem? (i := 138) rfl)) rfl
theorem ki_X10_offered : Cond.instanceMethod yX10_offered ∈ WW := inWW (tb_5 _ (List.mem_of_getElem? (i := 137) rfl)) rfl
theorem ks_X10_offered : Cond.selects RX10 yX10_offered yX10_offered ∈ WW := inWW (List.mem_append_left _ (List.mem_of_getElem? (i := 48) rfl)) rfl
abbrev wsX10_chosen : List Cond := .code yX10_chosen cX10_chosen 7 (some .int) :: WW
theorem kc_X10_chosen : Cond.code yX10_chosen cX10_chosen 7 (some .int) ∈ WW := inWW (tb_5 _ (List.mem_of_getElem? (i := 146) rfl)) rfl
theorem ki_X10_chosen : Cond.instanceMethod yX10_chosen ∈ WW := inWW (tb_5 _ (List.mem_of_getElem? (i := 145) rfl)) rfl
theorem ks_X10_chosen : Cond.selects RX10 yX10_chosen yX10_chosen ∈ WW := inWW (List.mem_append_left _ (List.mem_of_getElem? (i := 50) rfl)) rfl
abbrev wsX10_tellRow : List Cond := .code yX10_tellRow cX10_tellRow 4 (some .boolean) :: WW
theorem kc_X10_tellRow : Cond.code yX10_tellRow cX10_tellRow 4 (some .boolean) ∈ WW := inWW (tb_5 _ (List.mem_of_getElem? (i := 97) rfl)) rfl
theorem ki_X10_tellRow : Cond.instanceMethod yX10_tellRow ∈ WW := inWW (tb_5 _ (List.mem_of_getElem? (i := 96) rfl)) rfl
theorem ks_X10_tellRow : Cond.selects RX10 yX10_tellRow yX10_tellRow ∈ WW := inWW (List.mem_append_left _ (List.mem_of_getElem? (i := 38) rfl)) rfl
abbrev wsX10_piece : List Cond := .code yX10_piece cX10_piece 10 (some .long) :: WW
theorem kc_X10_piece : Cond.code yX10_piece cX10_piece 10 (some .long) ∈ WW := inWW (tb_5 _ (List.mem_of_getElem? (i := 129) rfl)) rfl
theorem ki_X10_piece : Cond.instanceMethod yX10_piece ∈ WW := inWW (tb_5 _ (List.mem_of_getElem? (i := 128) rfl)) rfl
theorem ks_X10_piece : Cond.selects RX10 yX10_piece yX10_piece ∈ WW := inWW (List.mem_append_left _ (List.mem_of_getElem? (i := 46) rfl)) rfl
abbrev wsX10_remember : List Cond := .code yX10_remember cX10_remember 14 none :: WW
theorem kc_X10_remember : Cond.code yX10_remember cX10_remember 14 none ∈ WW := inWW (tb_5 _ (List.mem_of_getElem? (i := 125) rfl)) rfl
theorem ki_X10_remember : Cond.instanceMethod yX10_remember ∈ WW := inWW (tb_5 _ (List.mem_of_getElem? (i := 124) rfl)) rfl
theorem ks_X10_remember : Cond.selects RX10 yX10_remember yX10_remember ∈ WW := inWW (List.mem_append_left _ (List.mem_of_getElem? (i := 45) rfl)) rfl
abbrev wsX10_arg : List Cond := .code yX10_arg cX10_arg 3 (some .int) :: WW
theorem kc_X10_arg : Cond.code yX10_arg cX10_arg 3 (some .int) ∈ WW := inWW (tb_5 _ (List.mem_of_getElem? (i := 89) rfl)) rfl
theorem ki_X10_arg : Cond.instanceMethod yX10_arg ∈ WW := inWW (tb_5 _ (List.mem_of_getElem? (i := 87) rfl)) rfl
theorem ks_X10_arg : Cond.selects RX10 yX10_arg yX10_arg ∈ WW := inWW (tb_5 _ (List.mem_of_getElem? (i := 88) rfl)) rfl
abbrev wsX10_note : List Cond := .code yX10_note cX10_note 2 none :: WW
theorem kc_X10_note : Cond.code yX10_note cX10_note 2 none ∈ WW := inWW (tb_5 _ (List.mem_of_getElem? (i := 117) rfl)) rfl
theorem ki_X10_note : Cond.instanceMethod yX10_note ∈ WW := inWW (tb_5 _ (List.mem_of_getElem? (i := 116) rfl)) rfl
theorem ks_X10_note : Cond.selects RX10 yX10_note yX10_note ∈ WW := inWW (List.mem_append_left _ (List.mem_of_getElem? (i := 43) rfl)) rfl
abbrev wsX10_weight : List Cond := .code yX10_weight cX10_weight 2 (some .long) :: WW
theorem kc_X10_weight : Cond.code yX10_weight cX10_weight 2 (some .long) ∈ WW := inWW (tb_5 _ (List.mem_of_getElem? (i := 121) rfl)) rfl
theorem ki_X10_weight : Cond.instanceMethod yX10_weight ∈ WW := inWW (tb_5 _ (List.mem_of_getElem? (i := 120) rfl)) rfl
theorem ks_X10_weight : Cond.selects RX10 yX10_weight yX10_weight ∈ WW := inWW (List.mem_append_left _ (List.mem_of_getElem? (i := 44) rfl)) rfl
abbrev wsX10_isBarred : List Cond := .code yX10_isBarred cX10_isBarred 5 (some .boolean) :: WW
theorem kc_X10_isBarred : Cond.code yX10_isBarred cX10_isBarred 5 (some .boolean) ∈ WW := inWW (tb_5 _ (List.mem_of_getElem? (i := 105) rfl)) rfl
theorem ki_X10_isBarred : Cond.instanceMethod yX10_isBarred ∈ WW := inWW (tb_5 _ (List.mem_of_getElem? (i := 104) rfl)) rfl
theorem ks_X10_isBarred : Cond.selects RX10 yX10_isBarred yX10_isBarred ∈ WW := inWW (List.mem_append_left _ (List.mem_of_getElem? (i := 40) rfl)) rfl
abbrev wsX10_begin : List Cond := .code yX10_begin cX10_begin 2 (some .int) :: WW
theorem kc_X10_begin : Cond.code yX10_begin cX10_begin 2 (some .int) ∈ WW := inWW (tb_5 _ (List.mem_of_getElem? (i := 101) rfl)) rfl
theorem ki_X10_begin : Cond.instanceMethod yX10_begin ∈ WW := inWW (tb_5 _ (List.mem_of_getElem? (i := 100) rfl)) rfl
theorem ks_X10_begin : Cond.selects RX10 yX10_begin yX10_begin ∈ WW := inWW (List.mem_append_left _ (List.mem_of_getElem? (i := 39) rfl)) rfl
abbrev wsX10_choose : List Cond := .code yX10_choose cX10_choose 4 (some .int) :: WW
theorem kc_X10_choose : Cond.code yX10_choose cX10_choose 4 (some .int) ∈ WW := inWW (tb_5 _ (List.mem_of_getElem? (i := 134) rfl)) rfl
theorem ki_X10_choose : Cond.instanceMethod yX10_choose ∈ WW := inWW (tb_5 _ (List.mem_of_getElem? (i := 133) rfl)) rfl
theorem ks_X10_choose : Cond.selects RX10 yX10_choose yX10_choose ∈ WW := inWW (List.mem_append_left _ (List.mem_of_getElem? (i := 47) rfl)) rfl
abbrev wsX10_fail : List Cond := .code yX10_fail cX10_fail 2 (some .int) :: WW
theorem kc_X10_fail : Cond.code yX10_fail cX10_fail 2 (some .int) ∈ WW := inWW (tb_5 _ (List.mem_of_getElem? (i := 158) rfl)) rfl
theorem ki_X10_fail : Cond.instanceMethod yX10_fail ∈ WW := inWW (tb_5 _ (List.mem_of_getElem? (i := 157) rfl)) rfl
theorem ks_X10_fail : Cond.selects RX10 yX10_fail yX10_fail ∈ WW := inWW (List.mem_append_left _ (List.mem_of_getElem? (i := 53) rfl)) rfl
abbrev wsX10_end : List Cond := .code yX10_end cX10_end 3 (some .int) :: WW
theorem kc_X10_end : Cond.code yX10_end cX10_end 3 (some .int) ∈ WW := inWW (tb_5 _ (List.mem_of_getElem? (i := 154) rfl)) rfl
theorem ki_X10_end : Cond.instanceMethod yX10_end ∈ WW := inWW (tb_5 _ (List.mem_of_getElem? (i := 153) rfl)) rfl
theorem ks_X10_end : Cond.selects RX10 yX10_end yX10_end ∈ WW := inWW (List.mem_append_left _ (List.mem_of_getElem? (i := 52) rfl)) rfl
abbrev wsX10_turn : List Cond := .code yX10_turn cX10_turn 4 none :: WW
theorem kc_X10_turn : Cond.code yX10_turn cX10_turn 4 none ∈ WW := inWW (tb_5 _ (List.mem_of_getElem? (i := 173) rfl)) rfl
theorem ki_X10_turn : Cond.instanceMethod yX10_turn ∈ WW := inWW (tb_5 _ (List.mem_of_getElem? (i := 172) rfl)) rfl
theorem ks_X10_turn : Cond.selects RX10 yX10_turn yX10_turn ∈ WW := inWW (List.mem_append_left _ (List.mem_of_getElem? (i := 56) rfl)) rfl
abbrev wsX10_rest : List Cond := .code yX10_rest cX10_rest 3 (some .int) :: WW
theorem kc_X10_rest : Cond.code yX10_rest cX10_rest 3 (some .int) ∈ WW := inWW (tb_5 _ (List.mem_of_getElem? (i := 161) rfl)) rfl
theorem kt_X10_rest : Cond.static yX10_rest ∈ WW := inWW (tb_5 _ (List.mem_of_getElem? (i := 160) rfl)) rfl
abbrev wsX10_callOn : List Cond := .code yX10_callOn cX10_callOn 4 (some .int) :: WW
theorem kc_X10_callOn : Cond.code yX10_callOn cX10_callOn 4 (some .int) ∈ WW := inWW (tb_5 _ (List.mem_of_getElem? (i := 169) rfl)) rfl
theorem ki_X10_callOn : Cond.instanceMethod yX10_callOn ∈ WW := inWW (tb_5 _ (List.mem_of_getElem? (i := 168) rfl)) rfl
theorem ks_X10_callOn : Cond.selects RX10 yX10_callOn yX10_callOn ∈ WW := inWW (List.mem_append_left _ (List.mem_of_getElem? (i := 55) rfl)) rfl
abbrev wsX10_grow : List Cond := .code yX10_grow cX10_grow 2 (some .int) :: WW
theorem kc_X10_grow : Cond.code yX10_grow cX10_grow 2 (some .int) ∈ WW := inWW (tb_5 _ (List.mem_of_getElem? (i := 165) rfl)) rfl
theorem ki_X10_grow : Cond.instanceMethod yX10_grow ∈ WW := inWW (tb_5 _ (List.mem_of_getElem? (i := 164) rfl)) rfl
theorem ks_X10_grow : Cond.selects RX10 yX10_grow yX10_grow ∈ WW := inWW (List.mem_append_left _ (List.mem_of_getElem? (i := 54) rfl)) rfl
abbrev wsX10_run : List Cond := .code yX10_run cX10_run 5 (some .int) :: WW
theorem kc_X10_run : Cond.code yX10_run cX10_run 5 (some .int) ∈ WW := inWW (tb_5 _ (List.mem_of_getElem? (i := 150) rfl)) rfl
theorem ki_X10_run : Cond.instanceMethod yX10_run ∈ WW := inWW (tb_5 _ (List.mem_of_getElem? (i := 149) rfl)) rfl
theorem ks_X10_run : Cond.selects RX10 yX10_run yX10_run ∈ WW := inWW (List.mem_append_left _ (List.mem_of_getElem? (i := 51) rfl)) rfl
abbrev wsX10_call : List Cond := .code yX10_call cX10_call 3 (some .int) :: WW
theorem kc_X10_call : Cond.code yX10_call cX10_call 3 (some .int) ∈ WW := inWW (tb_5 _ (List.mem_of_getElem? (i := 93) rfl)) rfl
theorem ki_X10_call : Cond.instanceMethod yX10_call ∈ WW := inWW (tb_5 _ (List.mem_of_getElem? (i := 91) rfl)) rfl
theorem ks_X10_call : Cond.selects RX10 yX10_call yX10_call ∈ WW := inWW (tb_5 _ (List.mem_of_getElem? (i := 92) rfl)) rfl
abbrev wsX10_value : List Cond := .code yX10_value cX10_value 1 (some .long) :: WW
theorem kc_X10_value : Cond.code yX10_value cX10_value 1 (some .long) ∈ WW := inWW (tb_5 _ (List.mem_of_getElem? (i := 177) rfl)) rfl
theorem ki_X10_value : Cond.instanceMethod yX10_value ∈ WW := inWW (tb_5 _ (List.mem_of_getElem? (i := 175) rfl)) rfl
theorem ks_X10_value : Cond.selects RX10 yX10_value yX10_value ∈ WW := inWW (tb_5 _ (List.mem_of_getElem? (i := 176) rfl)) rfl
abbrev wsX10_failure : List Cond := .code yX10_failure cX10_failure 1 (some .int) :: WW
theorem kc_X10_failure : Cond.code yX10_failure cX10_failure 1 (some .int) ∈ WW := inWW (tb_5 _ (List.mem_of_getElem? (i := 181) rfl)) rfl
theorem ki_X10_failure : Cond.instanceMethod yX10_failure ∈ WW := inWW (tb_5 _ (List.mem_of_getElem? (i := 179) rfl)) rfl
theorem ks_X10_failure : Cond.selects RX10 yX10_failure yX10_failure ∈ WW := inWW (tb_5 _ (List.mem_of_getElem? (i := 180) rfl)) rfl
abbrev wsX10_step : List Cond := .code yX10_step cX10_step 2 (some .int) :: WW
theorem kc_X10_step : Cond.code yX10_step cX10_step 2 (some .int) ∈ WW := inWW (tb_5 _ (List.mem_of_getElem? (i := 185) rfl)) rfl
theorem ki_X10_step : Cond.instanceMethod yX10_step ∈ WW := inWW (tb_5 _ (List.mem_of_getElem? (i := 183) rfl)) rfl
theorem ks_X10_step : Cond.selects RX10 yX10_step yX10_step ∈ WW := inWW (tb_5 _ (List.mem_of_getElem? (i := 184) rfl)) rfl
abbrev wsX10_counter : List Cond := .code yX10_counter cX10_counter 2 (some .int) :: WW
theorem kc_X10_counter : Cond.code yX10_counter cX10_counter 2 (some .int) ∈ WW := inWW (tb_5 _ (List.mem_of_getElem? (i := 189) rfl)) rfl
theorem ki_X10_counter : Cond.instanceMethod yX10_counter ∈ WW := inWW (tb_5 _ (List.mem_of_getElem? (i := 187) rfl)) rfl
theorem ks_X10_counter : Cond.selects RX10 yX10_counter yX10_counter ∈ WW := inWW (tb_5 _ (List.mem_of_getElem? (i := 188) rfl)) rfl
abbrev wsX10_applicable : List Cond := .code yX10_applicable cX10_applicable 6 (some .int) :: WW
theorem kc_X10_applicable : Cond.code yX10_applicable cX10_applicable 6 (some .int) ∈ WW := inWW (tb_5 _ (List.mem_of_getElem? (i := 193) rfl)) rfl
theorem ki_X10_applicable : Cond.instanceMethod yX10_applicable ∈ WW := inWW (tb_5 _ (List.mem_of_getElem? (i := 191) rfl)) rfl
theorem ks_X10_applicable : Cond.selects RX10 yX10_applicable yX10_applicable ∈ WW := inWW (tb_5 _ (List.mem_of_getElem? (i := 192) rfl)) rfl
abbrev wsX10_most : List Cond := .code yX10_most cX10_most 2 (some .int) :: WW
theorem kc_X10_most : Cond.code yX10_most cX10_most 2 (some .int) ∈ WW := inWW (tb_5 _ (List.mem_of_getElem? (i := 197) rfl)) rfl
theorem ki_X10_most : Cond.instanceMethod yX10_most ∈ WW := inWW (tb_5 _ (List.mem_of_getElem? (i := 195) rfl)) rfl
theorem ks_X10_most : Cond.selects RX10 yX10_most yX10_most ∈ WW := inWW (tb_5 _ (List.mem_of_getElem? (i := 196) rfl)) rfl
abbrev wsX10_moreThan : List Cond := .code yX10_moreThan cX10_moreThan 5 (some .int) :: WW
theorem kc_X10_moreThan : Cond.code yX10_moreThan cX10_moreThan 5 (some .int) ∈ WW := inWW (tb_5 _ (List.mem_of_getElem? (i := 205) rfl)) rfl
theorem ki_X10_moreThan : Cond.instanceMethod yX10_moreThan ∈ WW := inWW (tb_5 _ (List.mem_of_getElem? (i := 204) rfl)) rfl
theorem ks_X10_moreThan : Cond.selects RX10 yX10_moreThan yX10_moreThan ∈ WW := inWW (List.mem_append_left _ (List.mem_of_getElem? (i := 57) rfl)) rfl
abbrev wsX10_explain : List Cond := .code yX10_explain cX10_explain 4 (some .int) :: WW
theorem kc_X10_explain : Cond.code yX10_explain cX10_explain 4 (some .int) ∈ WW := inWW (tb_5 _ (List.mem_of_getElem? (i := 201) rfl)) rfl
theorem ki_X10_explain : Cond.instanceMethod yX10_explain ∈ WW := inWW (tb_5 _ (List.mem_of_getElem? (i := 199) rfl)) rfl
theorem ks_X10_explain : Cond.selects RX10 yX10_explain yX10_explain ∈ WW := inWW (tb_5 _ (List.mem_of_getElem? (i := 200) rfl)) rfl
abbrev wsX10_where : List Cond := .code yX10_where cX10_where 1 (some .int) :: WW
theorem kc_X10_where : Cond.code yX10_where cX10_where 1 (some .int) ∈ WW := inWW (tb_5 _ (List.mem_of_getElem? (i := 209) rfl)) rfl
theorem ki_X10_where : Cond.instanceMethod yX10_where ∈ WW := inWW (tb_5 _ (List.mem_of_getElem? (i := 207) rfl)) rfl
theorem ks_X10_where : Cond.selects RX10 yX10_where yX10_where ∈ WW := inWW (tb_5 _ (List.mem_of_getElem? (i := 208) rfl)) rfl
abbrev wsX10_countAll : List Cond := .code yX10_countAll cX10_countAll 2 (some .int) :: WW
theorem kc_X10_countAll : Cond.code yX10_countAll cX10_countAll 2 (some .int) ∈ WW := inWW (tb_5 _ (List.mem_of_getElem? (i := 217) rfl)) rfl
theorem ki_X10_countAll : Cond.instanceMethod yX10_countAll ∈ WW := inWW (tb_5 _ (List.mem_of_getElem? (i := 216) rfl)) rfl
theorem ks_X10_countAll : Cond.selects RX10 yX10_countAll yX10_countAll ∈ WW := inWW (List.mem_append_left _ (List.mem_of_getElem? (i := 58) rfl)) rfl
abbrev wsX10_count : List Cond := .code yX10_count cX10_count 3 (some .int) :: WW
theorem kc_X10_count : Cond.code yX10_count cX10_count 3 (some .int) ∈ WW := inWW (tb_5 _ (List.mem_of_getElem? (i := 213) rfl)) rfl
theorem ki_X10_count : Cond.instanceMethod yX10_count ∈ WW := inWW (tb_5 _ (List.mem_of_getElem? (i := 211) rfl)) rfl
theorem ks_X10_count : Cond.selects RX10 yX10_count yX10_count ∈ WW := inWW (tb_5 _ (List.mem_of_getElem? (i := 212) rfl)) rfl
abbrev wsX10_findEdges : List Cond := .code yX10_findEdges cX10_findEdges 14 none :: WW
theorem kc_X10_findEdges : Cond.code yX10_findEdges cX10_findEdges 14 none ∈ WW := inWW (tb_5 _ (List.mem_of_getElem? (i := 238) rfl)) rfl
theorem ki_X10_findEdges : Cond.instanceMethod yX10_findEdges ∈ WW := inWW (tb_5 _ (List.mem_of_getElem? (i := 237) rfl)) rfl
theorem ks_X10_findEdges : Cond.selects RX10 yX10_findEdges yX10_findEdges ∈ WW := inWW (List.mem_append_left _ (List.mem_of_getElem? (i := 62) rfl)) rfl
abbrev wsX10_nextClass : List Cond := .code yX10_nextClass cX10_nextClass 3 (some .int) :: WW
theorem kc_X10_nextClass : Cond.code yX10_nextClass cX10_nextClass 3 (some .int) ∈ WW := inWW (tb_5 _ (List.mem_of_getElem? (i := 233) rfl)) rfl
theorem ki_X10_nextClass : Cond.instanceMethod yX10_nextClass ∈ WW := inWW (tb_5 _ (List.mem_of_getElem? (i := 232) rfl)) rfl
theorem ks_X10_nextClass : Cond.selects RX10 yX10_nextClass yX10_nextClass ∈ WW := inWW (List.mem_append_left _ (List.mem_of_getElem? (i := 61) rfl)) rfl
abbrev wsX10_firstTuple : List Cond := .code yX10_firstTuple cX10_firstTuple 3 (some .boolean) :: WW
theorem kc_X10_firstTuple : Cond.code yX10_firstTuple cX10_firstTuple 3 (some .boolean) ∈ WW := inWW (tb_5 _ (List.mem_of_getElem? (i := 229) rfl)) rfl
theorem ki_X10_firstTuple : Cond.instanceMethod yX10_firstTuple ∈ WW := inWW (tb_5 _ (List.mem_of_getElem? (i := 228) rfl)) rfl
theorem ks_X10_firstTuple : Cond.selects RX10 yX10_firstTuple yX10_firstTuple ∈ WW := inWW (List.mem_append_left _ (List.mem_of_getElem? (i := 60) rfl)) rfl
abbrev wsX10_nextAt : List Cond := .code yX10_nextAt cX10_nextAt 4 (some .boolean) :: WW
theorem kc_X10_nextAt : Cond.code yX10_nextAt cX10_nextAt 4 (some .boolean) ∈ WW := inWW (tb_6 _ (List.mem_of_getElem? (i := 6) rfl)) rfl
theorem ki_X10_nextAt : Cond.instanceMethod yX10_nextAt ∈ WW := inWW (tb_6 _ (List.mem_of_getElem? (i := 5) rfl)) rfl
theorem ks_X10_nextAt : Cond.selects RX10 yX10_nextAt yX10_nextAt ∈ WW := inWW (List.mem_append_left _ (List.mem_of_getElem? (i := 64) rfl)) rfl
abbrev wsX10_nextTuple : List Cond := .code yX10_nextTuple cX10_nextTuple 2 (some .boolean) :: WW
theorem kc_X10_nextTuple : Cond.code yX10_nextTuple cX10_nextTuple 2 (some .boolean) ∈ WW := inWW (tb_6 _ (List.mem_of_getElem? (i := 2) rfl)) rfl
theorem ki_X10_nextTuple : Cond.instanceMethod yX10_nextTuple ∈ WW := inWW (tb_6 _ (List.mem_of_getElem? (i := 1) rfl)) rfl
theorem ks_X10_nextTuple : Cond.selects RX10 yX10_nextTuple yX10_nextTuple ∈ WW := inWW (List.mem_append_left _ (List.mem_of_getElem? (i := 63) rfl)) rfl
abbrev wsX10_keepTuple : List Cond := .code yX10_keepTuple cX10_keepTuple 3 none :: WW
theorem kc_X10_keepTuple : Cond.code yX10_keepTuple cX10_keepTuple 3 none ∈ WW := inWW (tb_6 _ (List.mem_of_getElem? (i := 10) rfl)) rfl
theorem ki_X10_keepTuple : Cond.instanceMethod yX10_keepTuple ∈ WW := inWW (tb_6 _ (List.mem_of_getElem? (i := 9) rfl)) rfl
theorem ks_X10_keepTuple : Cond.selects RX10 yX10_keepTuple yX10_keepTuple ∈ WW := inWW (List.mem_append_left _ (List.mem_of_getElem? (i := 65) rfl)) rfl
abbrev wsX10_findHole : List Cond := .code yX10_findHole cX10_findHole 3 (some .boolean) :: WW
theorem kc_X10_findHole : Cond.code yX10_findHole cX10_findHole 3 (some .boolean) ∈ WW := inWW (tb_5 _ (List.mem_of_getElem? (i := 225) rfl)) rfl
theorem ki_X10_findHole : Cond.instanceMethod yX10_findHole ∈ WW := inWW (tb_5 _ (List.mem_of_getElem? (i := 224) rfl)) rfl
theorem ks_X10_findHole : Cond.selects RX10 yX10_findHole yX10_findHole ∈ WW := inWW (List.mem_append_left _ (List.mem_of_getElem? (i := 59) rfl)) rfl
abbrev wsX10_covered : List Cond := .code yX10_covered cX10_covered 2 (some .int) :: WW
theorem kc_X10_covered : Cond.code yX10_covered cX10_covered 2 (some .int) ∈ WW := inWW (tb_5 _ (List.mem_of_getElem? (i := 221) rfl)) rfl
theorem ki_X10_covered : Cond.instanceMethod yX10_covered ∈ WW := inWW (tb_5 _ (List.mem_of_getElem? (i := 219) rfl)) rfl
theorem ks_X10_covered : Cond.selects RX10 yX10_covered yX10_covered ∈ WW := inWW (tb_5 _ (List.mem_of_getElem? (i := 220) rfl)) rfl
abbrev wsX10_hole : List Cond := .code yX10_hole cX10_hole 3 (some .long) :: WW
theorem kc_X10_hole : Cond.code yX10_hole cX10_hole 3 (some .long) ∈ WW := inWW (tb_6 _ (List.mem_of_getElem? (i := 14) rfl)) rfl
theorem ki_X10_hole : Cond.instanceMethod yX10_hole ∈ WW := inWW (tb_6 _ (List.mem_of_getElem? (i := 12) rfl)) rfl
theorem ks_X10_hole : Cond.selects RX10 yX10_hole yX10_hole ∈ WW := inWW (tb_6 _ (List.mem_of_getElem? (i := 13) rfl)) rfl
abbrev wsX10_areInDoubt : List Cond := .code yX10_areInDoubt cX10_areInDoubt 6 (some .boolean) :: WW
theorem kc_X10_areInDoubt : Cond.code yX10_areInDoubt cX10_areInDoubt 6 (some .boolean) ∈ WW := inWW (tb_6 _ (List.mem_of_getElem? (i := 27) rfl)) rfl
theorem ki_X10_areInDoubt : Cond.instanceMethod yX10_areInDoubt ∈ WW := inWW (tb_6 _ (List.mem_of_getElem? (i := 26) rfl)) rfl
theorem ks_X10_areInDoubt : Cond.selects RX10 yX10_areInDoubt yX10_areInDoubt ∈ WW := inWW (List.mem_append_left _ (List.mem_of_getElem? (i := 67) rfl)) rfl
abbrev wsX10_findDoubt : List Cond := .code yX10_findDoubt cX10_findDoubt 7 (some .boolean) :: WW
theorem kc_X10_findDoubt : Cond.code yX10_findDoubt cX10_findDoubt 7 (some .boolean) ∈ WW := inWW (tb_6 _ (List.mem_of_getElem? (i := 23) rfl)) rfl
theorem ki_X10_findDoubt : Cond.instanceMethod yX10_findDoubt ∈ WW := inWW (tb_6 _ (List.mem_of_getElem? (i := 22) rfl)) rfl
theorem ks_X10_findDoubt : Cond.selects RX10 yX10_findDoubt yX10_findDoubt ∈ WW := inWW (List.mem_append_left _ (List.mem_of_getElem? (i := 66) rfl)) rfl
abbrev wsX10_doubt : List Cond := .code yX10_doubt cX10_doubt 8 (some .long) :: WW
theorem kc_X10_doubt : Cond.code yX10_doubt cX10_doubt 8 (some .long) ∈ WW := inWW (tb_6 _ (List.mem_of_getElem? (i := 19) rfl)) rfl
theorem ki_X10_doubt : Cond.instanceMethod yX10_doubt ∈ WW := inWW (tb_6 _ (List.mem_of_getElem? (i := 17) rfl)) rfl
theorem ks_X10_doubt : Cond.selects RX10 yX10_doubt yX10_doubt ∈ WW := inWW (tb_6 _ (List.mem_of_getElem? (i := 18) rfl)) rfl
abbrev wsJ9_floorMod_7cf53 : List Cond := .code yJ9_floorMod_7cf53 cJ9_floorMod_7cf53 3 (some .int) :: WW
theorem kc_J9_floorMod_7cf53 : Cond.code yJ9_floorMod_7cf53 cJ9_floorMod_7cf53 3 (some .int) ∈ WW := inWW (tb_3 _ (List.mem_of_getElem? (i := 166) rfl)) rfl
theorem kt_J9_floorMod_7cf53 : Cond.static yJ9_floorMod_7cf53 ∈ WW := inWW (tb_3 _ (List.mem_of_getElem? (i := 165) rfl)) rfl
abbrev wsJ9_min_f86c9 : List Cond := .code yJ9_min_f86c9 cJ9_min_f86c9 4 (some .long) :: WW
theorem kc_J9_min_f86c9 : Cond.code yJ9_min_f86c9 cJ9_min_f86c9 4 (some .long) ∈ WW := inWW (tb_3 _ (List.mem_of_getElem? (i := 126) rfl)) rfl
theorem kt_J9_min_f86c9 : Cond.static yJ9_min_f86c9 ∈ WW := inWW (tb_3 _ (List.mem_of_getElem? (i := 125) rfl)) rfl
abbrev wsJ7_fill_53178 : List Cond := .code yJ7_fill_53178 cJ7_fill_53178 4 none :: WW
theorem kc_J7_fill_53178 : Cond.code yJ7_fill_53178 cJ7_fill_53178 4 none ∈ WW := inWW (tb_1 _ (List.mem_of_getElem? (i := 30) rfl)) rfl
theorem kt_J7_fill_53178 : Cond.static yJ7_fill_53178 ∈ WW := inWW (tb_1 _ (List.mem_of_getElem? (i := 29) rfl)) rfl
theorem kz_X0 : Cond.initialized RX0 ∈ WW := inWW (tb_1 _ (List.mem_of_getElem? (i := 8) rfl)) rfl
theorem kn_X0 : Cond.instantiable RX0 7 ∈ WW := inWW (tb_1 _ (List.mem_of_getElem? (i := 135) rfl)) rfl
theorem kz_X1 : Cond.initialized RX1 ∈ WW := inWW (tb_1 _ (List.mem_of_getElem? (i := 10) rfl)) rfl
theorem kn_X1 : Cond.instantiable RX1 10 ∈ WW := inWW (tb_2 _ (List.mem_of_getElem? (i := 61) rfl)) rfl
theorem kz_X2 : Cond.initialized RX2 ∈ WW := inWW (tb_1 _ (List.mem_of_getElem? (i := 12) rfl)) rfl
theorem kn_X2 : Cond.instantiable RX2 9 ∈ WW := inWW (tb_2 _ (List.mem_of_getElem? (i := 150) rfl)) rfl
theorem kz_X3 : Cond.initialized RX3 ∈ WW := inWW (tb_1 _ (List.mem_of_getElem? (i := 6) rfl)) rfl
theorem kn_X3 : Cond.instantiable RX3 6 ∈ WW := inWW (tb_1 _ (List.mem_of_getElem? (i := 98) rfl)) rfl
theorem kz_X4 : Cond.initialized RX4 ∈ WW := inWW (tb_1 _ (List.mem_of_getElem? (i := 11) rfl)) rfl
theorem kn_X4 : Cond.instantiable RX4 7 ∈ WW := inWW (tb_2 _ (List.mem_of_getElem? (i := 67) rfl)) rfl
theorem kz_X5 : Cond.initialized RX5 ∈ WW := inWW (tb_1 _ (List.mem_of_getElem? (i := 7) rfl)) rfl
theorem kn_X5 : Cond.instantiable RX5 6 ∈ WW := inWW (tb_1 _ (List.mem_of_getElem? (i := 129) rfl)) rfl
theorem kz_X6 : Cond.initialized RX6 ∈ WW := inWW (tb_1 _ (List.mem_of_getElem? (i := 5) rfl)) rfl
theorem kn_X6 : Cond.instantiable RX6 3 ∈ WW := inWW (tb_1 _ (List.mem_of_getElem? (i := 75) rfl)) rfl
theorem kz_X7 : Cond.initialized RX7 ∈ WW := inWW (tb_1 _ (List.mem_of_getElem? (i := 4) rfl)) rfl
theorem kn_X7 : Cond.instantiable RX7 3 ∈ WW := inWW (tb_1 _ (List.mem_of_getElem? (i := 52) rfl)) rfl
theorem kz_X8 : Cond.initialized RX8 ∈ WW := inWW (tb_1 _ (List.mem_of_getElem? (i := 2) rfl)) rfl
theorem kn_X8 : Cond.instantiable RX8 5 ∈ WW := inWW (tb_1 _ (List.mem_of_getElem? (i := 23) rfl)) rfl
theorem kz_X9 : Cond.initialized RX9 ∈ WW := inWW (tb_1 _ (List.mem_of_getElem? (i := 1) rfl)) rfl
theorem kn_X9 : Cond.instantiable RX9 12 ∈ WW := inWW (tb_1 _ (List.mem_of_getElem? (i := 15) rfl)) rfl
theorem kz_X10 : Cond.initialized RX10 ∈ WW := inWW (tb_1 _ (List.mem_of_getElem? (i := 9) rfl)) rfl
theorem kn_X10 : Cond.instantiable RX10 39 ∈ WW := inWW (tb_4 _ (List.mem_of_getElem? (i := 74) rfl)) rfl
theorem kz_J9 : Cond.initialized RJ9 ∈ WW := inWW (tb_1 _ (List.mem_of_getElem? (i := 13) rfl)) rfl
theorem kz_J7 : Cond.initialized RJ7 ∈ WW := inWW (tb_1 _ (List.mem_of_getElem? (i := 3) rfl)) rfl
theorem kz_L : Cond.initialized RL ∈ WW := inWW (tb_1 _ (List.mem_of_getElem? (i := 0) rfl)) rfl
theorem kl_L_7 : Cond.classLink RL 7 RX9 ∈ WW := inWW (tb_1 _ (List.mem_of_getElem? (i := 14) rfl)) rfl
theorem km_L_9 : Cond.methodLink RL 9 yX9_init ∈ WW := inWW (tb_1 _ (List.mem_of_getElem? (i := 16) rfl)) rfl
theorem km_X9_3 : Cond.methodLink RX9 3 objectInit ∈ WW := inWW (tb_1 _ (List.mem_of_getElem? (i := 19) rfl)) rfl
theorem kl_X9_9 : Cond.classLink RX9 9 RX8 ∈ WW := inWW (tb_1 _ (List.mem_of_getElem? (i := 22) rfl)) rfl
theorem km_X9_11 : Cond.methodLink RX9 11 yX8_init ∈ WW := inWW (tb_1 _ (List.mem_of_getElem? (i := 24) rfl)) rfl
theorem km_X8_3 : Cond.methodLink RX8 3 objectInit ∈ WW := inWW (tb_1 _ (List.mem_of_getElem? (i := 27) rfl)) rfl
theorem km_X8_29 : Cond.methodLink RX8 29 yJ7_fill_53178 ∈ WW := inWW (tb_1 _ (List.mem_of_getElem? (i := 28) rfl)) rfl
theorem kf_X8_9 : Cond.fieldLink RX8 9 "CallBoard$Table" "parents" "[I" ∈ WW := inWW (tb_1 _ (List.mem_of_getElem? (i := 31) rfl)) rfl
theorem kf_X9_81 : Cond.fieldLink RX9 81 "CallBoard$Table" "parents" "[I" ∈ WW := inWW (tb_1 _ (List.mem_of_getElem? (i := 32) rfl)) rfl
theorem kf_X8_15 : Cond.fieldLink RX8 15 "CallBoard$Table" "traits" "[I" ∈ WW := inWW (tb_1 _ (List.mem_of_getElem? (i := 33) rfl)) rfl
theorem kf_X8_18 : Cond.fieldLink RX8 18 "CallBoard$Table" "reach" "[I" ∈ WW := inWW (tb_1 _ (List.mem_of_getElem? (i := 34) rfl)) rfl
theorem kf_X8_21 : Cond.fieldLink RX8 21 "CallBoard$Table" "abstracts" "I" ∈ WW := inWW (tb_1 _ (List.mem_of_getElem? (i := 35) rfl)) rfl
theorem kf_X9_94 : Cond.fieldLink RX9 94 "CallBoard$Table" "abstracts" "I" ∈ WW := inWW (tb_1 _ (List.mem_of_getElem? (i := 36) rfl)) rfl
theorem kf_X8_25 : Cond.fieldLink RX8 25 "CallBoard$Table" "closed" "Z" ∈ WW := inWW (tb_1 _ (List.mem_of_getElem? (i := 37) rfl)) rfl
theorem kf_X9_77 : Cond.fieldLink RX9 77 "CallBoard$Table" "closed" "Z" ∈ WW := inWW (tb_1 _ (List.mem_of_getElem? (i := 38) rfl)) rfl
theorem ka_int : Cond.arrayClass .int ∈ WW := inWW (tb_1 _ (List.mem_of_getElem? (i := 50) rfl)) rfl
theorem kl_X9_16 : Cond.classLink RX9 16 RX7 ∈ WW := inWW (tb_1 _ (List.mem_of_getElem? (i := 51) rfl)) rfl
theorem km_X7_3 : Cond.methodLink RX7 3 objectInit ∈ WW := inWW (tb_1 _ (List.mem_of_getElem? (i := 56) rfl)) rfl
theorem kf_X7_9 : Cond.fieldLink RX7 9 "CallBoard$Stock" "classes" "[I" ∈ WW := inWW (tb_1 _ (List.mem_of_getElem? (i := 57) rfl)) rfl
theorem kf_X9_117 : Cond.fieldLink RX9 117 "CallBoard$Stock" "classes" "[I" ∈ WW := inWW (tb_1 _ (List.mem_of_getElem? (i := 58) rfl)) rfl
theorem kf_X7_15 : Cond.fieldLink RX7 15 "CallBoard$Stock" "weights" "[I" ∈ WW := inWW (tb_1 _ (List.mem_of_getElem? (i := 59) rfl)) rfl
theorem kf_X9_120 : Cond.fieldLink RX9 120 "CallBoard$Stock" "weights" "[I" ∈ WW := inWW (tb_1 _ (List.mem_of_getElem? (i := 60) rfl)) rfl
theorem kf_X7_18 : Cond.fieldLink RX7 18 "CallBoard$Stock" "size" "I" ∈ WW := inWW (tb_1 _ (List.mem_of_getElem? (i := 61) rfl)) rfl
theorem kf_X9_123 : Cond.fieldLink RX9 123 "CallBoard$Stock" "size" "I" ∈ WW := inWW (tb_1 _ (List.mem_of_getElem? (i := 62) rfl)) rfl
theorem kl_X9_23 : Cond.classLink RX9 23 RX1 ∈ WW := inWW (tb_1 _ (List.mem_of_getElem? (i := 70) rfl)) rfl
theorem ko_X1 : Cond.arrayOver (.object RX1) ∈ lw_tbl := tb_1 _ (List.mem_of_getElem? (i := 71) rfl)
theorem kl_X9_29 : Cond.classLink RX9 29 RX2 ∈ WW := inWW (tb_1 _ (List.mem_of_getElem? (i := 72) rfl)) rfl
theorem ko_X2 : Cond.arrayOver (.object RX2) ∈ lw_tbl := tb_1 _ (List.mem_of_getElem? (i := 73) rfl)
theorem kl_X9_42 : Cond.classLink RX9 42 RX6 ∈ WW := inWW (tb_1 _ (List.mem_of_getElem? (i := 74) rfl)) rfl
theorem km_X6_3 : Cond.methodLink RX6 3 objectInit ∈ WW := inWW (tb_1 _ (List.mem_of_getElem? (i := 79) rfl)) rfl
theorem kf_X6_9 : Cond.fieldLink RX6 9 "CallBoard$Row" "classes" "[I" ∈ WW := inWW (tb_1 _ (List.mem_of_getElem? (i := 80) rfl)) rfl
theorem kf_X2_67 : Cond.fieldLink RX2 67 "CallBoard$Row" "classes" "[I" ∈ WW := inWW (tb_1 _ (List.mem_of_getElem? (i := 81) rfl)) rfl
theorem kf_X1_84 : Cond.fieldLink RX1 84 "CallBoard$Row" "classes" "[I" ∈ WW := inWW (tb_1 _ (List.mem_of_getElem? (i := 82) rfl)) rfl
theorem kf_X9_283 : Cond.fieldLink RX9 283 "CallBoard$Row" "classes" "[I" ∈ WW := inWW (tb_1 _ (List.mem_of_getElem? (i := 83) rfl)) rfl
theorem kf_X6_15 : Cond.fieldLink RX6 15 "CallBoard$Row" "weights" "[I" ∈ WW := inWW (tb_1 _ (List.mem_of_getElem? (i := 84) rfl)) rfl
theorem kf_X2_75 : Cond.fieldLink RX2 75 "CallBoard$Row" "weights" "[I" ∈ WW := inWW (tb_1 _ (List.mem_of_getElem? (i := 85) rfl)) rfl
theorem kf_X1_92 : Cond.fieldLink RX1 92 "CallBoard$Row" "weights" "[I" ∈ WW := inWW (tb_1 _ (List.mem_of_getElem? (i := 86) rfl)) rfl
theorem kf_X9_284 : Cond.fieldLink RX9 284 "CallBoard$Row" "weights" "[I" ∈ WW := inWW (tb_1 _ (List.mem_of_getElem? (i := 87) rfl)) rfl
theorem kf_X6_18 : Cond.fieldLink RX6 18 "CallBoard$Row" "places" "I" ∈ WW := inWW (tb_1 _ (List.mem_of_getElem? (i := 88) rfl)) rfl
theorem kf_X9_285 : Cond.fieldLink RX9 285 "CallBoard$Row" "places" "I" ∈ WW := inWW (tb_1 _ (List.mem_of_getElem? (i := 89) rfl)) rfl
theorem kl_X9_49 : Cond.classLink RX9 49 RX3 ∈ WW := inWW (tb_1 _ (List.mem_of_getElem? (i := 97) rfl)) rfl
theorem km_X3_3 : Cond.methodLink RX3 3 objectInit ∈ WW := inWW (tb_1 _ (List.mem_of_getElem? (i := 102) rfl)) rfl
theorem kf_X3_9 : Cond.fieldLink RX3 9 "CallBoard$Latest" "steps" "[I" ∈ WW := inWW (tb_1 _ (List.mem_of_getElem? (i := 103) rfl)) rfl
theorem kf_X9_229 : Cond.fieldLink RX9 229 "CallBoard$Latest" "steps" "[I" ∈ WW := inWW (tb_1 _ (List.mem_of_getElem? (i := 104) rfl)) rfl
theorem kf_X3_15 : Cond.fieldLink RX3 15 "CallBoard$Latest" "stepCount" "I" ∈ WW := inWW (tb_1 _ (List.mem_of_getElem? (i := 105) rfl)) rfl
theorem kf_X9_226 : Cond.fieldLink RX9 226 "CallBoard$Latest" "stepCount" "I" ∈ WW := inWW (tb_1 _ (List.mem_of_getElem? (i := 106) rfl)) rfl
theorem kf_X3_19 : Cond.fieldLink RX3 19 "CallBoard$Latest" "deepest" "I" ∈ WW := inWW (tb_1 _ (List.mem_of_getElem? (i := 107) rfl)) rfl
theorem kf_X9_209 : Cond.fieldLink RX9 209 "CallBoard$Latest" "deepest" "I" ∈ WW := inWW (tb_1 _ (List.mem_of_getElem? (i := 108) rfl)) rfl
theorem kf_X3_22 : Cond.fieldLink RX3 22 "CallBoard$Latest" "outcome" "I" ∈ WW := inWW (tb_1 _ (List.mem_of_getElem? (i := 109) rfl)) rfl
theorem kf_X9_216 : Cond.fieldLink RX9 216 "CallBoard$Latest" "outcome" "I" ∈ WW := inWW (tb_1 _ (List.mem_of_getElem? (i := 110) rfl)) rfl
theorem kf_X3_25 : Cond.fieldLink RX3 25 "CallBoard$Latest" "failed" "I" ∈ WW := inWW (tb_1 _ (List.mem_of_getElem? (i := 111) rfl)) rfl
theorem kf_X9_223 : Cond.fieldLink RX9 223 "CallBoard$Latest" "failed" "I" ∈ WW := inWW (tb_1 _ (List.mem_of_getElem? (i := 112) rfl)) rfl
theorem kf_X3_28 : Cond.fieldLink RX3 28 "CallBoard$Latest" "sum" "J" ∈ WW := inWW (tb_1 _ (List.mem_of_getElem? (i := 113) rfl)) rfl
theorem kf_X9_219 : Cond.fieldLink RX9 219 "CallBoard$Latest" "sum" "J" ∈ WW := inWW (tb_1 _ (List.mem_of_getElem? (i := 114) rfl)) rfl
theorem kl_X9_56 : Cond.classLink RX9 56 RX5 ∈ WW := inWW (tb_1 _ (List.mem_of_getElem? (i := 128) rfl)) rfl
theorem km_X5_3 : Cond.methodLink RX5 3 objectInit ∈ WW := inWW (tb_1 _ (List.mem_of_getElem? (i := 133) rfl)) rfl
theorem kl_X5_9 : Cond.classLink RX5 9 RX0 ∈ WW := inWW (tb_1 _ (List.mem_of_getElem? (i := 134) rfl)) rfl
theorem km_X0_3 : Cond.methodLink RX0 3 objectInit ∈ WW := inWW (tb_1 _ (List.mem_of_getElem? (i := 139) rfl)) rfl
theorem kf_X0_9 : Cond.fieldLink RX0 9 "CallBoard$Cells" "classes" "[I" ∈ WW := inWW (tb_1 _ (List.mem_of_getElem? (i := 140) rfl)) rfl
theorem kf_X5_75 : Cond.fieldLink RX5 75 "CallBoard$Cells" "classes" "[I" ∈ WW := inWW (tb_1 _ (List.mem_of_getElem? (i := 141) rfl)) rfl
theorem kf_X0_15 : Cond.fieldLink RX0 15 "CallBoard$Cells" "weights" "[I" ∈ WW := inWW (tb_1 _ (List.mem_of_getElem? (i := 142) rfl)) rfl
theorem kf_X5_78 : Cond.fieldLink RX5 78 "CallBoard$Cells" "weights" "[I" ∈ WW := inWW (tb_1 _ (List.mem_of_getElem? (i := 143) rfl)) rfl
theorem kf_X0_18 : Cond.fieldLink RX0 18 "CallBoard$Cells" "takers" "[I" ∈ WW := inWW (tb_1 _ (List.mem_of_getElem? (i := 144) rfl)) rfl
theorem kf_X5_45 : Cond.fieldLink RX5 45 "CallBoard$Cells" "takers" "[I" ∈ WW := inWW (tb_1 _ (List.mem_of_getElem? (i := 145) rfl)) rfl
theorem kf_X0_21 : Cond.fieldLink RX0 21 "CallBoard$Cells" "size" "I" ∈ WW := inWW (tb_1 _ (List.mem_of_getElem? (i := 146) rfl)) rfl
theorem kf_X5_42 : Cond.fieldLink RX5 42 "CallBoard$Cells" "size" "I" ∈ WW := inWW (tb_1 _ (List.mem_of_getElem? (i := 147) rfl)) rfl
theorem kf_X0_25 : Cond.fieldLink RX0 25 "CallBoard$Cells" "starts" "[I" ∈ WW := inWW (tb_1 _ (List.mem_of_getElem? (i := 148) rfl)) rfl
theorem kf_X0_28 : Cond.fieldLink RX0 28 "CallBoard$Cells" "startTakers" "[I" ∈ WW := inWW (tb_1 _ (List.mem_of_getElem? (i := 149) rfl)) rfl
theorem kf_X0_31 : Cond.fieldLink RX0 31 "CallBoard$Cells" "startCount" "I" ∈ WW := inWW (tb_1 _ (List.mem_of_getElem? (i := 150) rfl)) rfl
theorem kf_X5_12 : Cond.fieldLink RX5 12 "CallBoard$Proof" "first" "LCallBoard$Cells;" ∈ WW := inWW (tb_1 _ (List.mem_of_getElem? (i := 166) rfl)) rfl
theorem kf_X5_18 : Cond.fieldLink RX5 18 "CallBoard$Proof" "second" "LCallBoard$Cells;" ∈ WW := inWW (tb_1 _ (List.mem_of_getElem? (i := 167) rfl)) rfl
theorem kf_X5_21 : Cond.fieldLink RX5 21 "CallBoard$Proof" "atFirst" "I" ∈ WW := inWW (tb_1 _ (List.mem_of_getElem? (i := 168) rfl)) rfl
theorem kf_X5_25 : Cond.fieldLink RX5 25 "CallBoard$Proof" "atSecond" "I" ∈ WW := inWW (tb_1 _ (List.mem_of_getElem? (i := 169) rfl)) rfl
theorem kf_X5_28 : Cond.fieldLink RX5 28 "CallBoard$Proof" "lesser" "I" ∈ WW := inWW (tb_1 _ (List.mem_of_getElem? (i := 170) rfl)) rfl
theorem kf_X9_277 : Cond.fieldLink RX9 277 "CallBoard$Proof" "lesser" "I" ∈ WW := inWW (tb_1 _ (List.mem_of_getElem? (i := 171) rfl)) rfl
theorem kf_X5_31 : Cond.fieldLink RX5 31 "CallBoard$Proof" "greater" "I" ∈ WW := inWW (tb_1 _ (List.mem_of_getElem? (i := 172) rfl)) rfl
theorem kf_X9_280 : Cond.fieldLink RX9 280 "CallBoard$Proof" "greater" "I" ∈ WW := inWW (tb_1 _ (List.mem_of_getElem? (i := 173) rfl)) rfl
theorem kf_X9_12 : Cond.fieldLink RX9 12 "CallBoard" "table" "LCallBoard$Table;" ∈ WW := inWW (tb_1 _ (List.mem_of_getElem? (i := 187) rfl)) rfl
theorem kf_X9_19 : Cond.fieldLink RX9 19 "CallBoard" "stock" "LCallBoard$Stock;" ∈ WW := inWW (tb_1 _ (List.mem_of_getElem? (i := 188) rfl)) rfl
theorem kf_X9_25 : Cond.fieldLink RX9 25 "CallBoard" "functions" "[LCallBoard$Function;" ∈ WW := inWW (tb_1 _ (List.mem_of_getElem? (i := 189) rfl)) rfl
theorem kf_X9_31 : Cond.fieldLink RX9 31 "CallBoard" "handlers" "[LCallBoard$Handler;" ∈ WW := inWW (tb_1 _ (List.mem_of_getElem? (i := 190) rfl)) rfl
theorem kf_X9_35 : Cond.fieldLink RX9 35 "CallBoard" "told" "[I" ∈ WW := inWW (tb_1 _ (List.mem_of_getElem? (i := 191) rfl)) rfl
theorem kf_X9_39 : Cond.fieldLink RX9 39 "CallBoard" "counters" "[I" ∈ WW := inWW (tb_1 _ (List.mem_of_getElem? (i := 192) rfl)) rfl
theorem kf_X9_45 : Cond.fieldLink RX9 45 "CallBoard" "row" "LCallBoard$Row;" ∈ WW := inWW (tb_1 _ (List.mem_of_getElem? (i := 193) rfl)) rfl
theorem kf_X9_52 : Cond.fieldLink RX9 52 "CallBoard" "latest" "LCallBoard$Latest;" ∈ WW := inWW (tb_1 _ (List.mem_of_getElem? (i := 194) rfl)) rfl
theorem kf_X9_59 : Cond.fieldLink RX9 59 "CallBoard" "proof" "LCallBoard$Proof;" ∈ WW := inWW (tb_1 _ (List.mem_of_getElem? (i := 195) rfl)) rfl
theorem kf_X9_63 : Cond.fieldLink RX9 63 "CallBoard" "functionCount" "I" ∈ WW := inWW (tb_1 _ (List.mem_of_getElem? (i := 196) rfl)) rfl
theorem kf_X9_67 : Cond.fieldLink RX9 67 "CallBoard" "handlerCount" "I" ∈ WW := inWW (tb_1 _ (List.mem_of_getElem? (i := 197) rfl)) rfl
theorem kf_X9_70 : Cond.fieldLink RX9 70 "CallBoard" "explained" "I" ∈ WW := inWW (tb_1 _ (List.mem_of_getElem? (i := 198) rfl)) rfl
theorem km_L_13 : Cond.methodLink RL 13 yX9_parent ∈ WW := inWW (tb_1 _ (List.mem_of_getElem? (i := 224) rfl)) rfl
theorem km_X9_73 : Cond.methodLink RX9 73 yX9_isClass ∈ WW := inWW (tb_1 _ (List.mem_of_getElem? (i := 228) rfl)) rfl
theorem km_L_18 : Cond.methodLink RL 18 yX9_trait ∈ WW := inWW (tb_1 _ (List.mem_of_getElem? (i := 231) rfl)) rfl
theorem km_X9_84 : Cond.methodLink RX9 84 yX9_isTrait ∈ WW := inWW (tb_1 _ (List.mem_of_getElem? (i := 235) rfl)) rfl
theorem km_X9_87 : Cond.methodLink RX9 87 yX8_addTrait ∈ WW := inWW (tb_1 _ (List.mem_of_getElem? (i := 238) rfl)) rfl
theorem km_L_22 : Cond.methodLink RL 22 yX9_has ∈ WW := inWW (tb_2 _ (List.mem_of_getElem? (i := 2) rfl)) rfl
theorem km_L_26 : Cond.methodLink RL 26 yX9_flag ∈ WW := inWW (tb_2 _ (List.mem_of_getElem? (i := 6) rfl)) rfl
theorem km_X9_91 : Cond.methodLink RX9 91 yX8_isAbstract ∈ WW := inWW (tb_2 _ (List.mem_of_getElem? (i := 10) rfl)) rfl
theorem km_L_31 : Cond.methodLink RL 31 yX9_close ∈ WW := inWW (tb_2 _ (List.mem_of_getElem? (i := 14) rfl)) rfl
theorem km_X9_97 : Cond.methodLink RX9 97 yX8_findReach ∈ WW := inWW (tb_2 _ (List.mem_of_getElem? (i := 18) rfl)) rfl
theorem km_X9_100 : Cond.methodLink RX9 100 yX8_goesRound ∈ WW := inWW (tb_2 _ (List.mem_of_getElem? (i := 22) rfl)) rfl
theorem km_L_36 : Cond.methodLink RL 36 yX9_below ∈ WW := inWW (tb_2 _ (List.mem_of_getElem? (i := 26) rfl)) rfl
theorem km_X9_104 : Cond.methodLink RX9 104 yX9_isCode ∈ WW := inWW (tb_2 _ (List.mem_of_getElem? (i := 30) rfl)) rfl
theorem km_X9_107 : Cond.methodLink RX9 107 yX8_isBelow ∈ WW := inWW (tb_2 _ (List.mem_of_getElem? (i := 33) rfl)) rfl
theorem km_L_41 : Cond.methodLink RL 41 yX9_sample ∈ WW := inWW (tb_2 _ (List.mem_of_getElem? (i := 37) rfl)) rfl
theorem km_X9_111 : Cond.methodLink RX9 111 yX7_bring ∈ WW := inWW (tb_2 _ (List.mem_of_getElem? (i := 41) rfl)) rfl
theorem km_L_45 : Cond.methodLink RL 45 yX9_of ∈ WW := inWW (tb_2 _ (List.mem_of_getElem? (i := 45) rfl)) rfl
theorem km_X9_114 : Cond.methodLink RX9 114 yX7_holds ∈ WW := inWW (tb_2 _ (List.mem_of_getElem? (i := 49) rfl)) rfl
theorem km_L_49 : Cond.methodLink RL 49 yX9_samples ∈ WW := inWW (tb_2 _ (List.mem_of_getElem? (i := 53) rfl)) rfl
theorem km_L_53 : Cond.methodLink RL 53 yX9_function ∈ WW := inWW (tb_2 _ (List.mem_of_getElem? (i := 57) rfl)) rfl
theorem km_X9_126 : Cond.methodLink RX9 126 yX1_init ∈ WW := inWW (tb_2 _ (List.mem_of_getElem? (i := 62) rfl)) rfl
theorem km_X1_3 : Cond.methodLink RX1 3 objectInit ∈ WW := inWW (tb_2 _ (List.mem_of_getElem? (i := 65) rfl)) rfl
theorem kl_X1_9 : Cond.classLink RX1 9 RX4 ∈ WW := inWW (tb_2 _ (List.mem_of_getElem? (i := 66) rfl)) rfl
theorem km_X4_3 : Cond.methodLink RX4 3 objectInit ∈ WW := inWW (tb_2 _ (List.mem_of_getElem? (i := 71) rfl)) rfl
theorem kf_X4_9 : Cond.fieldLink RX4 9 "CallBoard$Memory" "classes" "[I" ∈ WW := inWW (tb_2 _ (List.mem_of_getElem? (i := 72) rfl)) rfl
theorem kf_X4_15 : Cond.fieldLink RX4 15 "CallBoard$Memory" "firstPieces" "[J" ∈ WW := inWW (tb_2 _ (List.mem_of_getElem? (i := 73) rfl)) rfl
theorem kf_X4_19 : Cond.fieldLink RX4 19 "CallBoard$Memory" "secondPieces" "[J" ∈ WW := inWW (tb_2 _ (List.mem_of_getElem? (i := 74) rfl)) rfl
theorem kf_X4_22 : Cond.fieldLink RX4 22 "CallBoard$Memory" "looked" "[I" ∈ WW := inWW (tb_2 _ (List.mem_of_getElem? (i := 75) rfl)) rfl
theorem kf_X4_25 : Cond.fieldLink RX4 25 "CallBoard$Memory" "looks" "I" ∈ WW := inWW (tb_2 _ (List.mem_of_getElem? (i := 76) rfl)) rfl
theorem kf_X4_29 : Cond.fieldLink RX4 29 "CallBoard$Memory" "size" "I" ∈ WW := inWW (tb_2 _ (List.mem_of_getElem? (i := 77) rfl)) rfl
theorem kf_X9_264 : Cond.fieldLink RX9 264 "CallBoard$Memory" "size" "I" ∈ WW := inWW (tb_2 _ (List.mem_of_getElem? (i := 78) rfl)) rfl
theorem kf_X4_32 : Cond.fieldLink RX4 32 "CallBoard$Memory" "hits" "I" ∈ WW := inWW (tb_2 _ (List.mem_of_getElem? (i := 79) rfl)) rfl
theorem kf_X9_259 : Cond.fieldLink RX9 259 "CallBoard$Memory" "hits" "I" ∈ WW := inWW (tb_2 _ (List.mem_of_getElem? (i := 80) rfl)) rfl
theorem ka_long : Cond.arrayClass .long ∈ WW := inWW (tb_2 _ (List.mem_of_getElem? (i := 96) rfl)) rfl
theorem kl_X1_22 : Cond.classLink RX1 22 RX2 ∈ WW := inWW (tb_2 _ (List.mem_of_getElem? (i := 97) rfl)) rfl
theorem kf_X1_42 : Cond.fieldLink RX1 42 "CallBoard$Function" "table" "LCallBoard$Table;" ∈ WW := inWW (tb_2 _ (List.mem_of_getElem? (i := 98) rfl)) rfl
theorem kf_X2_57 : Cond.fieldLink RX2 57 "CallBoard$Function" "table" "LCallBoard$Table;" ∈ WW := inWW (tb_2 _ (List.mem_of_getElem? (i := 99) rfl)) rfl
theorem kf_X0_51 : Cond.fieldLink RX0 51 "CallBoard$Function" "table" "LCallBoard$Table;" ∈ WW := inWW (tb_2 _ (List.mem_of_getElem? (i := 100) rfl)) rfl
theorem kf_X1_46 : Cond.fieldLink RX1 46 "CallBoard$Function" "number" "I" ∈ WW := inWW (tb_2 _ (List.mem_of_getElem? (i := 101) rfl)) rfl
theorem kf_X9_173 : Cond.fieldLink RX9 173 "CallBoard$Function" "number" "I" ∈ WW := inWW (tb_2 _ (List.mem_of_getElem? (i := 102) rfl)) rfl
theorem kf_X2_32 : Cond.fieldLink RX2 32 "CallBoard$Function" "places" "I" ∈ WW := inWW (tb_2 _ (List.mem_of_getElem? (i := 103) rfl)) rfl
theorem kf_X1_49 : Cond.fieldLink RX1 49 "CallBoard$Function" "places" "I" ∈ WW := inWW (tb_2 _ (List.mem_of_getElem? (i := 104) rfl)) rfl
theorem kf_X9_252 : Cond.fieldLink RX9 252 "CallBoard$Function" "places" "I" ∈ WW := inWW (tb_2 _ (List.mem_of_getElem? (i := 105) rfl)) rfl
theorem kf_X1_12 : Cond.fieldLink RX1 12 "CallBoard$Function" "memory" "LCallBoard$Memory;" ∈ WW := inWW (tb_2 _ (List.mem_of_getElem? (i := 106) rfl)) rfl
theorem kf_X9_255 : Cond.fieldLink RX9 255 "CallBoard$Function" "memory" "LCallBoard$Memory;" ∈ WW := inWW (tb_2 _ (List.mem_of_getElem? (i := 107) rfl)) rfl
theorem kf_X1_18 : Cond.fieldLink RX1 18 "CallBoard$Function" "ordered" "[I" ∈ WW := inWW (tb_2 _ (List.mem_of_getElem? (i := 108) rfl)) rfl
theorem kf_X9_195 : Cond.fieldLink RX9 195 "CallBoard$Function" "ordered" "[I" ∈ WW := inWW (tb_2 _ (List.mem_of_getElem? (i := 109) rfl)) rfl
theorem kf_X1_24 : Cond.fieldLink RX1 24 "CallBoard$Function" "laid" "[LCallBoard$Handler;" ∈ WW := inWW (tb_2 _ (List.mem_of_getElem? (i := 110) rfl)) rfl
theorem kf_X1_28 : Cond.fieldLink RX1 28 "CallBoard$Function" "beaten" "[I" ∈ WW := inWW (tb_2 _ (List.mem_of_getElem? (i := 111) rfl)) rfl
theorem kf_X1_31 : Cond.fieldLink RX1 31 "CallBoard$Function" "laidCount" "I" ∈ WW := inWW (tb_2 _ (List.mem_of_getElem? (i := 112) rfl)) rfl
theorem kf_X5_59 : Cond.fieldLink RX5 59 "CallBoard$Function" "laidCount" "I" ∈ WW := inWW (tb_2 _ (List.mem_of_getElem? (i := 113) rfl)) rfl
theorem kf_X0_75 : Cond.fieldLink RX0 75 "CallBoard$Function" "laidCount" "I" ∈ WW := inWW (tb_2 _ (List.mem_of_getElem? (i := 114) rfl)) rfl
theorem kf_X9_192 : Cond.fieldLink RX9 192 "CallBoard$Function" "laidCount" "I" ∈ WW := inWW (tb_2 _ (List.mem_of_getElem? (i := 115) rfl)) rfl
theorem kf_X1_35 : Cond.fieldLink RX1 35 "CallBoard$Function" "plain" "I" ∈ WW := inWW (tb_2 _ (List.mem_of_getElem? (i := 116) rfl)) rfl
theorem kf_X0_40 : Cond.fieldLink RX0 40 "CallBoard$Function" "plain" "I" ∈ WW := inWW (tb_2 _ (List.mem_of_getElem? (i := 117) rfl)) rfl
theorem kf_X5_66 : Cond.fieldLink RX5 66 "CallBoard$Function" "plain" "I" ∈ WW := inWW (tb_2 _ (List.mem_of_getElem? (i := 118) rfl)) rfl
theorem kf_X1_38 : Cond.fieldLink RX1 38 "CallBoard$Function" "frozen" "Z" ∈ WW := inWW (tb_2 _ (List.mem_of_getElem? (i := 119) rfl)) rfl
theorem kf_X9_159 : Cond.fieldLink RX9 159 "CallBoard$Function" "frozen" "Z" ∈ WW := inWW (tb_2 _ (List.mem_of_getElem? (i := 120) rfl)) rfl
theorem km_L_57 : Cond.methodLink RL 57 yX9_handler ∈ WW := inWW (tb_2 _ (List.mem_of_getElem? (i := 142) rfl)) rfl
theorem km_X9_129 : Cond.methodLink RX9 129 yX9_functionAt ∈ WW := inWW (tb_2 _ (List.mem_of_getElem? (i := 146) rfl)) rfl
theorem km_X9_133 : Cond.methodLink RX9 133 yX2_init ∈ WW := inWW (tb_2 _ (List.mem_of_getElem? (i := 151) rfl)) rfl
theorem km_X2_3 : Cond.methodLink RX2 3 objectInit ∈ WW := inWW (tb_2 _ (List.mem_of_getElem? (i := 154) rfl)) rfl
theorem km_X2_47 : Cond.methodLink RX2 47 yJ7_fill_53178 ∈ WW := inWW (tb_2 _ (List.mem_of_getElem? (i := 155) rfl)) rfl
theorem kk_X2_55 : Cond.constant RX2 55 (-2147483648) ∈ WW := inWW (tb_2 _ (List.mem_of_getElem? (i := 156) rfl)) rfl
theorem kk_X2_56 : Cond.constant RX2 56 (2147483647) ∈ WW := inWW (tb_2 _ (List.mem_of_getElem? (i := 157) rfl)) rfl
theorem kf_X2_15 : Cond.fieldLink RX2 15 "CallBoard$Handler" "owner" "LCallBoard$Function;" ∈ WW := inWW (tb_2 _ (List.mem_of_getElem? (i := 158) rfl)) rfl
theorem kf_X9_140 : Cond.fieldLink RX9 140 "CallBoard$Handler" "owner" "LCallBoard$Function;" ∈ WW := inWW (tb_2 _ (List.mem_of_getElem? (i := 159) rfl)) rfl
theorem kf_X2_19 : Cond.fieldLink RX2 19 "CallBoard$Handler" "number" "I" ∈ WW := inWW (tb_2 _ (List.mem_of_getElem? (i := 160) rfl)) rfl
theorem kf_X1_56 : Cond.fieldLink RX1 56 "CallBoard$Handler" "number" "I" ∈ WW := inWW (tb_2 _ (List.mem_of_getElem? (i := 161) rfl)) rfl
theorem kf_X9_316 : Cond.fieldLink RX9 316 "CallBoard$Handler" "number" "I" ∈ WW := inWW (tb_2 _ (List.mem_of_getElem? (i := 162) rfl)) rfl
theorem kf_X2_22 : Cond.fieldLink RX2 22 "CallBoard$Handler" "action" "I" ∈ WW := inWW (tb_2 _ (List.mem_of_getElem? (i := 163) rfl)) rfl
theorem kf_X9_176 : Cond.fieldLink RX9 176 "CallBoard$Handler" "action" "I" ∈ WW := inWW (tb_2 _ (List.mem_of_getElem? (i := 164) rfl)) rfl
theorem kf_X2_25 : Cond.fieldLink RX2 25 "CallBoard$Handler" "value" "I" ∈ WW := inWW (tb_2 _ (List.mem_of_getElem? (i := 165) rfl)) rfl
theorem kf_X9_179 : Cond.fieldLink RX9 179 "CallBoard$Handler" "value" "I" ∈ WW := inWW (tb_2 _ (List.mem_of_getElem? (i := 166) rfl)) rfl
theorem kf_X2_28 : Cond.fieldLink RX2 28 "CallBoard$Handler" "around" "Z" ∈ WW := inWW (tb_2 _ (List.mem_of_getElem? (i := 167) rfl)) rfl
theorem kf_X0_82 : Cond.fieldLink RX0 82 "CallBoard$Handler" "around" "Z" ∈ WW := inWW (tb_2 _ (List.mem_of_getElem? (i := 168) rfl)) rfl
theorem kf_X1_57 : Cond.fieldLink RX1 57 "CallBoard$Handler" "around" "Z" ∈ WW := inWW (tb_2 _ (List.mem_of_getElem? (i := 169) rfl)) rfl
theorem kf_X9_182 : Cond.fieldLink RX9 182 "CallBoard$Handler" "around" "Z" ∈ WW := inWW (tb_2 _ (List.mem_of_getElem? (i := 170) rfl)) rfl
theorem kf_X2_37 : Cond.fieldLink RX2 37 "CallBoard$Handler" "codes" "[I" ∈ WW := inWW (tb_2 _ (List.mem_of_getElem? (i := 171) rfl)) rfl
theorem kf_X9_150 : Cond.fieldLink RX9 150 "CallBoard$Handler" "codes" "[I" ∈ WW := inWW (tb_2 _ (List.mem_of_getElem? (i := 172) rfl)) rfl
theorem kf_X2_41 : Cond.fieldLink RX2 41 "CallBoard$Handler" "lows" "[I" ∈ WW := inWW (tb_2 _ (List.mem_of_getElem? (i := 173) rfl)) rfl
theorem kf_X0_88 : Cond.fieldLink RX0 88 "CallBoard$Handler" "lows" "[I" ∈ WW := inWW (tb_2 _ (List.mem_of_getElem? (i := 174) rfl)) rfl
theorem kf_X9_153 : Cond.fieldLink RX9 153 "CallBoard$Handler" "lows" "[I" ∈ WW := inWW (tb_2 _ (List.mem_of_getElem? (i := 175) rfl)) rfl
theorem kf_X1_119 : Cond.fieldLink RX1 119 "CallBoard$Handler" "lows" "[I" ∈ WW := inWW (tb_2 _ (List.mem_of_getElem? (i := 176) rfl)) rfl
theorem kf_X2_44 : Cond.fieldLink RX2 44 "CallBoard$Handler" "highs" "[I" ∈ WW := inWW (tb_2 _ (List.mem_of_getElem? (i := 177) rfl)) rfl
theorem kf_X0_91 : Cond.fieldLink RX0 91 "CallBoard$Handler" "highs" "[I" ∈ WW := inWW (tb_2 _ (List.mem_of_getElem? (i := 178) rfl)) rfl
theorem kf_X9_156 : Cond.fieldLink RX9 156 "CallBoard$Handler" "highs" "[I" ∈ WW := inWW (tb_2 _ (List.mem_of_getElem? (i := 179) rfl)) rfl
theorem kf_X1_122 : Cond.fieldLink RX1 122 "CallBoard$Handler" "highs" "[I" ∈ WW := inWW (tb_2 _ (List.mem_of_getElem? (i := 180) rfl)) rfl
theorem kf_X2_9 : Cond.fieldLink RX2 9 "CallBoard$Handler" "state" "I" ∈ WW := inWW (tb_2 _ (List.mem_of_getElem? (i := 181) rfl)) rfl
theorem kf_X9_147 : Cond.fieldLink RX9 147 "CallBoard$Handler" "state" "I" ∈ WW := inWW (tb_2 _ (List.mem_of_getElem? (i := 182) rfl)) rfl
theorem km_L_62 : Cond.methodLink RL 62 yX9_place ∈ WW := inWW (tb_2 _ (List.mem_of_getElem? (i := 202) rfl)) rfl
theorem km_X9_136 : Cond.methodLink RX9 136 yX9_handlerAt ∈ WW := inWW (tb_2 _ (List.mem_of_getElem? (i := 206) rfl)) rfl
theorem km_X9_144 : Cond.methodLink RX9 144 yX1_hasPlace ∈ WW := inWW (tb_2 _ (List.mem_of_getElem? (i := 210) rfl)) rfl
theorem km_L_67 : Cond.methodLink RL 67 yX9_test ∈ WW := inWW (tb_2 _ (List.mem_of_getElem? (i := 214) rfl)) rfl
theorem km_L_72 : Cond.methodLink RL 72 yX9_lay ∈ WW := inWW (tb_2 _ (List.mem_of_getElem? (i := 218) rfl)) rfl
theorem km_X9_162 : Cond.methodLink RX9 162 yX1_hasLaidSame ∈ WW := inWW (tb_2 _ (List.mem_of_getElem? (i := 222) rfl)) rfl
theorem km_X1_60 : Cond.methodLink RX1 60 yX2_isSameAs ∈ WW := inWW (tb_2 _ (List.mem_of_getElem? (i := 226) rfl)) rfl
theorem km_X2_81 : Cond.methodLink RX2 81 yX2_isSameAt ∈ WW := inWW (tb_2 _ (List.mem_of_getElem? (i := 230) rfl)) rfl
theorem km_X9_166 : Cond.methodLink RX9 166 yX1_putLaid ∈ WW := inWW (tb_2 _ (List.mem_of_getElem? (i := 234) rfl)) rfl
theorem km_X1_64 : Cond.methodLink RX1 64 yX1_compareLaid ∈ WW := inWW (tb_2 _ (List.mem_of_getElem? (i := 238) rfl)) rfl
theorem km_X1_67 : Cond.methodLink RX1 67 yX2_isMoreSpecific ∈ WW := inWW (tb_3 _ (List.mem_of_getElem? (i := 2) rfl)) rfl
theorem km_X2_85 : Cond.methodLink RX2 85 yX2_isNarrowerAt ∈ WW := inWW (tb_3 _ (List.mem_of_getElem? (i := 6) rfl)) rfl
theorem km_X2_61 : Cond.methodLink RX2 61 yX8_isBelow ∈ WW := inWW (tb_3 _ (List.mem_of_getElem? (i := 10) rfl)) rfl
theorem km_X1_70 : Cond.methodLink RX1 70 yX1_putInOrder ∈ WW := inWW (tb_3 _ (List.mem_of_getElem? (i := 11) rfl)) rfl
theorem km_X1_76 : Cond.methodLink RX1 76 yX1_beatenByAny ∈ WW := inWW (tb_3 _ (List.mem_of_getElem? (i := 15) rfl)) rfl
theorem km_X1_73 : Cond.methodLink RX1 73 yX4_forget ∈ WW := inWW (tb_3 _ (List.mem_of_getElem? (i := 22) rfl)) rfl
theorem km_L_76 : Cond.methodLink RL 76 yX9_lift ∈ WW := inWW (tb_3 _ (List.mem_of_getElem? (i := 26) rfl)) rfl
theorem km_X9_169 : Cond.methodLink RX9 169 yX1_dropLaid ∈ WW := inWW (tb_3 _ (List.mem_of_getElem? (i := 30) rfl)) rfl
theorem km_L_80 : Cond.methodLink RL 80 yX9_freeze ∈ WW := inWW (tb_3 _ (List.mem_of_getElem? (i := 34) rfl)) rfl
theorem km_L_85 : Cond.methodLink RL 85 yX9_about ∈ WW := inWW (tb_3 _ (List.mem_of_getElem? (i := 38) rfl)) rfl
theorem km_X9_185 : Cond.methodLink RX9 185 yX9_elementOrZero ∈ WW := inWW (tb_3 _ (List.mem_of_getElem? (i := 42) rfl)) rfl
theorem km_L_89 : Cond.methodLink RL 89 yX9_dominates ∈ WW := inWW (tb_3 _ (List.mem_of_getElem? (i := 45) rfl)) rfl
theorem km_X9_189 : Cond.methodLink RX9 189 yX2_isMoreSpecific ∈ WW := inWW (tb_3 _ (List.mem_of_getElem? (i := 49) rfl)) rfl
theorem km_L_93 : Cond.methodLink RL 93 yX9_order ∈ WW := inWW (tb_3 _ (List.mem_of_getElem? (i := 50) rfl)) rfl
theorem km_X9_198 : Cond.methodLink RX9 198 yX1_numberAt ∈ WW := inWW (tb_3 _ (List.mem_of_getElem? (i := 54) rfl)) rfl
theorem km_X1_52 : Cond.methodLink RX1 52 yX1_laidAt ∈ WW := inWW (tb_3 _ (List.mem_of_getElem? (i := 58) rfl)) rfl
theorem km_L_97 : Cond.methodLink RL 97 yX9_arg ∈ WW := inWW (tb_3 _ (List.mem_of_getElem? (i := 62) rfl)) rfl
theorem km_L_101 : Cond.methodLink RL 101 yX9_call ∈ WW := inWW (tb_3 _ (List.mem_of_getElem? (i := 66) rfl)) rfl
theorem km_X9_202 : Cond.methodLink RX9 202 yX9_readToldRow ∈ WW := inWW (tb_3 _ (List.mem_of_getElem? (i := 70) rfl)) rfl
theorem km_X9_206 : Cond.methodLink RX9 206 yX3_begin ∈ WW := inWW (tb_3 _ (List.mem_of_getElem? (i := 74) rfl)) rfl
theorem km_X9_212 : Cond.methodLink RX9 212 yX9_carryOut ∈ WW := inWW (tb_3 _ (List.mem_of_getElem? (i := 78) rfl)) rfl
theorem km_X9_295 : Cond.methodLink RX9 295 yX9_isBarred ∈ WW := inWW (tb_3 _ (List.mem_of_getElem? (i := 82) rfl)) rfl
theorem km_X9_306 : Cond.methodLink RX9 306 yX6_weightTogether ∈ WW := inWW (tb_3 _ (List.mem_of_getElem? (i := 86) rfl)) rfl
theorem km_X9_310 : Cond.methodLink RX9 310 yX1_takersOf ∈ WW := inWW (tb_3 _ (List.mem_of_getElem? (i := 90) rfl)) rfl
theorem km_X1_89 : Cond.methodLink RX1 89 yX1_takersOfClass ∈ WW := inWW (tb_3 _ (List.mem_of_getElem? (i := 94) rfl)) rfl
theorem km_X1_102 : Cond.methodLink RX1 102 yX2_takesClass ∈ WW := inWW (tb_3 _ (List.mem_of_getElem? (i := 98) rfl)) rfl
theorem km_X1_95 : Cond.methodLink RX1 95 yX1_takersOfWeight ∈ WW := inWW (tb_3 _ (List.mem_of_getElem? (i := 102) rfl)) rfl
theorem km_X1_106 : Cond.methodLink RX1 106 yX2_takesWeight ∈ WW := inWW (tb_3 _ (List.mem_of_getElem? (i := 106) rfl)) rfl
theorem km_X9_313 : Cond.methodLink RX9 313 yX1_laidAt ∈ WW := inWW (tb_3 _ (List.mem_of_getElem? (i := 110) rfl)) rfl
theorem km_X9_317 : Cond.methodLink RX9 317 yX3_addStep ∈ WW := inWW (tb_3 _ (List.mem_of_getElem? (i := 111) rfl)) rfl
theorem km_X9_298 : Cond.methodLink RX9 298 yX1_lookForRow ∈ WW := inWW (tb_3 _ (List.mem_of_getElem? (i := 115) rfl)) rfl
theorem km_X1_109 : Cond.methodLink RX1 109 yX1_pieceOf ∈ WW := inWW (tb_3 _ (List.mem_of_getElem? (i := 119) rfl)) rfl
theorem kk_X1_117 : Cond.constantLong RX1 117 (2147483648) ∈ WW := inWW (tb_3 _ (List.mem_of_getElem? (i := 123) rfl)) rfl
theorem km_X1_125 : Cond.methodLink RX1 125 yJ9_min_f86c9 ∈ WW := inWW (tb_3 _ (List.mem_of_getElem? (i := 124) rfl)) rfl
theorem km_X1_113 : Cond.methodLink RX1 113 yX4_look ∈ WW := inWW (tb_3 _ (List.mem_of_getElem? (i := 127) rfl)) rfl
theorem km_X4_35 : Cond.methodLink RX4 35 yX4_find ∈ WW := inWW (tb_3 _ (List.mem_of_getElem? (i := 131) rfl)) rfl
theorem km_X4_39 : Cond.methodLink RX4 39 yX4_makeRoom ∈ WW := inWW (tb_3 _ (List.mem_of_getElem? (i := 135) rfl)) rfl
theorem km_X9_232 : Cond.methodLink RX9 232 yX1_plainTakersOf ∈ WW := inWW (tb_3 _ (List.mem_of_getElem? (i := 139) rfl)) rfl
theorem km_X1_98 : Cond.methodLink RX1 98 yX1_takersOf ∈ WW := inWW (tb_3 _ (List.mem_of_getElem? (i := 143) rfl)) rfl
theorem km_X9_302 : Cond.methodLink RX9 302 yX9_runChosen ∈ WW := inWW (tb_3 _ (List.mem_of_getElem? (i := 144) rfl)) rfl
theorem km_X9_239 : Cond.methodLink RX9 239 yX1_chosenOf ∈ WW := inWW (tb_3 _ (List.mem_of_getElem? (i := 148) rfl)) rfl
theorem km_X9_321 : Cond.methodLink RX9 321 yX9_act ∈ WW := inWW (tb_3 _ (List.mem_of_getElem? (i := 152) rfl)) rfl
theorem km_X9_325 : Cond.methodLink RX9 325 yX3_endWithValue ∈ WW := inWW (tb_3 _ (List.mem_of_getElem? (i := 156) rfl)) rfl
theorem km_X9_329 : Cond.methodLink RX9 329 yX3_endWithFailure ∈ WW := inWW (tb_3 _ (List.mem_of_getElem? (i := 160) rfl)) rfl
theorem km_X9_332 : Cond.methodLink RX9 332 yJ9_floorMod_7cf53 ∈ WW := inWW (tb_3 _ (List.mem_of_getElem? (i := 164) rfl)) rfl
theorem km_X9_337 : Cond.methodLink RX9 337 yX9_countUp ∈ WW := inWW (tb_3 _ (List.mem_of_getElem? (i := 167) rfl)) rfl
theorem km_X9_340 : Cond.methodLink RX9 340 yX9_bringSample ∈ WW := inWW (tb_3 _ (List.mem_of_getElem? (i := 171) rfl)) rfl
theorem km_X9_343 : Cond.methodLink RX9 343 yX9_calledWithin ∈ WW := inWW (tb_3 _ (List.mem_of_getElem? (i := 175) rfl)) rfl
theorem km_X9_346 : Cond.methodLink RX9 346 yX6_turnRound ∈ WW := inWW (tb_3 _ (List.mem_of_getElem? (i := 179) rfl)) rfl
theorem km_X9_292 : Cond.methodLink RX9 292 yX1_beatenBy ∈ WW := inWW (tb_3 _ (List.mem_of_getElem? (i := 183) rfl)) rfl
theorem km_L_105 : Cond.methodLink RL 105 yX9_value ∈ WW := inWW (tb_3 _ (List.mem_of_getElem? (i := 187) rfl)) rfl
theorem km_L_110 : Cond.methodLink RL 110 yX9_failure ∈ WW := inWW (tb_3 _ (List.mem_of_getElem? (i := 191) rfl)) rfl
theorem km_L_114 : Cond.methodLink RL 114 yX9_step ∈ WW := inWW (tb_3 _ (List.mem_of_getElem? (i := 195) rfl)) rfl
theorem km_L_118 : Cond.methodLink RL 118 yX9_counter ∈ WW := inWW (tb_3 _ (List.mem_of_getElem? (i := 199) rfl)) rfl
theorem km_L_122 : Cond.methodLink RL 122 yX9_applicable ∈ WW := inWW (tb_3 _ (List.mem_of_getElem? (i := 203) rfl)) rfl
theorem km_X9_236 : Cond.methodLink RX9 236 yX9_memberAt ∈ WW := inWW (tb_3 _ (List.mem_of_getElem? (i := 207) rfl)) rfl
theorem km_L_126 : Cond.methodLink RL 126 yX9_most ∈ WW := inWW (tb_3 _ (List.mem_of_getElem? (i := 208) rfl)) rfl
theorem km_L_130 : Cond.methodLink RL 130 yX9_explain ∈ WW := inWW (tb_3 _ (List.mem_of_getElem? (i := 212) rfl)) rfl
theorem km_X9_242 : Cond.methodLink RX9 242 yX2_firstRefusingPlace ∈ WW := inWW (tb_3 _ (List.mem_of_getElem? (i := 216) rfl)) rfl
theorem km_X2_72 : Cond.methodLink RX2 72 yX2_takesClass ∈ WW := inWW (tb_3 _ (List.mem_of_getElem? (i := 220) rfl)) rfl
theorem km_X2_78 : Cond.methodLink RX2 78 yX2_takesWeight ∈ WW := inWW (tb_3 _ (List.mem_of_getElem? (i := 221) rfl)) rfl
theorem km_X9_245 : Cond.methodLink RX9 245 yX9_explainAmongTakers ∈ WW := inWW (tb_3 _ (List.mem_of_getElem? (i := 222) rfl)) rfl
theorem km_X9_286 : Cond.methodLink RX9 286 yX1_indexOf ∈ WW := inWW (tb_3 _ (List.mem_of_getElem? (i := 226) rfl)) rfl
theorem km_X9_289 : Cond.methodLink RX9 289 yX1_beatersOf ∈ WW := inWW (tb_3 _ (List.mem_of_getElem? (i := 230) rfl)) rfl
theorem km_L_134 : Cond.methodLink RL 134 yX9_where ∈ WW := inWW (tb_3 _ (List.mem_of_getElem? (i := 234) rfl)) rfl
theorem km_L_138 : Cond.methodLink RL 138 yX9_count ∈ WW := inWW (tb_3 _ (List.mem_of_getElem? (i := 238) rfl)) rfl
theorem km_X9_249 : Cond.methodLink RX9 249 yX9_countOfAll ∈ WW := inWW (tb_4 _ (List.mem_of_getElem? (i := 2) rfl)) rfl
theorem km_L_142 : Cond.methodLink RL 142 yX9_covered ∈ WW := inWW (tb_4 _ (List.mem_of_getElem? (i := 6) rfl)) rfl
theorem km_X9_265 : Cond.methodLink RX9 265 yX5_findHole ∈ WW := inWW (tb_4 _ (List.mem_of_getElem? (i := 10) rfl)) rfl
theorem km_X5_38 : Cond.methodLink RX5 38 yX5_fillCells ∈ WW := inWW (tb_4 _ (List.mem_of_getElem? (i := 14) rfl)) rfl
theorem km_X5_34 : Cond.methodLink RX5 34 yX0_fill ∈ WW := inWW (tb_4 _ (List.mem_of_getElem? (i := 18) rfl)) rfl
theorem km_X0_34 : Cond.methodLink RX0 34 yX1_hasPlace ∈ WW := inWW (tb_4 _ (List.mem_of_getElem? (i := 22) rfl)) rfl
theorem km_X0_43 : Cond.methodLink RX0 43 yX0_addNew ∈ WW := inWW (tb_4 _ (List.mem_of_getElem? (i := 23) rfl)) rfl
theorem km_X0_47 : Cond.methodLink RX0 47 yX0_findStarts ∈ WW := inWW (tb_4 _ (List.mem_of_getElem? (i := 27) rfl)) rfl
theorem kk_X0_70 : Cond.constant RX0 70 (-2147483648) ∈ WW := inWW (tb_4 _ (List.mem_of_getElem? (i := 31) rfl)) rfl
theorem km_X0_71 : Cond.methodLink RX0 71 yX0_addStart ∈ WW := inWW (tb_4 _ (List.mem_of_getElem? (i := 32) rfl)) rfl
theorem km_X0_78 : Cond.methodLink RX0 78 yX1_laidAt ∈ WW := inWW (tb_4 _ (List.mem_of_getElem? (i := 36) rfl)) rfl
theorem kk_X0_94 : Cond.constant RX0 94 (2147483647) ∈ WW := inWW (tb_4 _ (List.mem_of_getElem? (i := 37) rfl)) rfl
theorem km_X0_95 : Cond.methodLink RX0 95 yX1_takersOfWeight ∈ WW := inWW (tb_4 _ (List.mem_of_getElem? (i := 38) rfl)) rfl
theorem km_X0_55 : Cond.methodLink RX0 55 yX8_isAbstract ∈ WW := inWW (tb_4 _ (List.mem_of_getElem? (i := 39) rfl)) rfl
theorem km_X0_60 : Cond.methodLink RX0 60 yX1_takersOfClass ∈ WW := inWW (tb_4 _ (List.mem_of_getElem? (i := 40) rfl)) rfl
theorem km_X0_64 : Cond.methodLink RX0 64 yX0_addClass ∈ WW := inWW (tb_4 _ (List.mem_of_getElem? (i := 41) rfl)) rfl
theorem km_X5_49 : Cond.methodLink RX5 49 yX1_chosenOf ∈ WW := inWW (tb_4 _ (List.mem_of_getElem? (i := 45) rfl)) rfl
theorem km_X5_55 : Cond.methodLink RX5 55 yX5_foundAt ∈ WW := inWW (tb_4 _ (List.mem_of_getElem? (i := 46) rfl)) rfl
theorem km_L_146 : Cond.methodLink RL 146 yX9_hole ∈ WW := inWW (tb_4 _ (List.mem_of_getElem? (i := 50) rfl)) rfl
theorem kk_X9_268 : Cond.constantLong RX9 268 (1099511627776) ∈ WW := inWW (tb_4 _ (List.mem_of_getElem? (i := 54) rfl)) rfl
theorem km_X9_270 : Cond.methodLink RX9 270 yX5_partOfTuple ∈ WW := inWW (tb_4 _ (List.mem_of_getElem? (i := 55) rfl)) rfl
theorem km_L_151 : Cond.methodLink RL 151 yX9_doubt ∈ WW := inWW (tb_4 _ (List.mem_of_getElem? (i := 59) rfl)) rfl
theorem km_X9_273 : Cond.methodLink RX9 273 yX5_findDoubt ∈ WW := inWW (tb_4 _ (List.mem_of_getElem? (i := 63) rfl)) rfl
theorem km_X5_62 : Cond.methodLink RX5 62 yX5_haveDoubt ∈ WW := inWW (tb_4 _ (List.mem_of_getElem? (i := 67) rfl)) rfl
theorem km_X5_69 : Cond.methodLink RX5 69 yX1_beatenBy ∈ WW := inWW (tb_4 _ (List.mem_of_getElem? (i := 71) rfl)) rfl
theorem km_X5_72 : Cond.methodLink RX5 72 yX1_beatersOf ∈ WW := inWW (tb_4 _ (List.mem_of_getElem? (i := 72) rfl)) rfl
theorem kl_L_10 : Cond.classLink RL 10 RX10 ∈ WW := inWW (tb_4 _ (List.mem_of_getElem? (i := 73) rfl)) rfl
theorem km_L_12 : Cond.methodLink RL 12 yX10_init ∈ WW := inWW (tb_4 _ (List.mem_of_getElem? (i := 75) rfl)) rfl
theorem km_X10_1 : Cond.methodLink RX10 1 objectInit ∈ WW := inWW (tb_4 _ (List.mem_of_getElem? (i := 78) rfl)) rfl
theorem kf_X10_7 : Cond.fieldLink RX10 7 "CallBoardModel" "parents" "[I" ∈ WW := inWW (tb_4 _ (List.mem_of_getElem? (i := 79) rfl)) rfl
theorem kf_X10_13 : Cond.fieldLink RX10 13 "CallBoardModel" "direct" "[Z" ∈ WW := inWW (tb_4 _ (List.mem_of_getElem? (i := 80) rfl)) rfl
theorem kf_X10_17 : Cond.fieldLink RX10 17 "CallBoardModel" "under" "[Z" ∈ WW := inWW (tb_4 _ (List.mem_of_getElem? (i := 81) rfl)) rfl
theorem kf_X10_20 : Cond.fieldLink RX10 20 "CallBoardModel" "unmade" "[Z" ∈ WW := inWW (tb_4 _ (List.mem_of_getElem? (i := 82) rfl)) rfl
theorem kf_X10_110 : Cond.fieldLink RX10 110 "CallBoardModel" "closed" "Z" ∈ WW := inWW (tb_4 _ (List.mem_of_getElem? (i := 83) rfl)) rfl
theorem kf_X10_125 : Cond.fieldLink RX10 125 "CallBoardModel" "samples" "I" ∈ WW := inWW (tb_4 _ (List.mem_of_getElem? (i := 84) rfl)) rfl
theorem kf_X10_23 : Cond.fieldLink RX10 23 "CallBoardModel" "kinds" "[I" ∈ WW := inWW (tb_4 _ (List.mem_of_getElem? (i := 85) rfl)) rfl
theorem kf_X10_26 : Cond.fieldLink RX10 26 "CallBoardModel" "weights" "[I" ∈ WW := inWW (tb_4 _ (List.mem_of_getElem? (i := 86) rfl)) rfl
theorem kf_X10_128 : Cond.fieldLink RX10 128 "CallBoardModel" "functions" "I" ∈ WW := inWW (tb_4 _ (List.mem_of_getElem? (i := 87) rfl)) rfl
theorem kf_X10_29 : Cond.fieldLink RX10 29 "CallBoardModel" "places" "[I" ∈ WW := inWW (tb_4 _ (List.mem_of_getElem? (i := 88) rfl)) rfl
theorem kf_X10_32 : Cond.fieldLink RX10 32 "CallBoardModel" "frozen" "[Z" ∈ WW := inWW (tb_4 _ (List.mem_of_getElem? (i := 89) rfl)) rfl
theorem kf_X10_35 : Cond.fieldLink RX10 35 "CallBoardModel" "hits" "[I" ∈ WW := inWW (tb_4 _ (List.mem_of_getElem? (i := 90) rfl)) rfl
theorem kf_X10_38 : Cond.fieldLink RX10 38 "CallBoardModel" "rows" "[J" ∈ WW := inWW (tb_4 _ (List.mem_of_getElem? (i := 91) rfl)) rfl
theorem kf_X10_42 : Cond.fieldLink RX10 42 "CallBoardModel" "rowMany" "[I" ∈ WW := inWW (tb_4 _ (List.mem_of_getElem? (i := 92) rfl)) rfl
theorem kf_X10_131 : Cond.fieldLink RX10 131 "CallBoardModel" "handlers" "I" ∈ WW := inWW (tb_4 _ (List.mem_of_getElem? (i := 93) rfl)) rfl
theorem kf_X10_45 : Cond.fieldLink RX10 45 "CallBoardModel" "functionOf" "[I" ∈ WW := inWW (tb_4 _ (List.mem_of_getElem? (i := 94) rfl)) rfl
theorem kf_X10_48 : Cond.fieldLink RX10 48 "CallBoardModel" "actions" "[I" ∈ WW := inWW (tb_4 _ (List.mem_of_getElem? (i := 95) rfl)) rfl
theorem kf_X10_51 : Cond.fieldLink RX10 51 "CallBoardModel" "values" "[I" ∈ WW := inWW (tb_4 _ (List.mem_of_getElem? (i := 96) rfl)) rfl
theorem kf_X10_54 : Cond.fieldLink RX10 54 "CallBoardModel" "around" "[Z" ∈ WW := inWW (tb_4 _ (List.mem_of_getElem? (i := 97) rfl)) rfl
theorem kf_X10_57 : Cond.fieldLink RX10 57 "CallBoardModel" "states" "[I" ∈ WW := inWW (tb_4 _ (List.mem_of_getElem? (i := 98) rfl)) rfl
theorem kf_X10_60 : Cond.fieldLink RX10 60 "CallBoardModel" "codes" "[I" ∈ WW := inWW (tb_4 _ (List.mem_of_getElem? (i := 99) rfl)) rfl
theorem kf_X10_63 : Cond.fieldLink RX10 63 "CallBoardModel" "lows" "[I" ∈ WW := inWW (tb_4 _ (List.mem_of_getElem? (i := 100) rfl)) rfl
theorem kf_X10_66 : Cond.fieldLink RX10 66 "CallBoardModel" "highs" "[I" ∈ WW := inWW (tb_4 _ (List.mem_of_getElem? (i := 101) rfl)) rfl
theorem kf_X10_69 : Cond.fieldLink RX10 69 "CallBoardModel" "counters" "[I" ∈ WW := inWW (tb_4 _ (List.mem_of_getElem? (i := 102) rfl)) rfl
theorem kf_X10_72 : Cond.fieldLink RX10 72 "CallBoardModel" "told" "[I" ∈ WW := inWW (tb_4 _ (List.mem_of_getElem? (i := 103) rfl)) rfl
theorem kf_X10_75 : Cond.fieldLink RX10 75 "CallBoardModel" "outcome" "I" ∈ WW := inWW (tb_4 _ (List.mem_of_getElem? (i := 104) rfl)) rfl
theorem kf_X10_212 : Cond.fieldLink RX10 212 "CallBoardModel" "result" "J" ∈ WW := inWW (tb_4 _ (List.mem_of_getElem? (i := 105) rfl)) rfl
theorem kf_X10_209 : Cond.fieldLink RX10 209 "CallBoardModel" "fault" "I" ∈ WW := inWW (tb_4 _ (List.mem_of_getElem? (i := 106) rfl)) rfl
theorem kf_X10_79 : Cond.fieldLink RX10 79 "CallBoardModel" "steps" "[I" ∈ WW := inWW (tb_4 _ (List.mem_of_getElem? (i := 107) rfl)) rfl
theorem kf_X10_180 : Cond.fieldLink RX10 180 "CallBoardModel" "stepMany" "I" ∈ WW := inWW (tb_4 _ (List.mem_of_getElem? (i := 108) rfl)) rfl
theorem kf_X10_191 : Cond.fieldLink RX10 191 "CallBoardModel" "deepest" "I" ∈ WW := inWW (tb_4 _ (List.mem_of_getElem? (i := 109) rfl)) rfl
theorem kf_X10_82 : Cond.fieldLink RX10 82 "CallBoardModel" "rowKinds" "[I" ∈ WW := inWW (tb_4 _ (List.mem_of_getElem? (i := 110) rfl)) rfl
theorem kf_X10_85 : Cond.fieldLink RX10 85 "CallBoardModel" "rowWeights" "[J" ∈ WW := inWW (tb_4 _ (List.mem_of_getElem? (i := 111) rfl)) rfl
theorem kf_X10_88 : Cond.fieldLink RX10 88 "CallBoardModel" "foundPlace" "I" ∈ WW := inWW (tb_4 _ (List.mem_of_getElem? (i := 112) rfl)) rfl
theorem kf_X10_91 : Cond.fieldLink RX10 91 "CallBoardModel" "gone" "[Z" ∈ WW := inWW (tb_4 _ (List.mem_of_getElem? (i := 113) rfl)) rfl
theorem kf_X10_94 : Cond.fieldLink RX10 94 "CallBoardModel" "edges" "[J" ∈ WW := inWW (tb_4 _ (List.mem_of_getElem? (i := 114) rfl)) rfl
theorem kf_X10_97 : Cond.fieldLink RX10 97 "CallBoardModel" "edgeMany" "[I" ∈ WW := inWW (tb_4 _ (List.mem_of_getElem? (i := 115) rfl)) rfl
theorem kf_X10_100 : Cond.fieldLink RX10 100 "CallBoardModel" "edgeAt" "[I" ∈ WW := inWW (tb_4 _ (List.mem_of_getElem? (i := 116) rfl)) rfl
theorem kf_X10_103 : Cond.fieldLink RX10 103 "CallBoardModel" "tuple" "[J" ∈ WW := inWW (tb_4 _ (List.mem_of_getElem? (i := 117) rfl)) rfl
theorem ka_boolean : Cond.arrayClass .boolean ∈ WW := inWW (tb_4 _ (List.mem_of_getElem? (i := 197) rfl)) rfl
theorem km_L_17 : Cond.methodLink RL 17 yX10_parent ∈ WW := inWW (tb_4 _ (List.mem_of_getElem? (i := 198) rfl)) rfl
theorem km_X10_106 : Cond.methodLink RX10 106 yX10_isClass ∈ WW := inWW (tb_4 _ (List.mem_of_getElem? (i := 202) rfl)) rfl
theorem km_L_21 : Cond.methodLink RL 21 yX10_trait ∈ WW := inWW (tb_4 _ (List.mem_of_getElem? (i := 205) rfl)) rfl
theorem km_X10_114 : Cond.methodLink RX10 114 yX10_isTrait ∈ WW := inWW (tb_4 _ (List.mem_of_getElem? (i := 209) rfl)) rfl
theorem km_X10_117 : Cond.methodLink RX10 117 yX10_add ∈ WW := inWW (tb_4 _ (List.mem_of_getElem? (i := 212) rfl)) rfl
theorem km_L_25 : Cond.methodLink RL 25 yX10_has ∈ WW := inWW (tb_4 _ (List.mem_of_getElem? (i := 216) rfl)) rfl
theorem km_L_30 : Cond.methodLink RL 30 yX10_flag ∈ WW := inWW (tb_4 _ (List.mem_of_getElem? (i := 220) rfl)) rfl
theorem km_L_35 : Cond.methodLink RL 35 yX10_close ∈ WW := inWW (tb_4 _ (List.mem_of_getElem? (i := 224) rfl)) rfl
theorem km_L_40 : Cond.methodLink RL 40 yX10_below ∈ WW := inWW (tb_4 _ (List.mem_of_getElem? (i := 228) rfl)) rfl
theorem km_X10_121 : Cond.methodLink RX10 121 yX10_isBelow ∈ WW := inWW (tb_4 _ (List.mem_of_getElem? (i := 232) rfl)) rfl
theorem km_L_44 : Cond.methodLink RL 44 yX10_sample ∈ WW := inWW (tb_4 _ (List.mem_of_getElem? (i := 236) rfl)) rfl
theorem km_L_48 : Cond.methodLink RL 48 yX10_of ∈ WW := inWW (tb_5 _ (List.mem_of_getElem? (i := 0) rfl)) rfl
theorem km_L_52 : Cond.methodLink RL 52 yX10_samples ∈ WW := inWW (tb_5 _ (List.mem_of_getElem? (i := 4) rfl)) rfl
theorem km_L_56 : Cond.methodLink RL 56 yX10_function ∈ WW := inWW (tb_5 _ (List.mem_of_getElem? (i := 8) rfl)) rfl
theorem km_L_61 : Cond.methodLink RL 61 yX10_handler ∈ WW := inWW (tb_5 _ (List.mem_of_getElem? (i := 12) rfl)) rfl
theorem km_X10_134 : Cond.methodLink RX10 134 yX10_isFunction ∈ WW := inWW (tb_5 _ (List.mem_of_getElem? (i := 16) rfl)) rfl
theorem kk_X10_137 : Cond.constant RX10 137 (-2147483648) ∈ WW := inWW (tb_5 _ (List.mem_of_getElem? (i := 20) rfl)) rfl
theorem kk_X10_138 : Cond.constant RX10 138 (2147483647) ∈ WW := inWW (tb_5 _ (List.mem_of_getElem? (i := 21) rfl)) rfl
theorem km_L_66 : Cond.methodLink RL 66 yX10_place ∈ WW := inWW (tb_5 _ (List.mem_of_getElem? (i := 22) rfl)) rfl
theorem km_X10_142 : Cond.methodLink RX10 142 yX10_hasPlace ∈ WW := inWW (tb_5 _ (List.mem_of_getElem? (i := 26) rfl)) rfl
theorem km_X10_139 : Cond.methodLink RX10 139 yX10_isHandler ∈ WW := inWW (tb_5 _ (List.mem_of_getElem? (i := 30) rfl)) rfl
theorem km_L_71 : Cond.methodLink RL 71 yX10_test ∈ WW := inWW (tb_5 _ (List.mem_of_getElem? (i := 34) rfl)) rfl
theorem km_L_75 : Cond.methodLink RL 75 yX10_lay ∈ WW := inWW (tb_5 _ (List.mem_of_getElem? (i := 38) rfl)) rfl
theorem km_X10_145 : Cond.methodLink RX10 145 yX10_isLaid ∈ WW := inWW (tb_5 _ (List.mem_of_getElem? (i := 42) rfl)) rfl
theorem km_X10_148 : Cond.methodLink RX10 148 yX10_areSame ∈ WW := inWW (tb_5 _ (List.mem_of_getElem? (i := 46) rfl)) rfl
theorem km_X10_155 : Cond.methodLink RX10 155 yX10_laid ∈ WW := inWW (tb_5 _ (List.mem_of_getElem? (i := 50) rfl)) rfl
theorem km_L_79 : Cond.methodLink RL 79 yX10_lift ∈ WW := inWW (tb_5 _ (List.mem_of_getElem? (i := 54) rfl)) rfl
theorem km_L_84 : Cond.methodLink RL 84 yX10_freeze ∈ WW := inWW (tb_5 _ (List.mem_of_getElem? (i := 58) rfl)) rfl
theorem km_L_88 : Cond.methodLink RL 88 yX10_about ∈ WW := inWW (tb_5 _ (List.mem_of_getElem? (i := 62) rfl)) rfl
theorem km_L_92 : Cond.methodLink RL 92 yX10_dominates ∈ WW := inWW (tb_5 _ (List.mem_of_getElem? (i := 66) rfl)) rfl
theorem km_X10_159 : Cond.methodLink RX10 159 yX10_isMore ∈ WW := inWW (tb_5 _ (List.mem_of_getElem? (i := 70) rfl)) rfl
theorem km_X10_152 : Cond.methodLink RX10 152 yX10_isNarrower ∈ WW := inWW (tb_5 _ (List.mem_of_getElem? (i := 74) rfl)) rfl
theorem km_L_96 : Cond.methodLink RL 96 yX10_order ∈ WW := inWW (tb_5 _ (List.mem_of_getElem? (i := 78) rfl)) rfl
theorem km_X10_162 : Cond.methodLink RX10 162 yX10_inOrder ∈ WW := inWW (tb_5 _ (List.mem_of_getElem? (i := 82) rfl)) rfl
theorem km_L_100 : Cond.methodLink RL 100 yX10_arg ∈ WW := inWW (tb_5 _ (List.mem_of_getElem? (i := 86) rfl)) rfl
theorem km_L_104 : Cond.methodLink RL 104 yX10_call ∈ WW := inWW (tb_5 _ (List.mem_of_getElem? (i := 90) rfl)) rfl
theorem km_X10_238 : Cond.methodLink RX10 238 yX10_tellRow ∈ WW := inWW (tb_5 _ (List.mem_of_getElem? (i := 94) rfl)) rfl
theorem km_X10_225 : Cond.methodLink RX10 225 yX10_begin ∈ WW := inWW (tb_5 _ (List.mem_of_getElem? (i := 98) rfl)) rfl
theorem km_X10_194 : Cond.methodLink RX10 194 yX10_isBarred ∈ WW := inWW (tb_5 _ (List.mem_of_getElem? (i := 102) rfl)) rfl
theorem km_X10_168 : Cond.methodLink RX10 168 yX10_takes ∈ WW := inWW (tb_5 _ (List.mem_of_getElem? (i := 106) rfl)) rfl
theorem km_X10_165 : Cond.methodLink RX10 165 yX10_takesAt ∈ WW := inWW (tb_5 _ (List.mem_of_getElem? (i := 110) rfl)) rfl
theorem km_X10_183 : Cond.methodLink RX10 183 yX10_note ∈ WW := inWW (tb_5 _ (List.mem_of_getElem? (i := 114) rfl)) rfl
theorem km_X10_187 : Cond.methodLink RX10 187 yX10_weight ∈ WW := inWW (tb_5 _ (List.mem_of_getElem? (i := 118) rfl)) rfl
theorem km_X10_197 : Cond.methodLink RX10 197 yX10_remember ∈ WW := inWW (tb_5 _ (List.mem_of_getElem? (i := 122) rfl)) rfl
theorem km_X10_176 : Cond.methodLink RX10 176 yX10_piece ∈ WW := inWW (tb_5 _ (List.mem_of_getElem? (i := 126) rfl)) rfl
theorem kk_X10_174 : Cond.constantLong RX10 174 (2147483648) ∈ WW := inWW (tb_5 _ (List.mem_of_getElem? (i := 130) rfl)) rfl
theorem km_X10_200 : Cond.methodLink RX10 200 yX10_choose ∈ WW := inWW (tb_5 _ (List.mem_of_getElem? (i := 131) rfl)) rfl
theorem km_X10_203 : Cond.methodLink RX10 203 yX10_offered ∈ WW := inWW (tb_5 _ (List.mem_of_getElem? (i := 135) rfl)) rfl
theorem km_X10_171 : Cond.methodLink RX10 171 yX10_isOffered ∈ WW := inWW (tb_5 _ (List.mem_of_getElem? (i := 139) rfl)) rfl
theorem km_X10_206 : Cond.methodLink RX10 206 yX10_chosen ∈ WW := inWW (tb_5 _ (List.mem_of_getElem? (i := 143) rfl)) rfl
theorem km_X10_241 : Cond.methodLink RX10 241 yX10_run ∈ WW := inWW (tb_5 _ (List.mem_of_getElem? (i := 147) rfl)) rfl
theorem km_X10_228 : Cond.methodLink RX10 228 yX10_end ∈ WW := inWW (tb_5 _ (List.mem_of_getElem? (i := 151) rfl)) rfl
theorem km_X10_219 : Cond.methodLink RX10 219 yX10_fail ∈ WW := inWW (tb_5 _ (List.mem_of_getElem? (i := 155) rfl)) rfl
theorem km_X10_216 : Cond.methodLink RX10 216 yX10_rest ∈ WW := inWW (tb_5 _ (List.mem_of_getElem? (i := 159) rfl)) rfl
theorem km_X10_232 : Cond.methodLink RX10 232 yX10_grow ∈ WW := inWW (tb_5 _ (List.mem_of_getElem? (i := 162) rfl)) rfl
theorem km_X10_235 : Cond.methodLink RX10 235 yX10_callOn ∈ WW := inWW (tb_5 _ (List.mem_of_getElem? (i := 166) rfl)) rfl
theorem km_X10_222 : Cond.methodLink RX10 222 yX10_turn ∈ WW := inWW (tb_5 _ (List.mem_of_getElem? (i := 170) rfl)) rfl
theorem km_L_109 : Cond.methodLink RL 109 yX10_value ∈ WW := inWW (tb_5 _ (List.mem_of_getElem? (i := 174) rfl)) rfl
theorem km_L_113 : Cond.methodLink RL 113 yX10_failure ∈ WW := inWW (tb_5 _ (List.mem_of_getElem? (i := 178) rfl)) rfl
theorem km_L_117 : Cond.methodLink RL 117 yX10_step ∈ WW := inWW (tb_5 _ (List.mem_of_getElem? (i := 182) rfl)) rfl
theorem km_L_121 : Cond.methodLink RL 121 yX10_counter ∈ WW := inWW (tb_5 _ (List.mem_of_getElem? (i := 186) rfl)) rfl
theorem km_L_125 : Cond.methodLink RL 125 yX10_applicable ∈ WW := inWW (tb_5 _ (List.mem_of_getElem? (i := 190) rfl)) rfl
theorem km_L_129 : Cond.methodLink RL 129 yX10_most ∈ WW := inWW (tb_5 _ (List.mem_of_getElem? (i := 194) rfl)) rfl
theorem km_L_133 : Cond.methodLink RL 133 yX10_explain ∈ WW := inWW (tb_5 _ (List.mem_of_getElem? (i := 198) rfl)) rfl
theorem km_X10_244 : Cond.methodLink RX10 244 yX10_moreThan ∈ WW := inWW (tb_5 _ (List.mem_of_getElem? (i := 202) rfl)) rfl
theorem km_L_137 : Cond.methodLink RL 137 yX10_where ∈ WW := inWW (tb_5 _ (List.mem_of_getElem? (i := 206) rfl)) rfl
theorem km_L_141 : Cond.methodLink RL 141 yX10_count ∈ WW := inWW (tb_5 _ (List.mem_of_getElem? (i := 210) rfl)) rfl
theorem km_X10_247 : Cond.methodLink RX10 247 yX10_countAll ∈ WW := inWW (tb_5 _ (List.mem_of_getElem? (i := 214) rfl)) rfl
theorem km_L_145 : Cond.methodLink RL 145 yX10_covered ∈ WW := inWW (tb_5 _ (List.mem_of_getElem? (i := 218) rfl)) rfl
theorem km_X10_271 : Cond.methodLink RX10 271 yX10_findHole ∈ WW := inWW (tb_5 _ (List.mem_of_getElem? (i := 222) rfl)) rfl
theorem km_X10_262 : Cond.methodLink RX10 262 yX10_firstTuple ∈ WW := inWW (tb_5 _ (List.mem_of_getElem? (i := 226) rfl)) rfl
theorem km_X10_252 : Cond.methodLink RX10 252 yX10_nextClass ∈ WW := inWW (tb_5 _ (List.mem_of_getElem? (i := 230) rfl)) rfl
theorem kk_X10_250 : Cond.constantLong RX10 250 (-2147483648) ∈ WW := inWW (tb_5 _ (List.mem_of_getElem? (i := 234) rfl)) rfl
theorem km_X10_255 : Cond.methodLink RX10 255 yX10_findEdges ∈ WW := inWW (tb_5 _ (List.mem_of_getElem? (i := 235) rfl)) rfl
theorem km_X10_265 : Cond.methodLink RX10 265 yX10_nextTuple ∈ WW := inWW (tb_5 _ (List.mem_of_getElem? (i := 239) rfl)) rfl
theorem km_X10_259 : Cond.methodLink RX10 259 yX10_nextAt ∈ WW := inWW (tb_6 _ (List.mem_of_getElem? (i := 3) rfl)) rfl
theorem km_X10_268 : Cond.methodLink RX10 268 yX10_keepTuple ∈ WW := inWW (tb_6 _ (List.mem_of_getElem? (i := 7) rfl)) rfl
theorem km_L_150 : Cond.methodLink RL 150 yX10_hole ∈ WW := inWW (tb_6 _ (List.mem_of_getElem? (i := 11) rfl)) rfl
theorem kk_X10_274 : Cond.constantLong RX10 274 (1099511627776) ∈ WW := inWW (tb_6 _ (List.mem_of_getElem? (i := 15) rfl)) rfl
theorem km_L_155 : Cond.methodLink RL 155 yX10_doubt ∈ WW := inWW (tb_6 _ (List.mem_of_getElem? (i := 16) rfl)) rfl
theorem km_X10_279 : Cond.methodLink RX10 279 yX10_findDoubt ∈ WW := inWW (tb_6 _ (List.mem_of_getElem? (i := 20) rfl)) rfl
theorem km_X10_276 : Cond.methodLink RX10 276 yX10_areInDoubt ∈ WW := inWW (tb_6 _ (List.mem_of_getElem? (i := 24) rfl)) rfl
theorem kc_MIN : Cond.code Lib.MathLoose.min_long.x Lib.MathLoose.min_long.code 4 (some .long) ∈ WW := inWW (tb_3 _ (List.mem_of_getElem? (i := 126) rfl)) rfl
theorem kt_MIN : Cond.static Lib.MathLoose.min_long.x ∈ WW := inWW (tb_3 _ (List.mem_of_getElem? (i := 125) rfl)) rfl
theorem kz_MIN : Cond.initialized "java/lang/Math" ∈ WW := inWW (tb_1 _ (List.mem_of_getElem? (i := 13) rfl)) rfl
theorem ki_OBJ : Cond.instanceMethod objectInit ∈ WW := inWW (tb_1 _ (List.mem_of_getElem? (i := 20) rfl)) rfl
theorem kc_OBJ : Cond.code objectInit ⟨#[0xb1]⟩ 1 none ∈ WW := inWW (tb_1 _ (List.mem_of_getElem? (i := 21) rfl)) rfl
theorem ku_X0_0 : u_lay RX0 TX0 0 ∈ WW := inWW (tb_1 _ (List.mem_of_getElem? (i := 151) rfl)) rfl
theorem ku_X0_1 : u_lay RX0 TX0 1 ∈ WW := inWW (tb_1 _ (List.mem_of_getElem? (i := 153) rfl)) rfl
theorem ku_X0_2 : u_lay RX0 TX0 2 ∈ WW := inWW (tb_1 _ (List.mem_of_getElem? (i := 155) rfl)) rfl
theorem ku_X0_3 : u_lay RX0 TX0 3 ∈ WW := inWW (tb_1 _ (List.mem_of_getElem? (i := 157) rfl)) rfl
theorem ku_X0_4 : u_lay RX0 TX0 4 ∈ WW := inWW (tb_1 _ (List.mem_of_getElem? (i := 159) rfl)) rfl
theorem ku_X0_5 : u_lay RX0 TX0 5 ∈ WW := inWW (tb_1 _ (List.mem_of_getElem? (i := 161) rfl)) rfl
theorem ku_X0_6 : u_lay RX0 TX0 6 ∈ WW := inWW (tb_1 _ (List.mem_of_getElem? (i := 163) rfl)) rfl
theorem i_X0 : ∀ w ∈ wsX00, w ∈ WW := by
  intro w hw
  obtain ⟨k, hk, rfl⟩ := List.mem_map.mp hw
  have hk := List.mem_range.mp hk
  match k, hk with
  | 0, _ => exact ku_X0_0
  | 1, _ => exact ku_X0_1
  | 2, _ => exact ku_X0_2
  | 3, _ => exact ku_X0_3
  | 4, _ => exact ku_X0_4
  | 5, _ => exact ku_X0_5
  | 6, _ => exact ku_X0_6
  | k + 7, hk => exact absurd hk (by omega)
theorem ku_X1_0 : u_lay RX1 TX1 0 ∈ WW := inWW (tb_2 _ (List.mem_of_getElem? (i := 121) rfl)) rfl
theorem ku_X1_1 : u_lay RX1 TX1 1 ∈ WW := inWW (tb_2 _ (List.mem_of_getElem? (i := 123) rfl)) rfl
theorem ku_X1_2 : u_lay RX1 TX1 2 ∈ WW := inWW (tb_2 _ (List.mem_of_getElem? (i := 125) rfl)) rfl
theorem ku_X1_3 : u_lay RX1 TX1 3 ∈ WW := inWW (tb_2 _ (List.mem_of_getElem? (i := 127) rfl)) rfl
theorem ku_X1_4 : u_lay RX1 TX1 4 ∈ WW := inWW (tb_2 _ (List.mem_of_getElem? (i := 129) rfl)) rfl
theorem ku_X1_5 : u_lay RX1 TX1 5 ∈ WW := inWW (tb_2 _ (List.mem_of_getElem? (i := 131) rfl)) rfl
theorem ku_X1_6 : u_lay RX1 TX1 6 ∈ WW := inWW (tb_2 _ (List.mem_of_getElem? (i := 133) rfl)) rfl
theorem ku_X1_7 : u_lay RX1 TX1 7 ∈ WW := inWW (tb_2 _ (List.mem_of_getElem? (i := 135) rfl)) rfl
theorem ku_X1_8 : u_lay RX1 TX1 8 ∈ WW := inWW (tb_2 _ (List.mem_of_getElem? (i := 137) rfl)) rfl
theorem ku_X1_9 : u_lay RX1 TX1 9 ∈ WW := inWW (tb_2 _ (List.mem_of_getElem? (i := 139) rfl)) rfl
theorem i_X1 : ∀ w ∈ wsX10, w ∈ WW := by
  intro w hw
  obtain ⟨k, hk, rfl⟩ := List.mem_map.mp hw
  have hk := List.mem_range.mp hk
  match k, hk with
  | 0, _ => exact ku_X1_0
  | 1, _ => exact ku_X1_1
  | 2, _ => exact ku_X1_2
  | 3, _ => exact ku_X1_3
  | 4, _ => exact ku_X1_4
  | 5, _ => exact ku_X1_5
  | 6, _ => exact ku_X1_6
  | 7, _ => exact ku_X1_7
  | 8, _ => exact ku_X1_8
  | 9, _ => exact ku_X1_9
  | k + 10, hk => exact absurd hk (by omega)
theorem ku_X2_0 : u_lay RX2 TX2 0 ∈ WW := inWW (tb_2 _ (List.mem_of_getElem? (i := 183) rfl)) rfl
theorem ku_X2_1 : u_lay RX2 TX2 1 ∈ WW := inWW (tb_2 _ (List.mem_of_getElem? (i := 185) rfl)) rfl
theorem ku_X2_2 : u_lay RX2 TX2 2 ∈ WW := inWW (tb_2 _ (List.mem_of_getElem? (i := 187) rfl)) rfl
theorem ku_X2_3 : u_lay RX2 TX2 3 ∈ WW := inWW (tb_2 _ (List.mem_of_getElem? (i := 189) rfl)) rfl
theorem ku_X2_4 : u_lay RX2 TX2 4 ∈ WW := inWW (tb_2 _ (List.mem_of_getElem? (i := 191) rfl)) rfl
theorem ku_X2_5 : u_lay RX2 TX2 5 ∈ WW := inWW (tb_2 _ (List.mem_of_getElem? (i := 193) rfl)) rfl
theorem ku_X2_6 : u_lay RX2 TX2 6 ∈ WW := inWW (tb_2 _ (List.mem_of_getElem? (i := 195) rfl)) rfl
theorem ku_X2_7 : u_lay RX2 TX2 7 ∈ WW := inWW (tb_2 _ (List.mem_of_getElem? (i := 197) rfl)) rfl
theorem ku_X2_8 : u_lay RX2 TX2 8 ∈ WW := inWW (tb_2 _ (List.mem_of_getElem? (i := 199) rfl)) rfl
theorem i_X2 : ∀ w ∈ wsX20, w ∈ WW := by
  intro w hw
  obtain ⟨k, hk, rfl⟩ := List.mem_map.mp hw
  have hk := List.mem_range.mp hk
  match k, hk with
  | 0, _ => exact ku_X2_0
  | 1, _ => exact ku_X2_1
  | 2, _ => exact ku_X2_2
  | 3, _ => exact ku_X2_3
  | 4, _ => exact ku_X2_4
  | 5, _ => exact ku_X2_5
  | 6, _ => exact ku_X2_6
  | 7, _ => exact ku_X2_7
  | 8, _ => exact ku_X2_8
  | k + 9, hk => exact absurd hk (by omega)
theorem ku_X3_0 : u_lay RX3 TX3 0 ∈ WW := inWW (tb_1 _ (List.mem_of_getElem? (i := 115) rfl)) rfl
theorem ku_X3_1 : u_lay RX3 TX3 1 ∈ WW := inWW (tb_1 _ (List.mem_of_getElem? (i := 117) rfl)) rfl
theorem ku_X3_2 : u_lay RX3 TX3 2 ∈ WW := inWW (tb_1 _ (List.mem_of_getElem? (i := 119) rfl)) rfl
theorem ku_X3_3 : u_lay RX3 TX3 3 ∈ WW := inWW (tb_1 _ (List.mem_of_getElem? (i := 121) rfl)) rfl
theorem ku_X3_4 : u_lay RX3 TX3 4 ∈ WW := inWW (tb_1 _ (List.mem_of_getElem? (i := 123) rfl)) rfl
theorem ku_X3_5 : u_lay RX3 TX3 5 ∈ WW := inWW (tb_1 _ (List.mem_of_getElem? (i := 125) rfl)) rfl
theorem i_X3 : ∀ w ∈ wsX30, w ∈ WW := by
  intro w hw
  obtain ⟨k, hk, rfl⟩ := List.mem_map.mp hw
  have hk := List.mem_range.mp hk
  match k, hk with
  | 0, _ => exact ku_X3_0
  | 1, _ => exact ku_X3_1
  | 2, _ => exact ku_X3_2
  | 3, _ => exact ku_X3_3
  | 4, _ => exact ku_X3_4
  | 5, _ => exact ku_X3_5
  | k + 6, hk => exact absurd hk (by omega)
theorem ku_X4_0 : u_lay RX4 TX4 0 ∈ WW := inWW (tb_2 _ (List.mem_of_getElem? (i := 81) rfl)) rfl
theorem ku_X4_1 : u_lay RX4 TX4 1 ∈ WW := inWW (tb_2 _ (List.mem_of_getElem? (i := 83) rfl)) rfl
theorem ku_X4_2 : u_lay RX4 TX4 2 ∈ WW := inWW (tb_2 _ (List.mem_of_getElem? (i := 85) rfl)) rfl
theorem ku_X4_3 : u_lay RX4 TX4 3 ∈ WW := inWW (tb_2 _ (List.mem_of_getElem? (i := 87) rfl)) rfl
theorem ku_X4_4 : u_lay RX4 TX4 4 ∈ WW := inWW (tb_2 _ (List.mem_of_getElem? (i := 89) rfl)) rfl
theorem ku_X4_5 : u_lay RX4 TX4 5 ∈ WW := inWW (tb_2 _ (List.mem_of_getElem? (i := 91) rfl)) rfl
theorem ku_X4_6 : u_lay RX4 TX4 6 ∈ WW := inWW (tb_2 _ (List.mem_of_getElem? (i := 93) rfl)) rfl
theorem i_X4 : ∀ w ∈ wsX40, w ∈ WW := by
  intro w hw
  obtain ⟨k, hk, rfl⟩ := List.mem_map.mp hw
  have hk := List.mem_range.mp hk
  match k, hk with
  | 0, _ => exact ku_X4_0
  | 1, _ => exact ku_X4_1
  | 2, _ => exact ku_X4_2
  | 3, _ => exact ku_X4_3
  | 4, _ => exact ku_X4_4
  | 5, _ => exact ku_X4_5
  | 6, _ => exact ku_X4_6
  | k + 7, hk => exact absurd hk (by omega)
theorem ku_X5_0 : u_lay RX5 TX5 0 ∈ WW := inWW (tb_1 _ (List.mem_of_getElem? (i := 174) rfl)) rfl
theorem ku_X5_1 : u_lay RX5 TX5 1 ∈ WW := inWW (tb_1 _ (List.mem_of_getElem? (i := 176) rfl)) rfl
theorem ku_X5_2 : u_lay RX5 TX5 2 ∈ WW := inWW (tb_1 _ (List.mem_of_getElem? (i := 178) rfl)) rfl
theorem ku_X5_3 : u_lay RX5 TX5 3 ∈ WW := inWW (tb_1 _ (List.mem_of_getElem? (i := 180) rfl)) rfl
theorem ku_X5_4 : u_lay RX5 TX5 4 ∈ WW := inWW (tb_1 _ (List.mem_of_getElem? (i := 182) rfl)) rfl
theorem ku_X5_5 : u_lay RX5 TX5 5 ∈ WW := inWW (tb_1 _ (List.mem_of_getElem? (i := 184) rfl)) rfl
theorem i_X5 : ∀ w ∈ wsX50, w ∈ WW := by
  intro w hw
  obtain ⟨k, hk, rfl⟩ := List.mem_map.mp hw
  have hk := List.mem_range.mp hk
  match k, hk with
  | 0, _ => exact ku_X5_0
  | 1, _ => exact ku_X5_1
  | 2, _ => exact ku_X5_2
  | 3, _ => exact ku_X5_3
  | 4, _ => exact ku_X5_4
  | 5, _ => exact ku_X5_5
  | k + 6, hk => exact absurd hk (by omega)
theorem ku_X6_0 : u_lay RX6 TX6 0 ∈ WW := inWW (tb_1 _ (List.mem_of_getElem? (i := 90) rfl)) rfl
theorem ku_X6_1 : u_lay RX6 TX6 1 ∈ WW := inWW (tb_1 _ (List.mem_of_getElem? (i := 92) rfl)) rfl
theorem ku_X6_2 : u_lay RX6 TX6 2 ∈ WW := inWW (tb_1 _ (List.mem_of_getElem? (i := 94) rfl)) rfl
theorem i_X6 : ∀ w ∈ wsX60, w ∈ WW := by
  intro w hw
  obtain ⟨k, hk, rfl⟩ := List.mem_map.mp hw
  have hk := List.mem_range.mp hk
  match k, hk with
  | 0, _ => exact ku_X6_0
  | 1, _ => exact ku_X6_1
  | 2, _ => exact ku_X6_2
  | k + 3, hk => exact absurd hk (by omega)
theorem ku_X7_0 : u_lay RX7 TX7 0 ∈ WW := inWW (tb_1 _ (List.mem_of_getElem? (i := 63) rfl)) rfl
theorem ku_X7_1 : u_lay RX7 TX7 1 ∈ WW := inWW (tb_1 _ (List.mem_of_getElem? (i := 65) rfl)) rfl
theorem ku_X7_2 : u_lay RX7 TX7 2 ∈ WW := inWW (tb_1 _ (List.mem_of_getElem? (i := 67) rfl)) rfl
theorem i_X7 : ∀ w ∈ wsX70, w ∈ WW := by
  intro w hw
  obtain ⟨k, hk, rfl⟩ := List.mem_map.mp hw
  have hk := List.mem_range.mp hk
  match k, hk with
  | 0, _ => exact ku_X7_0
  | 1, _ => exact ku_X7_1
  | 2, _ => exact ku_X7_2
  | k + 3, hk => exact absurd hk (by omega)
theorem ku_X8_0 : u_lay RX8 TX8 0 ∈ WW := inWW (tb_1 _ (List.mem_of_getElem? (i := 39) rfl)) rfl
theorem ku_X8_1 : u_lay RX8 TX8 1 ∈ WW := inWW (tb_1 _ (List.mem_of_getElem? (i := 41) rfl)) rfl
theorem ku_X8_2 : u_lay RX8 TX8 2 ∈ WW := inWW (tb_1 _ (List.mem_of_getElem? (i := 43) rfl)) rfl
theorem ku_X8_3 : u_lay RX8 TX8 3 ∈ WW := inWW (tb_1 _ (List.mem_of_getElem? (i := 45) rfl)) rfl
theorem ku_X8_4 : u_lay RX8 TX8 4 ∈ WW := inWW (tb_1 _ (List.mem_of_getElem? (i := 47) rfl)) rfl
theorem i_X8 : ∀ w ∈ wsX80, w ∈ WW := by
  intro w hw
  obtain ⟨k, hk, rfl⟩ := List.mem_map.mp hw
  have hk := List.mem_range.mp hk
  match k, hk with
  | 0, _ => exact ku_X8_0
  | 1, _ => exact ku_X8_1
  | 2, _ => exact ku_X8_2
  | 3, _ => exact ku_X8_3
  | 4, _ => exact ku_X8_4
  | k + 5, hk => exact absurd hk (by omega)
theorem ku_X9_0 : u_lay RX9 TX9 0 ∈ WW := inWW (tb_1 _ (List.mem_of_getElem? (i := 199) rfl)) rfl
theorem ku_X9_1 : u_lay RX9 TX9 1 ∈ WW := inWW (tb_1 _ (List.mem_of_getElem? (i := 201) rfl)) rfl
theorem ku_X9_2 : u_lay RX9 TX9 2 ∈ WW := inWW (tb_1 _ (List.mem_of_getElem? (i := 203) rfl)) rfl
theorem ku_X9_3 : u_lay RX9 TX9 3 ∈ WW := inWW (tb_1 _ (List.mem_of_getElem? (i := 205) rfl)) rfl
theorem ku_X9_4 : u_lay RX9 TX9 4 ∈ WW := inWW (tb_1 _ (List.mem_of_getElem? (i := 207) rfl)) rfl
theorem ku_X9_5 : u_lay RX9 TX9 5 ∈ WW := inWW (tb_1 _ (List.mem_of_getElem? (i := 209) rfl)) rfl
theorem ku_X9_6 : u_lay RX9 TX9 6 ∈ WW := inWW (tb_1 _ (List.mem_of_getElem? (i := 211) rfl)) rfl
theorem ku_X9_7 : u_lay RX9 TX9 7 ∈ WW := inWW (tb_1 _ (List.mem_of_getElem? (i := 213) rfl)) rfl
theorem ku_X9_8 : u_lay RX9 TX9 8 ∈ WW := inWW (tb_1 _ (List.mem_of_getElem? (i := 215) rfl)) rfl
theorem ku_X9_9 : u_lay RX9 TX9 9 ∈ WW := inWW (tb_1 _ (List.mem_of_getElem? (i := 217) rfl)) rfl
theorem ku_X9_10 : u_lay RX9 TX9 10 ∈ WW := inWW (tb_1 _ (List.mem_of_getElem? (i := 219) rfl)) rfl
theorem ku_X9_11 : u_lay RX9 TX9 11 ∈ WW := inWW (tb_1 _ (List.mem_of_getElem? (i := 221) rfl)) rfl
theorem i_X9 : ∀ w ∈ wsX90, w ∈ WW := by
  intro w hw
  obtain ⟨k, hk, rfl⟩ := List.mem_map.mp hw
  have hk := List.mem_range.mp hk
  match k, hk with
  | 0, _ => exact ku_X9_0
  | 1, _ => exact ku_X9_1
  | 2, _ => exact ku_X9_2
  | 3, _ => exact ku_X9_3
  | 4, _ => exact ku_X9_4
  | 5, _ => exact ku_X9_5
  | 6, _ => exact ku_X9_6
  | 7, _ => exact ku_X9_7
  | 8, _ => exact ku_X9_8
  | 9, _ => exact ku_X9_9
  | 10, _ => exact ku_X9_10
  | 11, _ => exact ku_X9_11
  | k + 12, hk => exact absurd hk (by omega)
theorem ku_X10_0 : u_lay RX10 TX10 0 ∈ WW := inWW (tb_4 _ (List.mem_of_getElem? (i := 118) rfl)) rfl
theorem ku_X10_1 : u_lay RX10 TX10 1 ∈ WW := inWW (tb_4 _ (List.mem_of_getElem? (i := 120) rfl)) rfl
theorem ku_X10_2 : u_lay RX10 TX10 2 ∈ WW := inWW (tb_4 _ (List.mem_of_getElem? (i := 122) rfl)) rfl
theorem ku_X10_3 : u_lay RX10 TX10 3 ∈ WW := inWW (tb_4 _ (List.mem_of_getElem? (i := 124) rfl)) rfl
theorem ku_X10_4 : u_lay RX10 TX10 4 ∈ WW := inWW (tb_4 _ (List.mem_of_getElem? (i := 126) rfl)) rfl
theorem ku_X10_5 : u_lay RX10 TX10 5 ∈ WW := inWW (tb_4 _ (List.mem_of_getElem? (i := 128) rfl)) rfl
theorem ku_X10_6 : u_lay RX10 TX10 6 ∈ WW := inWW (tb_4 _ (List.mem_of_getElem? (i := 130) rfl)) rfl
theorem ku_X10_7 : u_lay RX10 TX10 7 ∈ WW := inWW (tb_4 _ (List.mem_of_getElem? (i := 132) rfl)) rfl
theorem ku_X10_8 : u_lay RX10 TX10 8 ∈ WW := inWW (tb_4 _ (List.mem_of_getElem? (i := 134) rfl)) rfl
theorem ku_X10_9 : u_lay RX10 TX10 9 ∈ WW := inWW (tb_4 _ (List.mem_of_getElem? (i := 136) rfl)) rfl
theorem ku_X10_10 : u_lay RX10 TX10 10 ∈ WW := inWW (tb_4 _ (List.mem_of_getElem? (i := 138) rfl)) rfl
theorem ku_X10_11 : u_lay RX10 TX10 11 ∈ WW := inWW (tb_4 _ (List.mem_of_getElem? (i := 140) rfl)) rfl
theorem ku_X10_12 : u_lay RX10 TX10 12 ∈ WW := inWW (tb_4 _ (List.mem_of_getElem? (i := 142) rfl)) rfl
theorem ku_X10_13 : u_lay RX10 TX10 13 ∈ WW := inWW (tb_4 _ (List.mem_of_getElem? (i := 144) rfl)) rfl
theorem ku_X10_14 : u_lay RX10 TX10 14 ∈ WW := inWW (tb_4 _ (List.mem_of_getElem? (i := 146) rfl)) rfl
theorem ku_X10_15 : u_lay RX10 TX10 15 ∈ WW := inWW (tb_4 _ (List.mem_of_getElem? (i := 148) rfl)) rfl
theorem ku_X10_16 : u_lay RX10 TX10 16 ∈ WW := inWW (tb_4 _ (List.mem_of_getElem? (i := 150) rfl)) rfl
theorem ku_X10_17 : u_lay RX10 TX10 17 ∈ WW := inWW (tb_4 _ (List.mem_of_getElem? (i := 152) rfl)) rfl
theorem ku_X10_18 : u_lay RX10 TX10 18 ∈ WW := inWW (tb_4 _ (List.mem_of_getElem? (i := 154) rfl)) rfl
theorem ku_X10_19 : u_lay RX10 TX10 19 ∈ WW := inWW (tb_4 _ (List.mem_of_getElem? (i := 156) rfl)) rfl
theorem ku_X10_20 : u_lay RX10 TX10 20 ∈ WW := inWW (tb_4 _ (List.mem_of_getElem? (i := 158) rfl)) rfl
theorem ku_X10_21 : u_lay RX10 TX10 21 ∈ WW := inWW (tb_4 _ (List.mem_of_getElem? (i := 160) rfl)) rfl
theorem ku_X10_22 : u_lay RX10 TX10 22 ∈ WW := inWW (tb_4 _ (List.mem_of_getElem? (i := 162) rfl)) rfl
theorem ku_X10_23 : u_lay RX10 TX10 23 ∈ WW := inWW (tb_4 _ (List.mem_of_getElem? (i := 164) rfl)) rfl
theorem ku_X10_24 : u_lay RX10 TX10 24 ∈ WW := inWW (tb_4 _ (List.mem_of_getElem? (i := 166) rfl)) rfl
theorem ku_X10_25 : u_lay RX10 TX10 25 ∈ WW := inWW (tb_4 _ (List.mem_of_getElem? (i := 168) rfl)) rfl
theorem ku_X10_26 : u_lay RX10 TX10 26 ∈ WW := inWW (tb_4 _ (List.mem_of_getElem? (i := 170) rfl)) rfl
theorem ku_X10_27 : u_lay RX10 TX10 27 ∈ WW := inWW (tb_4 _ (List.mem_of_getElem? (i := 172) rfl)) rfl
theorem ku_X10_28 : u_lay RX10 TX10 28 ∈ WW := inWW (tb_4 _ (List.mem_of_getElem? (i := 174) rfl)) rfl
theorem ku_X10_29 : u_lay RX10 TX10 29 ∈ WW := inWW (tb_4 _ (List.mem_of_getElem? (i := 176) rfl)) rfl
theorem ku_X10_30 : u_lay RX10 TX10 30 ∈ WW := inWW (tb_4 _ (List.mem_of_getElem? (i := 178) rfl)) rfl
theorem ku_X10_31 : u_lay RX10 TX10 31 ∈ WW := inWW (tb_4 _ (List.mem_of_getElem? (i := 180) rfl)) rfl
theorem ku_X10_32 : u_lay RX10 TX10 32 ∈ WW := inWW (tb_4 _ (List.mem_of_getElem? (i := 182) rfl)) rfl
theorem ku_X10_33 : u_lay RX10 TX10 33 ∈ WW := inWW (tb_4 _ (List.mem_of_getElem? (i := 184) rfl)) rfl
theorem ku_X10_34 : u_lay RX10 TX10 34 ∈ WW := inWW (tb_4 _ (List.mem_of_getElem? (i := 186) rfl)) rfl
theorem ku_X10_35 : u_lay RX10 TX10 35 ∈ WW := inWW (tb_4 _ (List.mem_of_getElem? (i := 188) rfl)) rfl
theorem ku_X10_36 : u_lay RX10 TX10 36 ∈ WW := inWW (tb_4 _ (List.mem_of_getElem? (i := 190) rfl)) rfl
theorem ku_X10_37 : u_lay RX10 TX10 37 ∈ WW := inWW (tb_4 _ (List.mem_of_getElem? (i := 192) rfl)) rfl
theorem ku_X10_38 : u_lay RX10 TX10 38 ∈ WW := inWW (tb_4 _ (List.mem_of_getElem? (i := 194) rfl)) rfl
theorem i_X10 : ∀ w ∈ wsX100, w ∈ WW := by
  intro w hw
  obtain ⟨k, hk, rfl⟩ := List.mem_map.mp hw
  have hk := List.mem_range.mp hk
  match k, hk with
  | 0, _ => exact ku_X10_0
  | 1, _ => exact ku_X10_1
  | 2, _ => exact ku_X10_2
  | 3, _ => exact ku_X10_3
  | 4, _ => exact ku_X10_4
  | 5, _ => exact ku_X10_5
  | 6, _ => exact ku_X10_6
  | 7, _ => exact ku_X10_7
  | 8, _ => exact ku_X10_8
  | 9, _ => exact ku_X10_9
  | 10, _ => exact ku_X10_10
  | 11, _ => exact ku_X10_11
  | 12, _ => exact ku_X10_12
  | 13, _ => exact ku_X10_13
  | 14, _ => exact ku_X10_14
  | 15, _ => exact ku_X10_15
  | 16, _ => exact ku_X10_16
  | 17, _ => exact ku_X10_17
  | 18, _ => exact ku_X10_18
  | 19, _ => exact ku_X10_19
  | 20, _ => exact ku_X10_20
  | 21, _ => exact ku_X10_21
  | 22, _ => exact ku_X10_22
  | 23, _ => exact ku_X10_23
  | 24, _ => exact ku_X10_24
  | 25, _ => exact ku_X10_25
  | 26, _ => exact ku_X10_26
  | 27, _ => exact ku_X10_27
  | 28, _ => exact ku_X10_28
  | 29, _ => exact ku_X10_29
  | 30, _ => exact ku_X10_30
  | 31, _ => exact ku_X10_31
  | 32, _ => exact ku_X10_32
  | 33, _ => exact ku_X10_33
  | 34, _ => exact ku_X10_34
  | 35, _ => exact ku_X10_35
  | 36, _ => exact ku_X10_36
  | 37, _ => exact ku_X10_37
  | 38, _ => exact ku_X10_38
  | k + 39, hk => exact absurd hk (by omega)
theorem gr_X8_29 : GoodIn WW (va_wsS RX8 29 yJ7_fill_53178 wsJ7_fill_53178) := gw_S km_X8_29 kt_J7_fill_53178 kz_J7 kc_J7_fill_53178
theorem gr_L_13 : GoodIn WW (wsV RL 13 RX9 yX9_parent wsX9_parent) := gw_V km_L_13 ki_X9_parent ks_X9_parent kz_X9 kc_X9_parent
theorem gr_X9_73 : GoodIn WW (va_wsS RX9 73 yX9_isClass wsX9_isClass) := gw_S km_X9_73 kt_X9_isClass kz_X9 kc_X9_isClass
theorem gr_L_18 : GoodIn WW (wsV RL 18 RX9 yX9_trait wsX9_trait) := gw_V km_L_18 ki_X9_trait ks_X9_trait kz_X9 kc_X9_trait
theorem gr_X9_84 : GoodIn WW (va_wsS RX9 84 yX9_isTrait wsX9_isTrait) := gw_S km_X9_84 kt_X9_isTrait kz_X9 kc_X9_isTrait
theorem gr_X9_87 : GoodIn WW (wsV RX9 87 RX8 yX8_addTrait wsX8_addTrait) := gw_V km_X9_87 ki_X8_addTrait ks_X8_addTrait kz_X8 kc_X8_addTrait
theorem gr_L_22 : GoodIn WW (wsV RL 22 RX9 yX9_has wsX9_has) := gw_V km_L_22 ki_X9_has ks_X9_has kz_X9 kc_X9_has
theorem gr_L_26 : GoodIn WW (wsV RL 26 RX9 yX9_flag wsX9_flag) := gw_V km_L_26 ki_X9_flag ks_X9_flag kz_X9 kc_X9_flag
theorem gr_X9_91 : GoodIn WW (wsV RX9 91 RX8 yX8_isAbstract wsX8_isAbstract) := gw_V km_X9_91 ki_X8_isAbstract ks_X8_isAbstract kz_X8 kc_X8_isAbstract
theorem gr_L_31 : GoodIn WW (wsV RL 31 RX9 yX9_close wsX9_close) := gw_V km_L_31 ki_X9_close ks_X9_close kz_X9 kc_X9_close
theorem gr_X9_97 : GoodIn WW (wsV RX9 97 RX8 yX8_findReach wsX8_findReach) := gw_V km_X9_97 ki_X8_findReach ks_X8_findReach kz_X8 kc_X8_findReach
theorem gr_X9_100 : GoodIn WW (wsV RX9 100 RX8 yX8_goesRound wsX8_goesRound) := gw_V km_X9_100 ki_X8_goesRound ks_X8_goesRound kz_X8 kc_X8_goesRound
theorem gr_L_36 : GoodIn WW (wsV RL 36 RX9 yX9_below wsX9_below) := gw_V km_L_36 ki_X9_below ks_X9_below kz_X9 kc_X9_below
theorem gr_X9_104 : GoodIn WW (va_wsS RX9 104 yX9_isCode wsX9_isCode) := gw_S km_X9_104 kt_X9_isCode kz_X9 kc_X9_isCode
theorem gr_X9_107 : GoodIn WW (wsV RX9 107 RX8 yX8_isBelow wsX8_isBelow) := gw_V km_X9_107 ki_X8_isBelow ks_X8_isBelow kz_X8 kc_X8_isBelow
theorem gr_L_41 : GoodIn WW (wsV RL 41 RX9 yX9_sample wsX9_sample) := gw_V km_L_41 ki_X9_sample ks_X9_sample kz_X9 kc_X9_sample
theorem gr_X9_111 : GoodIn WW (wsV RX9 111 RX7 yX7_bring wsX7_bring) := gw_V km_X9_111 ki_X7_bring ks_X7_bring kz_X7 kc_X7_bring
theorem gr_L_45 : GoodIn WW (wsV RL 45 RX9 yX9_of wsX9_of) := gw_V km_L_45 ki_X9_of ks_X9_of kz_X9 kc_X9_of
theorem gr_X9_114 : GoodIn WW (wsV RX9 114 RX7 yX7_holds wsX7_holds) := gw_V km_X9_114 ki_X7_holds ks_X7_holds kz_X7 kc_X7_holds
theorem gr_L_49 : GoodIn WW (wsV RL 49 RX9 yX9_samples wsX9_samples) := gw_V km_L_49 ki_X9_samples ks_X9_samples kz_X9 kc_X9_samples
theorem gr_L_53 : GoodIn WW (wsV RL 53 RX9 yX9_function wsX9_function) := gw_V km_L_53 ki_X9_function ks_X9_function kz_X9 kc_X9_function
theorem gr_L_57 : GoodIn WW (wsV RL 57 RX9 yX9_handler wsX9_handler) := gw_V km_L_57 ki_X9_handler ks_X9_handler kz_X9 kc_X9_handler
theorem gr_X9_129 : GoodIn WW (wsV RX9 129 RX9 yX9_functionAt wsX9_functionAt) := gw_V km_X9_129 ki_X9_functionAt ks_X9_functionAt kz_X9 kc_X9_functionAt
theorem gr_X2_47 : GoodIn WW (va_wsS RX2 47 yJ7_fill_53178 wsJ7_fill_53178) := gw_S km_X2_47 kt_J7_fill_53178 kz_J7 kc_J7_fill_53178
theorem gr_L_62 : GoodIn WW (wsV RL 62 RX9 yX9_place wsX9_place) := gw_V km_L_62 ki_X9_place ks_X9_place kz_X9 kc_X9_place
theorem gr_X9_136 : GoodIn WW (wsV RX9 136 RX9 yX9_handlerAt wsX9_handlerAt) := gw_V km_X9_136 ki_X9_handlerAt ks_X9_handlerAt kz_X9 kc_X9_handlerAt
theorem gr_X9_144 : GoodIn WW (wsV RX9 144 RX1 yX1_hasPlace wsX1_hasPlace) := gw_V km_X9_144 ki_X1_hasPlace ks_X1_hasPlace kz_X1 kc_X1_hasPlace
theorem gr_L_67 : GoodIn WW (wsV RL 67 RX9 yX9_test wsX9_test) := gw_V km_L_67 ki_X9_test ks_X9_test kz_X9 kc_X9_test
theorem gr_L_72 : GoodIn WW (wsV RL 72 RX9 yX9_lay wsX9_lay) := gw_V km_L_72 ki_X9_lay ks_X9_lay kz_X9 kc_X9_lay
theorem gr_X9_162 : GoodIn WW (wsV RX9 162 RX1 yX1_hasLaidSame wsX1_hasLaidSame) := gw_V km_X9_162 ki_X1_hasLaidSame ks_X1_hasLaidSame kz_X1 kc_X1_hasLaidSame
theorem gr_X1_60 : GoodIn WW (wsV RX1 60 RX2 yX2_isSameAs wsX2_isSameAs) := gw_V km_X1_60 ki_X2_isSameAs ks_X2_isSameAs kz_X2 kc_X2_isSameAs
theorem gr_X2_81 : GoodIn WW (wsV RX2 81 RX2 yX2_isSameAt wsX2_isSameAt) := gw_V km_X2_81 ki_X2_isSameAt ks_X2_isSameAt kz_X2 kc_X2_isSameAt
theorem gr_X9_166 : GoodIn WW (wsV RX9 166 RX1 yX1_putLaid wsX1_putLaid) := gw_V km_X9_166 ki_X1_putLaid ks_X1_putLaid kz_X1 kc_X1_putLaid
theorem gr_X1_64 : GoodIn WW (wsV RX1 64 RX1 yX1_compareLaid wsX1_compareLaid) := gw_V km_X1_64 ki_X1_compareLaid ks_X1_compareLaid kz_X1 kc_X1_compareLaid
theorem gr_X1_67 : GoodIn WW (wsV RX1 67 RX2 yX2_isMoreSpecific wsX2_isMoreSpecific) := gw_V km_X1_67 ki_X2_isMoreSpecific ks_X2_isMoreSpecific kz_X2 kc_X2_isMoreSpecific
theorem gr_X2_85 : GoodIn WW (wsV RX2 85 RX2 yX2_isNarrowerAt wsX2_isNarrowerAt) := gw_V km_X2_85 ki_X2_isNarrowerAt ks_X2_isNarrowerAt kz_X2 kc_X2_isNarrowerAt
theorem gr_X2_61 : GoodIn WW (wsV RX2 61 RX8 yX8_isBelow wsX8_isBelow) := gw_V km_X2_61 ki_X8_isBelow ks_X8_isBelow kz_X8 kc_X8_isBelow
theorem gr_X1_70 : GoodIn WW (wsV RX1 70 RX1 yX1_putInOrder wsX1_putInOrder) := gw_V km_X1_70 ki_X1_putInOrder ks_X1_putInOrder kz_X1 kc_X1_putInOrder
theorem gr_X1_76 : GoodIn WW (wsV RX1 76 RX1 yX1_beatenByAny wsX1_beatenByAny) := gw_V km_X1_76 ki_X1_beatenByAny ks_X1_beatenByAny kz_X1 kc_X1_beatenByAny
theorem gr_X1_73 : GoodIn WW (wsV RX1 73 RX4 yX4_forget wsX4_forget) := gw_V km_X1_73 ki_X4_forget ks_X4_forget kz_X4 kc_X4_forget
theorem gr_L_76 : GoodIn WW (wsV RL 76 RX9 yX9_lift wsX9_lift) := gw_V km_L_76 ki_X9_lift ks_X9_lift kz_X9 kc_X9_lift
theorem gr_X9_169 : GoodIn WW (wsV RX9 169 RX1 yX1_dropLaid wsX1_dropLaid) := gw_V km_X9_169 ki_X1_dropLaid ks_X1_dropLaid kz_X1 kc_X1_dropLaid
theorem gr_L_80 : GoodIn WW (wsV RL 80 RX9 yX9_freeze wsX9_freeze) := gw_V km_L_80 ki_X9_freeze ks_X9_freeze kz_X9 kc_X9_freeze
theorem gr_L_85 : GoodIn WW (wsV RL 85 RX9 yX9_about wsX9_about) := gw_V km_L_85 ki_X9_about ks_X9_about kz_X9 kc_X9_about
theorem gr_X9_185 : GoodIn WW (va_wsS RX9 185 yX9_elementOrZero wsX9_elementOrZero) := gw_S km_X9_185 kt_X9_elementOrZero kz_X9 kc_X9_elementOrZero
theorem gr_L_89 : GoodIn WW (wsV RL 89 RX9 yX9_dominates wsX9_dominates) := gw_V km_L_89 ki_X9_dominates ks_X9_dominates kz_X9 kc_X9_dominates
theorem gr_X9_189 : GoodIn WW (wsV RX9 189 RX2 yX2_isMoreSpecific wsX2_isMoreSpecific) := gw_V km_X9_189 ki_X2_isMoreSpecific ks_X2_isMoreSpecific kz_X2 kc_X2_isMoreSpecific
theorem gr_L_93 : GoodIn WW (wsV RL 93 RX9 yX9_order wsX9_order) := gw_V km_L_93 ki_X9_order ks_X9_order kz_X9 kc_X9_order
theorem gr_X9_198 : GoodIn WW (wsV RX9 198 RX1 yX1_numberAt wsX1_numberAt) := gw_V km_X9_198 ki_X1_numberAt ks_X1_numberAt kz_X1 kc_X1_numberAt
theorem gr_X1_52 : GoodIn WW (wsV RX1 52 RX1 yX1_laidAt wsX1_laidAt) := gw_V km_X1_52 ki_X1_laidAt ks_X1_laidAt kz_X1 kc_X1_laidAt
theorem gr_L_97 : GoodIn WW (wsV RL 97 RX9 yX9_arg wsX9_arg) := gw_V km_L_97 ki_X9_arg ks_X9_arg kz_X9 kc_X9_arg
theorem gr_L_101 : GoodIn WW (wsV RL 101 RX9 yX9_call wsX9_call) := gw_V km_L_101 ki_X9_call ks_X9_call kz_X9 kc_X9_call
theorem gr_X9_202 : GoodIn WW (wsV RX9 202 RX9 yX9_readToldRow wsX9_readToldRow) := gw_V km_X9_202 ki_X9_readToldRow ks_X9_readToldRow kz_X9 kc_X9_readToldRow
theorem gr_X9_206 : GoodIn WW (wsV RX9 206 RX3 yX3_begin wsX3_begin) := gw_V km_X9_206 ki_X3_begin ks_X3_begin kz_X3 kc_X3_begin
theorem gr_X9_212 : GoodIn WW (wsV RX9 212 RX9 yX9_carryOut wsX9_carryOut) := gw_V km_X9_212 ki_X9_carryOut ks_X9_carryOut kz_X9 kc_X9_carryOut
theorem gr_X9_295 : GoodIn WW (wsV RX9 295 RX9 yX9_isBarred wsX9_isBarred) := gw_V km_X9_295 ki_X9_isBarred ks_X9_isBarred kz_X9 kc_X9_isBarred
theorem gr_X9_306 : GoodIn WW (wsV RX9 306 RX6 yX6_weightTogether wsX6_weightTogether) := gw_V km_X9_306 ki_X6_weightTogether ks_X6_weightTogether kz_X6 kc_X6_weightTogether
theorem gr_X9_310 : GoodIn WW (wsV RX9 310 RX1 yX1_takersOf wsX1_takersOf) := gw_V km_X9_310 ki_X1_takersOf ks_X1_takersOf kz_X1 kc_X1_takersOf
theorem gr_X1_89 : GoodIn WW (wsV RX1 89 RX1 yX1_takersOfClass wsX1_takersOfClass) := gw_V km_X1_89 ki_X1_takersOfClass ks_X1_takersOfClass kz_X1 kc_X1_takersOfClass
theorem gr_X1_102 : GoodIn WW (wsV RX1 102 RX2 yX2_takesClass wsX2_takesClass) := gw_V km_X1_102 ki_X2_takesClass ks_X2_takesClass kz_X2 kc_X2_takesClass
theorem gr_X1_95 : GoodIn WW (wsV RX1 95 RX1 yX1_takersOfWeight wsX1_takersOfWeight) := gw_V km_X1_95 ki_X1_takersOfWeight ks_X1_takersOfWeight kz_X1 kc_X1_takersOfWeight
theorem gr_X1_106 : GoodIn WW (wsV RX1 106 RX2 yX2_takesWeight wsX2_takesWeight) := gw_V km_X1_106 ki_X2_takesWeight ks_X2_takesWeight kz_X2 kc_X2_takesWeight
theorem gr_X9_313 : GoodIn WW (wsV RX9 313 RX1 yX1_laidAt wsX1_laidAt) := gw_V km_X9_313 ki_X1_laidAt ks_X1_laidAt kz_X1 kc_X1_laidAt
theorem gr_X9_317 : GoodIn WW (wsV RX9 317 RX3 yX3_addStep wsX3_addStep) := gw_V km_X9_317 ki_X3_addStep ks_X3_addStep kz_X3 kc_X3_addStep
theorem gr_X9_298 : GoodIn WW (wsV RX9 298 RX1 yX1_lookForRow wsX1_lookForRow) := gw_V km_X9_298 ki_X1_lookForRow ks_X1_lookForRow kz_X1 kc_X1_lookForRow
theorem gr_X1_109 : GoodIn WW (wsV RX1 109 RX1 yX1_pieceOf wsX1_pieceOf) := gw_V km_X1_109 ki_X1_pieceOf ks_X1_pieceOf kz_X1 kc_X1_pieceOf
theorem gr_X1_125 : GoodIn WW (va_wsS RX1 125 yJ9_min_f86c9 wsJ9_min_f86c9) := gw_S km_X1_125 kt_J9_min_f86c9 kz_J9 kc_J9_min_f86c9
theorem gr_X1_113 : GoodIn WW (wsV RX1 113 RX4 yX4_look wsX4_look) := gw_V km_X1_113 ki_X4_look ks_X4_look kz_X4 kc_X4_look
theorem gr_X4_35 : GoodIn WW (wsV RX4 35 RX4 yX4_find wsX4_find) := gw_V km_X4_35 ki_X4_find ks_X4_find kz_X4 kc_X4_find
theorem gr_X4_39 : GoodIn WW (wsV RX4 39 RX4 yX4_makeRoom wsX4_makeRoom) := gw_V km_X4_39 ki_X4_makeRoom ks_X4_makeRoom kz_X4 kc_X4_makeRoom
theorem gr_X9_232 : GoodIn WW (wsV RX9 232 RX1 yX1_plainTakersOf wsX1_plainTakersOf) := gw_V km_X9_232 ki_X1_plainTakersOf ks_X1_plainTakersOf kz_X1 kc_X1_plainTakersOf
theorem gr_X1_98 : GoodIn WW (wsV RX1 98 RX1 yX1_takersOf wsX1_takersOf) := gw_V km_X1_98 ki_X1_takersOf ks_X1_takersOf kz_X1 kc_X1_takersOf
theorem gr_X9_302 : GoodIn WW (wsV RX9 302 RX9 yX9_runChosen wsX9_runChosen) := gw_V km_X9_302 ki_X9_runChosen ks_X9_runChosen kz_X9 kc_X9_runChosen
theorem gr_X9_239 : GoodIn WW (wsV RX9 239 RX1 yX1_chosenOf wsX1_chosenOf) := gw_V km_X9_239 ki_X1_chosenOf ks_X1_chosenOf kz_X1 kc_X1_chosenOf
theorem gr_X9_321 : GoodIn WW (wsV RX9 321 RX9 yX9_act wsX9_act) := gw_V km_X9_321 ki_X9_act ks_X9_act kz_X9 kc_X9_act
theorem gr_X9_325 : GoodIn WW (wsV RX9 325 RX3 yX3_endWithValue wsX3_endWithValue) := gw_V km_X9_325 ki_X3_endWithValue ks_X3_endWithValue kz_X3 kc_X3_endWithValue
theorem gr_X9_329 : GoodIn WW (wsV RX9 329 RX3 yX3_endWithFailure wsX3_endWithFailure) := gw_V km_X9_329 ki_X3_endWithFailure ks_X3_endWithFailure kz_X3 kc_X3_endWithFailure
theorem gr_X9_332 : GoodIn WW (va_wsS RX9 332 yJ9_floorMod_7cf53 wsJ9_floorMod_7cf53) := gw_S km_X9_332 kt_J9_floorMod_7cf53 kz_J9 kc_J9_floorMod_7cf53
theorem gr_X9_337 : GoodIn WW (wsV RX9 337 RX9 yX9_countUp wsX9_countUp) := gw_V km_X9_337 ki_X9_countUp ks_X9_countUp kz_X9 kc_X9_countUp
theorem gr_X9_340 : GoodIn WW (wsV RX9 340 RX9 yX9_bringSample wsX9_bringSample) := gw_V km_X9_340 ki_X9_bringSample ks_X9_bringSample kz_X9 kc_X9_bringSample
theorem gr_X9_343 : GoodIn WW (wsV RX9 343 RX9 yX9_calledWithin wsX9_calledWithin) := gw_V km_X9_343 ki_X9_calledWithin ks_X9_calledWithin kz_X9 kc_X9_calledWithin
theorem gr_X9_346 : GoodIn WW (wsV RX9 346 RX6 yX6_turnRound wsX6_turnRound) := gw_V km_X9_346 ki_X6_turnRound ks_X6_turnRound kz_X6 kc_X6_turnRound
theorem gr_X9_292 : GoodIn WW (wsV RX9 292 RX1 yX1_beatenBy wsX1_beatenBy) := gw_V km_X9_292 ki_X1_beatenBy ks_X1_beatenBy kz_X1 kc_X1_beatenBy
theorem gr_L_105 : GoodIn WW (wsV RL 105 RX9 yX9_value wsX9_value) := gw_V km_L_105 ki_X9_value ks_X9_value kz_X9 kc_X9_value
theorem gr_L_110 : GoodIn WW (wsV RL 110 RX9 yX9_failure wsX9_failure) := gw_V km_L_110 ki_X9_failure ks_X9_failure kz_X9 kc_X9_failure
theorem gr_L_114 : GoodIn WW (wsV RL 114 RX9 yX9_step wsX9_step) := gw_V km_L_114 ki_X9_step ks_X9_step kz_X9 kc_X9_step
theorem gr_L_118 : GoodIn WW (wsV RL 118 RX9 yX9_counter wsX9_counter) := gw_V km_L_118 ki_X9_counter ks_X9_counter kz_X9 kc_X9_counter
theorem gr_L_122 : GoodIn WW (wsV RL 122 RX9 yX9_applicable wsX9_applicable) := gw_V km_L_122 ki_X9_applicable ks_X9_applicable kz_X9 kc_X9_applicable
theorem gr_X9_236 : GoodIn WW (va_wsS RX9 236 yX9_memberAt wsX9_memberAt) := gw_S km_X9_236 kt_X9_memberAt kz_X9 kc_X9_memberAt
theorem gr_L_126 : GoodIn WW (wsV RL 126 RX9 yX9_most wsX9_most) := gw_V km_L_126 ki_X9_most ks_X9_most kz_X9 kc_X9_most
theorem gr_L_130 : GoodIn WW (wsV RL 130 RX9 yX9_explain wsX9_explain) := gw_V km_L_130 ki_X9_explain ks_X9_explain kz_X9 kc_X9_explain
theorem gr_X9_242 : GoodIn WW (wsV RX9 242 RX2 yX2_firstRefusingPlace wsX2_firstRefusingPlace) := gw_V km_X9_242 ki_X2_firstRefusingPlace ks_X2_firstRefusingPlace kz_X2 kc_X2_firstRefusingPlace
theorem gr_X2_72 : GoodIn WW (wsV RX2 72 RX2 yX2_takesClass wsX2_takesClass) := gw_V km_X2_72 ki_X2_takesClass ks_X2_takesClass kz_X2 kc_X2_takesClass
theorem gr_X2_78 : GoodIn WW (wsV RX2 78 RX2 yX2_takesWeight wsX2_takesWeight) := gw_V km_X2_78 ki_X2_takesWeight ks_X2_takesWeight kz_X2 kc_X2_takesWeight
theorem gr_X9_245 : GoodIn WW (wsV RX9 245 RX9 yX9_explainAmongTakers wsX9_explainAmongTakers) := gw_V km_X9_245 ki_X9_explainAmongTakers ks_X9_explainAmongTakers kz_X9 kc_X9_explainAmongTakers
theorem gr_X9_286 : GoodIn WW (wsV RX9 286 RX1 yX1_indexOf wsX1_indexOf) := gw_V km_X9_286 ki_X1_indexOf ks_X1_indexOf kz_X1 kc_X1_indexOf
theorem gr_X9_289 : GoodIn WW (wsV RX9 289 RX1 yX1_beatersOf wsX1_beatersOf) := gw_V km_X9_289 ki_X1_beatersOf ks_X1_beatersOf kz_X1 kc_X1_beatersOf
theorem gr_L_134 : GoodIn WW (wsV RL 134 RX9 yX9_where wsX9_where) := gw_V km_L_134 ki_X9_where ks_X9_where kz_X9 kc_X9_where
theorem gr_L_138 : GoodIn WW (wsV RL 138 RX9 yX9_count wsX9_count) := gw_V km_L_138 ki_X9_count ks_X9_count kz_X9 kc_X9_count
theorem gr_X9_249 : GoodIn WW (wsV RX9 249 RX9 yX9_countOfAll wsX9_countOfAll) := gw_V km_X9_249 ki_X9_countOfAll ks_X9_countOfAll kz_X9 kc_X9_countOfAll
theorem gr_L_142 : GoodIn WW (wsV RL 142 RX9 yX9_covered wsX9_covered) := gw_V km_L_142 ki_X9_covered ks_X9_covered kz_X9 kc_X9_covered
theorem gr_X9_265 : GoodIn WW (wsV RX9 265 RX5 yX5_findHole wsX5_findHole) := gw_V km_X9_265 ki_X5_findHole ks_X5_findHole kz_X5 kc_X5_findHole
theorem gr_X5_38 : GoodIn WW (wsV RX5 38 RX5 yX5_fillCells wsX5_fillCells) := gw_V km_X5_38 ki_X5_fillCells ks_X5_fillCells kz_X5 kc_X5_fillCells
theorem gr_X5_34 : GoodIn WW (wsV RX5 34 RX0 yX0_fill wsX0_fill) := gw_V km_X5_34 ki_X0_fill ks_X0_fill kz_X0 kc_X0_fill
theorem gr_X0_34 : GoodIn WW (wsV RX0 34 RX1 yX1_hasPlace wsX1_hasPlace) := gw_V km_X0_34 ki_X1_hasPlace ks_X1_hasPlace kz_X1 kc_X1_hasPlace
theorem gr_X0_43 : GoodIn WW (wsV RX0 43 RX0 yX0_addNew wsX0_addNew) := gw_V km_X0_43 ki_X0_addNew ks_X0_addNew kz_X0 kc_X0_addNew
theorem gr_X0_47 : GoodIn WW (wsV RX0 47 RX0 yX0_findStarts wsX0_findStarts) := gw_V km_X0_47 ki_X0_findStarts ks_X0_findStarts kz_X0 kc_X0_findStarts
theorem gr_X0_71 : GoodIn WW (wsV RX0 71 RX0 yX0_addStart wsX0_addStart) := gw_V km_X0_71 ki_X0_addStart ks_X0_addStart kz_X0 kc_X0_addStart
theorem gr_X0_78 : GoodIn WW (wsV RX0 78 RX1 yX1_laidAt wsX1_laidAt) := gw_V km_X0_78 ki_X1_laidAt ks_X1_laidAt kz_X1 kc_X1_laidAt
theorem gr_X0_95 : GoodIn WW (wsV RX0 95 RX1 yX1_takersOfWeight wsX1_takersOfWeight) := gw_V km_X0_95 ki_X1_takersOfWeight ks_X1_takersOfWeight kz_X1 kc_X1_takersOfWeight
theorem gr_X0_55 : GoodIn WW (wsV RX0 55 RX8 yX8_isAbstract wsX8_isAbstract) := gw_V km_X0_55 ki_X8_isAbstract ks_X8_isAbstract kz_X8 kc_X8_isAbstract
theorem gr_X0_60 : GoodIn WW (wsV RX0 60 RX1 yX1_takersOfClass wsX1_takersOfClass) := gw_V km_X0_60 ki_X1_takersOfClass ks_X1_takersOfClass kz_X1 kc_X1_takersOfClass
theorem gr_X0_64 : GoodIn WW (wsV RX0 64 RX0 yX0_addClass wsX0_addClass) := gw_V km_X0_64 ki_X0_addClass ks_X0_addClass kz_X0 kc_X0_addClass
theorem gr_X5_49 : GoodIn WW (wsV RX5 49 RX1 yX1_chosenOf wsX1_chosenOf) := gw_V km_X5_49 ki_X1_chosenOf ks_X1_chosenOf kz_X1 kc_X1_chosenOf
theorem gr_X5_55 : GoodIn WW (wsV RX5 55 RX5 yX5_foundAt wsX5_foundAt) := gw_V km_X5_55 ki_X5_foundAt ks_X5_foundAt kz_X5 kc_X5_foundAt
theorem gr_L_146 : GoodIn WW (wsV RL 146 RX9 yX9_hole wsX9_hole) := gw_V km_L_146 ki_X9_hole ks_X9_hole kz_X9 kc_X9_hole
theorem gr_X9_270 : GoodIn WW (wsV RX9 270 RX5 yX5_partOfTuple wsX5_partOfTuple) := gw_V km_X9_270 ki_X5_partOfTuple ks_X5_partOfTuple kz_X5 kc_X5_partOfTuple
theorem gr_L_151 : GoodIn WW (wsV RL 151 RX9 yX9_doubt wsX9_doubt) := gw_V km_L_151 ki_X9_doubt ks_X9_doubt kz_X9 kc_X9_doubt
theorem gr_X9_273 : GoodIn WW (wsV RX9 273 RX5 yX5_findDoubt wsX5_findDoubt) := gw_V km_X9_273 ki_X5_findDoubt ks_X5_findDoubt kz_X5 kc_X5_findDoubt
theorem gr_X5_62 : GoodIn WW (wsV RX5 62 RX5 yX5_haveDoubt wsX5_haveDoubt) := gw_V km_X5_62 ki_X5_haveDoubt ks_X5_haveDoubt kz_X5 kc_X5_haveDoubt
theorem gr_X5_69 : GoodIn WW (wsV RX5 69 RX1 yX1_beatenBy wsX1_beatenBy) := gw_V km_X5_69 ki_X1_beatenBy ks_X1_beatenBy kz_X1 kc_X1_beatenBy
theorem gr_X5_72 : GoodIn WW (wsV RX5 72 RX1 yX1_beatersOf wsX1_beatersOf) := gw_V km_X5_72 ki_X1_beatersOf ks_X1_beatersOf kz_X1 kc_X1_beatersOf
theorem gr_L_17 : GoodIn WW (wsV RL 17 RX10 yX10_parent wsX10_parent) := gw_V km_L_17 ki_X10_parent ks_X10_parent kz_X10 kc_X10_parent
theorem gr_X10_106 : GoodIn WW (va_wsS RX10 106 yX10_isClass wsX10_isClass) := gw_S km_X10_106 kt_X10_isClass kz_X10 kc_X10_isClass
theorem gr_L_21 : GoodIn WW (wsV RL 21 RX10 yX10_trait wsX10_trait) := gw_V km_L_21 ki_X10_trait ks_X10_trait kz_X10 kc_X10_trait
theorem gr_X10_114 : GoodIn WW (va_wsS RX10 114 yX10_isTrait wsX10_isTrait) := gw_S km_X10_114 kt_X10_isTrait kz_X10 kc_X10_isTrait
theorem gr_X10_117 : GoodIn WW (wsV RX10 117 RX10 yX10_add wsX10_add) := gw_V km_X10_117 ki_X10_add ks_X10_add kz_X10 kc_X10_add
theorem gr_L_25 : GoodIn WW (wsV RL 25 RX10 yX10_has wsX10_has) := gw_V km_L_25 ki_X10_has ks_X10_has kz_X10 kc_X10_has
theorem gr_L_30 : GoodIn WW (wsV RL 30 RX10 yX10_flag wsX10_flag) := gw_V km_L_30 ki_X10_flag ks_X10_flag kz_X10 kc_X10_flag
theorem gr_L_35 : GoodIn WW (wsV RL 35 RX10 yX10_close wsX10_close) := gw_V km_L_35 ki_X10_close ks_X10_close kz_X10 kc_X10_close
theorem gr_L_40 : GoodIn WW (wsV RL 40 RX10 yX10_below wsX10_below) := gw_V km_L_40 ki_X10_below ks_X10_below kz_X10 kc_X10_below
theorem gr_X10_121 : GoodIn WW (wsV RX10 121 RX10 yX10_isBelow wsX10_isBelow) := gw_V km_X10_121 ki_X10_isBelow ks_X10_isBelow kz_X10 kc_X10_isBelow
theorem gr_L_44 : GoodIn WW (wsV RL 44 RX10 yX10_sample wsX10_sample) := gw_V km_L_44 ki_X10_sample ks_X10_sample kz_X10 kc_X10_sample
theorem gr_L_48 : GoodIn WW (wsV RL 48 RX10 yX10_of wsX10_of) := gw_V km_L_48 ki_X10_of ks_X10_of kz_X10 kc_X10_of
theorem gr_L_52 : GoodIn WW (wsV RL 52 RX10 yX10_samples wsX10_samples) := gw_V km_L_52 ki_X10_samples ks_X10_samples kz_X10 kc_X10_samples
theorem gr_L_56 : GoodIn WW (wsV RL 56 RX10 yX10_function wsX10_function) := gw_V km_L_56 ki_X10_function ks_X10_function kz_X10 kc_X10_function
theorem gr_L_61 : GoodIn WW (wsV RL 61 RX10 yX10_handler wsX10_handler) := gw_V km_L_61 ki_X10_handler ks_X10_handler kz_X10 kc_X10_handler
theorem gr_X10_134 : GoodIn WW (wsV RX10 134 RX10 yX10_isFunction wsX10_isFunction) := gw_V km_X10_134 ki_X10_isFunction ks_X10_isFunction kz_X10 kc_X10_isFunction
theorem gr_L_66 : GoodIn WW (wsV RL 66 RX10 yX10_place wsX10_place) := gw_V km_L_66 ki_X10_place ks_X10_place kz_X10 kc_X10_place
theorem gr_X10_142 : GoodIn WW (wsV RX10 142 RX10 yX10_hasPlace wsX10_hasPlace) := gw_V km_X10_142 ki_X10_hasPlace ks_X10_hasPlace kz_X10 kc_X10_hasPlace
theorem gr_X10_139 : GoodIn WW (wsV RX10 139 RX10 yX10_isHandler wsX10_isHandler) := gw_V km_X10_139 ki_X10_isHandler ks_X10_isHandler kz_X10 kc_X10_isHandler
theorem gr_L_71 : GoodIn WW (wsV RL 71 RX10 yX10_test wsX10_test) := gw_V km_L_71 ki_X10_test ks_X10_test kz_X10 kc_X10_test
theorem gr_L_75 : GoodIn WW (wsV RL 75 RX10 yX10_lay wsX10_lay) := gw_V km_L_75 ki_X10_lay ks_X10_lay kz_X10 kc_X10_lay
theorem gr_X10_145 : GoodIn WW (wsV RX10 145 RX10 yX10_isLaid wsX10_isLaid) := gw_V km_X10_145 ki_X10_isLaid ks_X10_isLaid kz_X10 kc_X10_isLaid
theorem gr_X10_148 : GoodIn WW (wsV RX10 148 RX10 yX10_areSame wsX10_areSame) := gw_V km_X10_148 ki_X10_areSame ks_X10_areSame kz_X10 kc_X10_areSame
theorem gr_X10_155 : GoodIn WW (wsV RX10 155 RX10 yX10_laid wsX10_laid) := gw_V km_X10_155 ki_X10_laid ks_X10_laid kz_X10 kc_X10_laid
theorem gr_L_79 : GoodIn WW (wsV RL 79 RX10 yX10_lift wsX10_lift) := gw_V km_L_79 ki_X10_lift ks_X10_lift kz_X10 kc_X10_lift
theorem gr_L_84 : GoodIn WW (wsV RL 84 RX10 yX10_freeze wsX10_freeze) := gw_V km_L_84 ki_X10_freeze ks_X10_freeze kz_X10 kc_X10_freeze
theorem gr_L_88 : GoodIn WW (wsV RL 88 RX10 yX10_about wsX10_about) := gw_V km_L_88 ki_X10_about ks_X10_about kz_X10 kc_X10_about
theorem gr_L_92 : GoodIn WW (wsV RL 92 RX10 yX10_dominates wsX10_dominates) := gw_V km_L_92 ki_X10_dominates ks_X10_dominates kz_X10 kc_X10_dominates
theorem gr_X10_159 : GoodIn WW (wsV RX10 159 RX10 yX10_isMore wsX10_isMore) := gw_V km_X10_159 ki_X10_isMore ks_X10_isMore kz_X10 kc_X10_isMore
theorem gr_X10_152 : GoodIn WW (wsV RX10 152 RX10 yX10_isNarrower wsX10_isNarrower) := gw_V km_X10_152 ki_X10_isNarrower ks_X10_isNarrower kz_X10 kc_X10_isNarrower
theorem gr_L_96 : GoodIn WW (wsV RL 96 RX10 yX10_order wsX10_order) := gw_V km_L_96 ki_X10_order ks_X10_order kz_X10 kc_X10_order
theorem gr_X10_162 : GoodIn WW (wsV RX10 162 RX10 yX10_inOrder wsX10_inOrder) := gw_V km_X10_162 ki_X10_inOrder ks_X10_inOrder kz_X10 kc_X10_inOrder
theorem gr_L_100 : GoodIn WW (wsV RL 100 RX10 yX10_arg wsX10_arg) := gw_V km_L_100 ki_X10_arg ks_X10_arg kz_X10 kc_X10_arg
theorem gr_L_104 : GoodIn WW (wsV RL 104 RX10 yX10_call wsX10_call) := gw_V km_L_104 ki_X10_call ks_X10_call kz_X10 kc_X10_call
theorem gr_X10_238 : GoodIn WW (wsV RX10 238 RX10 yX10_tellRow wsX10_tellRow) := gw_V km_X10_238 ki_X10_tellRow ks_X10_tellRow kz_X10 kc_X10_tellRow
theorem gr_X10_225 : GoodIn WW (wsV RX10 225 RX10 yX10_begin wsX10_begin) := gw_V km_X10_225 ki_X10_begin ks_X10_begin kz_X10 kc_X10_begin
theorem gr_X10_194 : GoodIn WW (wsV RX10 194 RX10 yX10_isBarred wsX10_isBarred) := gw_V km_X10_194 ki_X10_isBarred ks_X10_isBarred kz_X10 kc_X10_isBarred
theorem gr_X10_168 : GoodIn WW (wsV RX10 168 RX10 yX10_takes wsX10_takes) := gw_V km_X10_168 ki_X10_takes ks_X10_takes kz_X10 kc_X10_takes
theorem gr_X10_165 : GoodIn WW (wsV RX10 165 RX10 yX10_takesAt wsX10_takesAt) := gw_V km_X10_165 ki_X10_takesAt ks_X10_takesAt kz_X10 kc_X10_takesAt
theorem gr_X10_183 : GoodIn WW (wsV RX10 183 RX10 yX10_note wsX10_note) := gw_V km_X10_183 ki_X10_note ks_X10_note kz_X10 kc_X10_note
theorem gr_X10_187 : GoodIn WW (wsV RX10 187 RX10 yX10_weight wsX10_weight) := gw_V km_X10_187 ki_X10_weight ks_X10_weight kz_X10 kc_X10_weight
theorem gr_X10_197 : GoodIn WW (wsV RX10 197 RX10 yX10_remember wsX10_remember) := gw_V km_X10_197 ki_X10_remember ks_X10_remember kz_X10 kc_X10_remember
theorem gr_X10_176 : GoodIn WW (wsV RX10 176 RX10 yX10_piece wsX10_piece) := gw_V km_X10_176 ki_X10_piece ks_X10_piece kz_X10 kc_X10_piece
theorem gr_X10_200 : GoodIn WW (wsV RX10 200 RX10 yX10_choose wsX10_choose) := gw_V km_X10_200 ki_X10_choose ks_X10_choose kz_X10 kc_X10_choose
theorem gr_X10_203 : GoodIn WW (wsV RX10 203 RX10 yX10_offered wsX10_offered) := gw_V km_X10_203 ki_X10_offered ks_X10_offered kz_X10 kc_X10_offered
theorem gr_X10_171 : GoodIn WW (wsV RX10 171 RX10 yX10_isOffered wsX10_isOffered) := gw_V km_X10_171 ki_X10_isOffered ks_X10_isOffered kz_X10 kc_X10_isOffered
theorem gr_X10_206 : GoodIn WW (wsV RX10 206 RX10 yX10_chosen wsX10_chosen) := gw_V km_X10_206 ki_X10_chosen ks_X10_chosen kz_X10 kc_X10_chosen
theorem gr_X10_241 : GoodIn WW (wsV RX10 241 RX10 yX10_run wsX10_run) := gw_V km_X10_241 ki_X10_run ks_X10_run kz_X10 kc_X10_run
theorem gr_X10_228 : GoodIn WW (wsV RX10 228 RX10 yX10_end wsX10_end) := gw_V km_X10_228 ki_X10_end ks_X10_end kz_X10 kc_X10_end
theorem gr_X10_219 : GoodIn WW (wsV RX10 219 RX10 yX10_fail wsX10_fail) := gw_V km_X10_219 ki_X10_fail ks_X10_fail kz_X10 kc_X10_fail
theorem gr_X10_216 : GoodIn WW (va_wsS RX10 216 yX10_rest wsX10_rest) := gw_S km_X10_216 kt_X10_rest kz_X10 kc_X10_rest
theorem gr_X10_232 : GoodIn WW (wsV RX10 232 RX10 yX10_grow wsX10_grow) := gw_V km_X10_232 ki_X10_grow ks_X10_grow kz_X10 kc_X10_grow
theorem gr_X10_235 : GoodIn WW (wsV RX10 235 RX10 yX10_callOn wsX10_callOn) := gw_V km_X10_235 ki_X10_callOn ks_X10_callOn kz_X10 kc_X10_callOn
theorem gr_X10_222 : GoodIn WW (wsV RX10 222 RX10 yX10_turn wsX10_turn) := gw_V km_X10_222 ki_X10_turn ks_X10_turn kz_X10 kc_X10_turn
theorem gr_L_109 : GoodIn WW (wsV RL 109 RX10 yX10_value wsX10_value) := gw_V km_L_109 ki_X10_value ks_X10_value kz_X10 kc_X10_value
theorem gr_L_113 : GoodIn WW (wsV RL 113 RX10 yX10_failure wsX10_failure) := gw_V km_L_113 ki_X10_failure ks_X10_failure kz_X10 kc_X10_failure
theorem gr_L_117 : GoodIn WW (wsV RL 117 RX10 yX10_step wsX10_step) := gw_V km_L_117 ki_X10_step ks_X10_step kz_X10 kc_X10_step
theorem gr_L_121 : GoodIn WW (wsV RL 121 RX10 yX10_counter wsX10_counter) := gw_V km_L_121 ki_X10_counter ks_X10_counter kz_X10 kc_X10_counter
theorem gr_L_125 : GoodIn WW (wsV RL 125 RX10 yX10_applicable wsX10_applicable) := gw_V km_L_125 ki_X10_applicable ks_X10_applicable kz_X10 kc_X10_applicable
theorem gr_L_129 : GoodIn WW (wsV RL 129 RX10 yX10_most wsX10_most) := gw_V km_L_129 ki_X10_most ks_X10_most kz_X10 kc_X10_most
theorem gr_L_133 : GoodIn WW (wsV RL 133 RX10 yX10_explain wsX10_explain) := gw_V km_L_133 ki_X10_explain ks_X10_explain kz_X10 kc_X10_explain
theorem gr_X10_244 : GoodIn WW (wsV RX10 244 RX10 yX10_moreThan wsX10_moreThan) := gw_V km_X10_244 ki_X10_moreThan ks_X10_moreThan kz_X10 kc_X10_moreThan
theorem gr_L_137 : GoodIn WW (wsV RL 137 RX10 yX10_where wsX10_where) := gw_V km_L_137 ki_X10_where ks_X10_where kz_X10 kc_X10_where
theorem gr_L_141 : GoodIn WW (wsV RL 141 RX10 yX10_count wsX10_count) := gw_V km_L_141 ki_X10_count ks_X10_count kz_X10 kc_X10_count
theorem gr_X10_247 : GoodIn WW (wsV RX10 247 RX10 yX10_countAll wsX10_countAll) := gw_V km_X10_247 ki_X10_countAll ks_X10_countAll kz_X10 kc_X10_countAll
theorem gr_L_145 : GoodIn WW (wsV RL 145 RX10 yX10_covered wsX10_covered) := gw_V km_L_145 ki_X10_covered ks_X10_covered kz_X10 kc_X10_covered
theorem gr_X10_271 : GoodIn WW (wsV RX10 271 RX10 yX10_findHole wsX10_findHole) := gw_V km_X10_271 ki_X10_findHole ks_X10_findHole kz_X10 kc_X10_findHole
theorem gr_X10_262 : GoodIn WW (wsV RX10 262 RX10 yX10_firstTuple wsX10_firstTuple) := gw_V km_X10_262 ki_X10_firstTuple ks_X10_firstTuple kz_X10 kc_X10_firstTuple
theorem gr_X10_252 : GoodIn WW (wsV RX10 252 RX10 yX10_nextClass wsX10_nextClass) := gw_V km_X10_252 ki_X10_nextClass ks_X10_nextClass kz_X10 kc_X10_nextClass
theorem gr_X10_255 : GoodIn WW (wsV RX10 255 RX10 yX10_findEdges wsX10_findEdges) := gw_V km_X10_255 ki_X10_findEdges ks_X10_findEdges kz_X10 kc_X10_findEdges
theorem gr_X10_265 : GoodIn WW (wsV RX10 265 RX10 yX10_nextTuple wsX10_nextTuple) := gw_V km_X10_265 ki_X10_nextTuple ks_X10_nextTuple kz_X10 kc_X10_nextTuple
theorem gr_X10_259 : GoodIn WW (wsV RX10 259 RX10 yX10_nextAt wsX10_nextAt) := gw_V km_X10_259 ki_X10_nextAt ks_X10_nextAt kz_X10 kc_X10_nextAt
theorem gr_X10_268 : GoodIn WW (wsV RX10 268 RX10 yX10_keepTuple wsX10_keepTuple) := gw_V km_X10_268 ki_X10_keepTuple ks_X10_keepTuple kz_X10 kc_X10_keepTuple
theorem gr_L_150 : GoodIn WW (wsV RL 150 RX10 yX10_hole wsX10_hole) := gw_V km_L_150 ki_X10_hole ks_X10_hole kz_X10 kc_X10_hole
theorem gr_L_155 : GoodIn WW (wsV RL 155 RX10 yX10_doubt wsX10_doubt) := gw_V km_L_155 ki_X10_doubt ks_X10_doubt kz_X10 kc_X10_doubt
theorem gr_X10_279 : GoodIn WW (wsV RX10 279 RX10 yX10_findDoubt wsX10_findDoubt) := gw_V km_X10_279 ki_X10_findDoubt ks_X10_findDoubt kz_X10 kc_X10_findDoubt
theorem gr_X10_276 : GoodIn WW (wsV RX10 276 RX10 yX10_areInDoubt wsX10_areInDoubt) := gw_V km_X10_276 ki_X10_areInDoubt ks_X10_areInDoubt kz_X10 kc_X10_areInDoubt
