def RX0 : String := "HeightLines"
def TX0 : u_T := fun k => match k with
  | 0 => ("HeightLines", "columns", "I", false)
  | 1 => ("HeightLines", "rows", "I", false)
  | 2 => ("HeightLines", "twiceHeight", "I", false)
  | 3 => ("HeightLines", "samples", "[I", true)
  | 4 => ("HeightLines", "next", "[I", true)
  | 5 => ("HeightLines", "before", "[I", true)
  | 6 => ("HeightLines", "order", "[I", true)
  | 7 => ("HeightLines", "starts", "[I", true)
  | 8 => ("HeightLines", "owner", "[I", true)
  | 9 => ("HeightLines", "openChains", "I", false)
  | _ => ("HeightLines", "chains", "I", false)
def tyX0 : Nat → FieldType := fun k => match k with
  | 0 => .int
  | 1 => .int
  | 2 => .int
  | 3 => .array .int
  | 4 => .array .int
  | 5 => .array .int
  | 6 => .array .int
  | 7 => .array .int
  | 8 => .array .int
  | 9 => .int
  | _ => .int
abbrev wsX00 : List Cond := u_ws RX0 TX0 11
theorem nmX0 : ∀ a, a < 11 → ∀ b, b < 11 → a ≠ b → (TX0 a).2.1 ≠ (TX0 b).2.1 := by decide +kernel
theorem tyX0_ok : ∀ k, k < 11 → parseFieldDescriptor (TX0 k).2.2.1 = some (tyX0 k) := by decide +kernel
abbrev cX0_init : ByteArray := prog_1_method_1_code
def yX0_init : MethodName := ⟨RX0, "<init>", "()V"⟩
abbrev cX0_field : ByteArray := prog_1_method_2_code
def yX0_field : MethodName := ⟨RX0, "field", "(II)Z"⟩
abbrev cX0_set : ByteArray := prog_1_method_3_code
def yX0_set : MethodName := ⟨RX0, "set", "(III)Z"⟩
abbrev cX0_row : ByteArray := prog_1_method_4_code
def yX0_row : MethodName := ⟨RX0, "row", "(III)Z"⟩
abbrev cX0_height : ByteArray := prog_1_method_5_code
def yX0_height : MethodName := ⟨RX0, "height", "(I)Z"⟩
abbrev cX0_make : ByteArray := prog_1_method_6_code
def yX0_make : MethodName := ⟨RX0, "make", "()I"⟩
abbrev cX0_size : ByteArray := prog_1_method_7_code
def yX0_size : MethodName := ⟨RX0, "size", "(I)I"⟩
abbrev cX0_isClosed : ByteArray := prog_1_method_8_code
def yX0_isClosed : MethodName := ⟨RX0, "isClosed", "(I)Z"⟩
abbrev cX0_edge : ByteArray := prog_1_method_9_code
def yX0_edge : MethodName := ⟨RX0, "edge", "(II)I"⟩
abbrev cX0_crossing : ByteArray := prog_1_method_10_code
def yX0_crossing : MethodName := ⟨RX0, "crossing", "(II)I"⟩
abbrev cX0_within : ByteArray := prog_1_method_11_code
def yX0_within : MethodName := ⟨RX0, "within", "(I)I"⟩
abbrev cX0_crossed : ByteArray := prog_1_method_12_code
def yX0_crossed : MethodName := ⟨RX0, "crossed", "()I"⟩
abbrev cX0_isSide : ByteArray := prog_1_method_13_code
def yX0_isSide : MethodName := ⟨RX0, "isSide", "(I)Z"⟩
abbrev cX0_heldToBounds : ByteArray := prog_1_method_14_code
def yX0_heldToBounds : MethodName := ⟨RX0, "heldToBounds", "(J)I"⟩
abbrev cX0_greatestDivisor : ByteArray := prog_1_method_15_code
def yX0_greatestDivisor : MethodName := ⟨RX0, "greatestDivisor", "(II)I"⟩
abbrev cX0_hasRow : ByteArray := prog_1_method_16_code
def yX0_hasRow : MethodName := ⟨RX0, "hasRow", "(I)Z"⟩
abbrev cX0_sampleAt : ByteArray := prog_1_method_17_code
def yX0_sampleAt : MethodName := ⟨RX0, "sampleAt", "(II)I"⟩
abbrev cX0_isAbove : ByteArray := prog_1_method_18_code
def yX0_isAbove : MethodName := ⟨RX0, "isAbove", "(I)Z"⟩
abbrev cX0_rightwardEdges : ByteArray := prog_1_method_19_code
def yX0_rightwardEdges : MethodName := ⟨RX0, "rightwardEdges", "()I"⟩
abbrev cX0_edgeCount : ByteArray := prog_1_method_20_code
def yX0_edgeCount : MethodName := ⟨RX0, "edgeCount", "()I"⟩
abbrev cX0_rightwardEdge : ByteArray := prog_1_method_21_code
def yX0_rightwardEdge : MethodName := ⟨RX0, "rightwardEdge", "(II)I"⟩
abbrev cX0_upwardEdge : ByteArray := prog_1_method_22_code
def yX0_upwardEdge : MethodName := ⟨RX0, "upwardEdge", "(II)I"⟩
abbrev cX0_firstSample : ByteArray := prog_1_method_23_code
def yX0_firstSample : MethodName := ⟨RX0, "firstSample", "(I)I"⟩
abbrev cX0_secondSample : ByteArray := prog_1_method_24_code
def yX0_secondSample : MethodName := ⟨RX0, "secondSample", "(I)I"⟩
abbrev cX0_isCrossed : ByteArray := prog_1_method_25_code
def yX0_isCrossed : MethodName := ⟨RX0, "isCrossed", "(I)Z"⟩
abbrev cX0_drawLines : ByteArray := prog_1_method_26_code
def yX0_drawLines : MethodName := ⟨RX0, "drawLines", "()V"⟩
abbrev cX0_drawCell : ByteArray := prog_1_method_27_code
def yX0_drawCell : MethodName := ⟨RX0, "drawCell", "(II)V"⟩
abbrev cX0_cornersAbove : ByteArray := prog_1_method_28_code
def yX0_cornersAbove : MethodName := ⟨RX0, "cornersAbove", "(II)I"⟩
abbrev cX0_cornerSample : ByteArray := prog_1_method_29_code
def yX0_cornerSample : MethodName := ⟨RX0, "cornerSample", "(III)I"⟩
abbrev cX0_sideEdge : ByteArray := prog_1_method_30_code
def yX0_sideEdge : MethodName := ⟨RX0, "sideEdge", "(III)I"⟩
abbrev cX0_hasCorner : ByteArray := prog_1_method_31_code
def yX0_hasCorner : MethodName := ⟨RX0, "hasCorner", "(II)Z"⟩
abbrev cX0_entersAt : ByteArray := prog_1_method_32_code
def yX0_entersAt : MethodName := ⟨RX0, "entersAt", "(II)Z"⟩
abbrev cX0_leavesAt : ByteArray := prog_1_method_33_code
def yX0_leavesAt : MethodName := ⟨RX0, "leavesAt", "(II)Z"⟩
abbrev cX0_exitFrom : ByteArray := prog_1_method_34_code
def yX0_exitFrom : MethodName := ⟨RX0, "exitFrom", "(III)I"⟩
abbrev cX0_isMiddleAbove : ByteArray := prog_1_method_35_code
def yX0_isMiddleAbove : MethodName := ⟨RX0, "isMiddleAbove", "(II)Z"⟩
abbrev cX0_hasChain : ByteArray := prog_1_method_36_code
def yX0_hasChain : MethodName := ⟨RX0, "hasChain", "(I)Z"⟩
abbrev cX0_forgetChains : ByteArray := prog_1_method_37_code
def yX0_forgetChains : MethodName := ⟨RX0, "forgetChains", "()V"⟩
abbrev cX0_gatherOpenChains : ByteArray := prog_1_method_38_code
def yX0_gatherOpenChains : MethodName := ⟨RX0, "gatherOpenChains", "()V"⟩
abbrev cX0_gatherClosedChains : ByteArray := prog_1_method_39_code
def yX0_gatherClosedChains : MethodName := ⟨RX0, "gatherClosedChains", "()V"⟩
abbrev cX0_gatherChain : ByteArray := prog_1_method_40_code
def yX0_gatherChain : MethodName := ⟨RX0, "gatherChain", "(I)V"⟩
abbrev cX0_withinInRow : ByteArray := prog_1_method_41_code
def yX0_withinInRow : MethodName := ⟨RX0, "withinInRow", "(II)I"⟩
def RX1 : String := "HeightLinesModel"
def TX1 : u_T := fun k => match k with
  | 0 => ("HeightLinesModel", "thrown", "I", false)
  | 1 => ("HeightLinesModel", "w", "I", false)
  | 2 => ("HeightLinesModel", "h", "I", false)
  | 3 => ("HeightLinesModel", "twice", "I", false)
  | 4 => ("HeightLinesModel", "samples", "[I", true)
  | 5 => ("HeightLinesModel", "edges", "[I", true)
  | 6 => ("HeightLinesModel", "begins", "[I", true)
  | 7 => ("HeightLinesModel", "closed", "[Z", true)
  | 8 => ("HeightLinesModel", "used", "[Z", true)
  | _ => ("HeightLinesModel", "chains", "I", false)
def tyX1 : Nat → FieldType := fun k => match k with
  | 0 => .int
  | 1 => .int
  | 2 => .int
  | 3 => .int
  | 4 => .array .int
  | 5 => .array .int
  | 6 => .array .int
  | 7 => .array .boolean
  | 8 => .array .boolean
  | _ => .int
abbrev wsX10 : List Cond := u_ws RX1 TX1 10
theorem nmX1 : ∀ a, a < 10 → ∀ b, b < 10 → a ≠ b → (TX1 a).2.1 ≠ (TX1 b).2.1 := by decide +kernel
theorem tyX1_ok : ∀ k, k < 10 → parseFieldDescriptor (TX1 k).2.2.1 = some (tyX1 k) := by decide +kernel
abbrev cX1_init : ByteArray := prog_3_method_1_code
def yX1_init : MethodName := ⟨RX1, "<init>", "()V"⟩
abbrev cX1_thrown : ByteArray := prog_3_method_2_code
def yX1_thrown : MethodName := ⟨RX1, "thrown", "()I"⟩
abbrev cX1_field : ByteArray := prog_3_method_3_code
def yX1_field : MethodName := ⟨RX1, "field", "(II)Z"⟩
abbrev cX1_set : ByteArray := prog_3_method_4_code
def yX1_set : MethodName := ⟨RX1, "set", "(III)Z"⟩
abbrev cX1_row : ByteArray := prog_3_method_5_code
def yX1_row : MethodName := ⟨RX1, "row", "(III)Z"⟩
abbrev cX1_height : ByteArray := prog_3_method_6_code
def yX1_height : MethodName := ⟨RX1, "height", "(I)Z"⟩
abbrev cX1_all : ByteArray := prog_3_method_7_code
def yX1_all : MethodName := ⟨RX1, "all", "()I"⟩
abbrev cX1_isAcross : ByteArray := prog_3_method_8_code
def yX1_isAcross : MethodName := ⟨RX1, "isAcross", "(I)Z"⟩
abbrev cX1_xOf : ByteArray := prog_3_method_9_code
def yX1_xOf : MethodName := ⟨RX1, "xOf", "(I)I"⟩
abbrev cX1_yOf : ByteArray := prog_3_method_10_code
def yX1_yOf : MethodName := ⟨RX1, "yOf", "(I)I"⟩
abbrev cX1_at : ByteArray := prog_3_method_11_code
def yX1_at : MethodName := ⟨RX1, "at", "(II)I"⟩
abbrev cX1_first : ByteArray := prog_3_method_12_code
def yX1_first : MethodName := ⟨RX1, "first", "(I)I"⟩
abbrev cX1_second : ByteArray := prog_3_method_13_code
def yX1_second : MethodName := ⟨RX1, "second", "(I)I"⟩
abbrev cX1_isAbove : ByteArray := prog_3_method_14_code
def yX1_isAbove : MethodName := ⟨RX1, "isAbove", "(I)Z"⟩
abbrev cX1_isCrossed : ByteArray := prog_3_method_15_code
def yX1_isCrossed : MethodName := ⟨RX1, "isCrossed", "(I)Z"⟩
abbrev cX1_corner : ByteArray := prog_3_method_16_code
def yX1_corner : MethodName := ⟨RX1, "corner", "(III)I"⟩
abbrev cX1_edgeOf : ByteArray := prog_3_method_17_code
def yX1_edgeOf : MethodName := ⟨RX1, "edgeOf", "(III)I"⟩
abbrev cX1_isDown : ByteArray := prog_3_method_18_code
def yX1_isDown : MethodName := ⟨RX1, "isDown", "(III)Z"⟩
abbrev cX1_isUp : ByteArray := prog_3_method_19_code
def yX1_isUp : MethodName := ⟨RX1, "isUp", "(III)Z"⟩
abbrev cX1_isMiddleAbove : ByteArray := prog_3_method_20_code
def yX1_isMiddleAbove : MethodName := ⟨RX1, "isMiddleAbove", "(II)Z"⟩
abbrev cX1_leads : ByteArray := prog_3_method_21_code
def yX1_leads : MethodName := ⟨RX1, "leads", "(III)I"⟩
abbrev cX1_isCell : ByteArray := prog_3_method_22_code
def yX1_isCell : MethodName := ⟨RX1, "isCell", "(II)Z"⟩
abbrev cX1_next : ByteArray := prog_3_method_23_code
def yX1_next : MethodName := ⟨RX1, "next", "(I)I"⟩
abbrev cX1_isLedTo : ByteArray := prog_3_method_24_code
def yX1_isLedTo : MethodName := ⟨RX1, "isLedTo", "(I)Z"⟩
abbrev cX1_chain : ByteArray := prog_3_method_25_code
def yX1_chain : MethodName := ⟨RX1, "chain", "(IZ)V"⟩
abbrev cX1_make : ByteArray := prog_3_method_26_code
def yX1_make : MethodName := ⟨RX1, "make", "()I"⟩
abbrev cX1_isChain : ByteArray := prog_3_method_27_code
def yX1_isChain : MethodName := ⟨RX1, "isChain", "(I)Z"⟩
abbrev cX1_size : ByteArray := prog_3_method_28_code
def yX1_size : MethodName := ⟨RX1, "size", "(I)I"⟩
abbrev cX1_isClosed : ByteArray := prog_3_method_29_code
def yX1_isClosed : MethodName := ⟨RX1, "isClosed", "(I)Z"⟩
abbrev cX1_edge : ByteArray := prog_3_method_30_code
def yX1_edge : MethodName := ⟨RX1, "edge", "(II)I"⟩
abbrev cX1_crossing : ByteArray := prog_3_method_31_code
def yX1_crossing : MethodName := ⟨RX1, "crossing", "(II)I"⟩
abbrev cX1_within : ByteArray := prog_3_method_32_code
def yX1_within : MethodName := ⟨RX1, "within", "(I)I"⟩
abbrev cX1_crossed : ByteArray := prog_3_method_33_code
def yX1_crossed : MethodName := ⟨RX1, "crossed", "()I"⟩
def RJ9 : String := "java/lang/Math"
def TJ9 : u_T := fun k => match k with
  | _ => ("", "", "", false)
def tyJ9 : Nat → FieldType := fun k => match k with
  | _ => .int
abbrev wsJ90 : List Cond := u_ws RJ9 TJ9 0
theorem nmJ9 : ∀ a, a < 0 → ∀ b, b < 0 → a ≠ b → (TJ9 a).2.1 ≠ (TJ9 b).2.1 := by decide +kernel
theorem tyJ9_ok : ∀ k, k < 0 → parseFieldDescriptor (TJ9 k).2.2.1 = some (tyJ9 k) := by decide +kernel
abbrev cJ9_abs_0f7a4 : ByteArray := prog_5_method_59_code
def yJ9_abs_0f7a4 : MethodName := ⟨RJ9, "abs", "(I)I"⟩
abbrev cJ9_max_f86c9 : ByteArray := prog_5_method_66_code
def yJ9_max_f86c9 : MethodName := ⟨RJ9, "max", "(JJ)J"⟩
abbrev cJ9_min_f86c9 : ByteArray := prog_5_method_70_code
def yJ9_min_f86c9 : MethodName := ⟨RJ9, "min", "(JJ)J"⟩
def RJ7 : String := "java/util/Arrays"
def TJ7 : u_T := fun k => match k with
  | _ => ("", "", "", false)
def tyJ7 : Nat → FieldType := fun k => match k with
  | _ => .int
abbrev wsJ70 : List Cond := u_ws RJ7 TJ7 0
theorem nmJ7 : ∀ a, a < 0 → ∀ b, b < 0 → a ≠ b → (TJ7 a).2.1 ≠ (TJ7 b).2.1 := by decide +kernel
theorem tyJ7_ok : ∀ k, k < 0 → parseFieldDescriptor (TJ7 k).2.2.1 = some (tyJ7 k) := by decide +kernel
abbrev cJ7_fill_53178 : ByteArray := prog_8_method_103_code
def yJ7_fill_53178 : MethodName := ⟨RJ7, "fill", "([II)V"⟩
def RL : String := "HeightLinesLaw"
abbrev cL_crossing : ByteArray := method_3_code
def yL_crossing : MethodName := ⟨RL, "crossing", "(LHeightLines;II[J)I"⟩
abbrev cL_law : ByteArray := code
def yL_law : MethodName := ⟨RL, "law", "([I)Z"⟩
def wsX0_init : List Cond := .code yX0_init cX0_init 1 none :: ([.methodLink RX0 3 objectInit, .instanceMethod objectInit, .code objectInit ⟨#[0xb1]⟩ 1 none, .fieldLink RX0 9 "HeightLines" "columns" "I", .fieldLink RX0 13 "HeightLines" "rows" "I", .fieldLink RX0 16 "HeightLines" "twiceHeight" "I", .arrayClass .int, .fieldLink RX0 19 "HeightLines" "samples" "[I", .fieldLink RX0 23 "HeightLines" "next" "[I", .fieldLink RX0 26 "HeightLines" "before" "[I", .fieldLink RX0 29 "HeightLines" "order" "[I", .fieldLink RX0 32 "HeightLines" "starts" "[I", .fieldLink RX0 35 "HeightLines" "owner" "[I", .fieldLink RX0 38 "HeightLines" "openChains" "I", .fieldLink RX0 41 "HeightLines" "chains" "I"] ++ wsX00)
def wsX0_isSide : List Cond := .code yX0_isSide cX0_isSide 1 (some .boolean) :: ([])
def wsJ7_fill_53178 : List Cond := .code yJ7_fill_53178 cJ7_fill_53178 4 none :: ([])
def wsX0_forgetChains : List Cond := .code yX0_forgetChains cX0_forgetChains 1 none :: ([.fieldLink RX0 41 "HeightLines" "chains" "I", .fieldLink RX0 38 "HeightLines" "openChains" "I", .fieldLink RX0 35 "HeightLines" "owner" "[I", .methodLink RX0 48 yJ7_fill_53178, .static yJ7_fill_53178, .initialized RJ7, .code yJ7_fill_53178 cJ7_fill_53178 4 none] ++ wsX00)
def wsX0_field : List Cond := .code yX0_field cX0_field 3 (some .boolean) :: ([.fieldLink RX0 9 "HeightLines" "columns" "I", .fieldLink RX0 13 "HeightLines" "rows" "I", .fieldLink RX0 19 "HeightLines" "samples" "[I", .methodLink RX0 44 yX0_isSide, .static yX0_isSide, .initialized RX0, .code yX0_isSide cX0_isSide 1 (some .boolean), .methodLink RX0 48 yJ7_fill_53178, .static yJ7_fill_53178, .initialized RJ7, .code yJ7_fill_53178 cJ7_fill_53178 4 none, .methodLink RX0 54 yX0_forgetChains, .instanceMethod yX0_forgetChains, .selects RX0 yX0_forgetChains yX0_forgetChains, .code yX0_forgetChains cX0_forgetChains 1 none, .fieldLink RX0 41 "HeightLines" "chains" "I", .fieldLink RX0 38 "HeightLines" "openChains" "I", .fieldLink RX0 35 "HeightLines" "owner" "[I"] ++ wsX00)
def wsX0_hasRow : List Cond := .code yX0_hasRow cX0_hasRow 2 (some .boolean) :: ([.fieldLink RX0 13 "HeightLines" "rows" "I"] ++ wsX00)
def wsX0_heldToBounds : List Cond := .code yX0_heldToBounds cX0_heldToBounds 2 (some .int) :: ([.constantLong RX0 116 (-1000000), .constantLong RX0 118 (1000000), .methodLink RX0 120 Lib.MathLoose.min_long.x, .static Lib.MathLoose.min_long.x, .initialized "java/lang/Math", .code Lib.MathLoose.min_long.x Lib.MathLoose.min_long.code 4 (some .long), .methodLink RX0 124 Lib.MathLoose.max_long.x, .static Lib.MathLoose.max_long.x, .code Lib.MathLoose.max_long.x Lib.MathLoose.max_long.code 4 (some .long)])
def wsX0_sampleAt : List Cond := .code yX0_sampleAt cX0_sampleAt 3 (some .int) :: ([.fieldLink RX0 9 "HeightLines" "columns" "I"] ++ wsX00)
def wsX0_set : List Cond := .code yX0_set cX0_set 4 (some .boolean) :: ([.fieldLink RX0 9 "HeightLines" "columns" "I", .fieldLink RX0 19 "HeightLines" "samples" "[I", .methodLink RX0 57 yX0_hasRow, .instanceMethod yX0_hasRow, .selects RX0 yX0_hasRow yX0_hasRow, .initialized RX0, .code yX0_hasRow cX0_hasRow 2 (some .boolean), .fieldLink RX0 13 "HeightLines" "rows" "I", .methodLink RX0 60 yX0_heldToBounds, .static yX0_heldToBounds, .code yX0_heldToBounds cX0_heldToBounds 2 (some .int), .constantLong RX0 116 (-1000000), .constantLong RX0 118 (1000000), .methodLink RX0 120 Lib.MathLoose.min_long.x, .static Lib.MathLoose.min_long.x, .initialized "java/lang/Math", .code Lib.MathLoose.min_long.x Lib.MathLoose.min_long.code 4 (some .long), .methodLink RX0 124 Lib.MathLoose.max_long.x, .static Lib.MathLoose.max_long.x, .code Lib.MathLoose.max_long.x Lib.MathLoose.max_long.code 4 (some .long), .methodLink RX0 64 yX0_sampleAt, .instanceMethod yX0_sampleAt, .selects RX0 yX0_sampleAt yX0_sampleAt, .code yX0_sampleAt cX0_sampleAt 3 (some .int)] ++ wsX00)
def wsX0_row : List Cond := .code yX0_row cX0_row 5 (some .boolean) :: ([.fieldLink RX0 9 "HeightLines" "columns" "I", .fieldLink RX0 19 "HeightLines" "samples" "[I", .methodLink RX0 57 yX0_hasRow, .instanceMethod yX0_hasRow, .selects RX0 yX0_hasRow yX0_hasRow, .initialized RX0, .code yX0_hasRow cX0_hasRow 2 (some .boolean), .fieldLink RX0 13 "HeightLines" "rows" "I", .methodLink RX0 64 yX0_sampleAt, .instanceMethod yX0_sampleAt, .selects RX0 yX0_sampleAt yX0_sampleAt, .code yX0_sampleAt cX0_sampleAt 3 (some .int), .methodLink RX0 60 yX0_heldToBounds, .static yX0_heldToBounds, .code yX0_heldToBounds cX0_heldToBounds 2 (some .int), .constantLong RX0 116 (-1000000), .constantLong RX0 118 (1000000), .methodLink RX0 120 Lib.MathLoose.min_long.x, .static Lib.MathLoose.min_long.x, .initialized "java/lang/Math", .code Lib.MathLoose.min_long.x Lib.MathLoose.min_long.code 4 (some .long), .methodLink RX0 124 Lib.MathLoose.max_long.x, .static Lib.MathLoose.max_long.x, .code Lib.MathLoose.max_long.x Lib.MathLoose.max_long.code 4 (some .long)] ++ wsX00)
def wsX0_height : List Cond := .code yX0_height cX0_height 3 (some .boolean) :: ([.constant RX0 68 (-1999999), .constant RX0 69 (1999999), .fieldLink RX0 16 "HeightLines" "twiceHeight" "I"] ++ wsX00)
def wsX0_cornerSample : List Cond := .code yX0_cornerSample cX0_cornerSample 4 (some .int) :: ([.methodLink RX0 64 yX0_sampleAt, .instanceMethod yX0_sampleAt, .selects RX0 yX0_sampleAt yX0_sampleAt, .initialized RX0, .code yX0_sampleAt cX0_sampleAt 3 (some .int), .fieldLink RX0 9 "HeightLines" "columns" "I"] ++ wsX00)
def wsX0_isAbove : List Cond := .code yX0_isAbove cX0_isAbove 2 (some .boolean) :: ([.fieldLink RX0 19 "HeightLines" "samples" "[I", .fieldLink RX0 16 "HeightLines" "twiceHeight" "I"] ++ wsX00)
def wsX0_cornersAbove : List Cond := .code yX0_cornersAbove cX0_cornersAbove 5 (some .int) :: ([.methodLink RX0 154 yX0_cornerSample, .instanceMethod yX0_cornerSample, .selects RX0 yX0_cornerSample yX0_cornerSample, .initialized RX0, .code yX0_cornerSample cX0_cornerSample 4 (some .int), .methodLink RX0 64 yX0_sampleAt, .instanceMethod yX0_sampleAt, .selects RX0 yX0_sampleAt yX0_sampleAt, .code yX0_sampleAt cX0_sampleAt 3 (some .int), .fieldLink RX0 9 "HeightLines" "columns" "I", .methodLink RX0 130 yX0_isAbove, .instanceMethod yX0_isAbove, .selects RX0 yX0_isAbove yX0_isAbove, .code yX0_isAbove cX0_isAbove 2 (some .boolean), .fieldLink RX0 19 "HeightLines" "samples" "[I", .fieldLink RX0 16 "HeightLines" "twiceHeight" "I"] ++ wsX00)
def wsX0_isMiddleAbove : List Cond := .code yX0_isMiddleAbove cX0_isMiddleAbove 17 (some .boolean) :: ([.fieldLink RX0 19 "HeightLines" "samples" "[I", .constantLong RX0 169 (2), .fieldLink RX0 16 "HeightLines" "twiceHeight" "I", .methodLink RX0 154 yX0_cornerSample, .instanceMethod yX0_cornerSample, .selects RX0 yX0_cornerSample yX0_cornerSample, .initialized RX0, .code yX0_cornerSample cX0_cornerSample 4 (some .int), .methodLink RX0 64 yX0_sampleAt, .instanceMethod yX0_sampleAt, .selects RX0 yX0_sampleAt yX0_sampleAt, .code yX0_sampleAt cX0_sampleAt 3 (some .int), .fieldLink RX0 9 "HeightLines" "columns" "I"] ++ wsX00)
def wsX0_hasCorner : List Cond := .code yX0_hasCorner cX0_hasCorner 2 (some .boolean) :: ([])
def wsX0_entersAt : List Cond := .code yX0_entersAt cX0_entersAt 2 (some .boolean) :: ([.methodLink RX0 163 yX0_hasCorner, .static yX0_hasCorner, .initialized RX0, .code yX0_hasCorner cX0_hasCorner 2 (some .boolean)])
def wsX0_rightwardEdge : List Cond := .code yX0_rightwardEdge cX0_rightwardEdge 3 (some .int) :: ([.fieldLink RX0 9 "HeightLines" "columns" "I"] ++ wsX00)
def wsX0_rightwardEdges : List Cond := .code yX0_rightwardEdges cX0_rightwardEdges 1 (some .int) :: ([.fieldLink RX0 13 "HeightLines" "rows" "I", .fieldLink RX0 9 "HeightLines" "columns" "I"] ++ wsX00)
def wsX0_upwardEdge : List Cond := .code yX0_upwardEdge cX0_upwardEdge 3 (some .int) :: ([.fieldLink RX0 9 "HeightLines" "columns" "I", .methodLink RX0 127 yX0_rightwardEdges, .instanceMethod yX0_rightwardEdges, .selects RX0 yX0_rightwardEdges yX0_rightwardEdges, .initialized RX0, .code yX0_rightwardEdges cX0_rightwardEdges 1 (some .int), .fieldLink RX0 13 "HeightLines" "rows" "I"] ++ wsX00)
def wsX0_sideEdge : List Cond := .code yX0_sideEdge cX0_sideEdge 4 (some .int) :: ([.methodLink RX0 157 yX0_rightwardEdge, .instanceMethod yX0_rightwardEdge, .selects RX0 yX0_rightwardEdge yX0_rightwardEdge, .initialized RX0, .code yX0_rightwardEdge cX0_rightwardEdge 3 (some .int), .fieldLink RX0 9 "HeightLines" "columns" "I", .methodLink RX0 160 yX0_upwardEdge, .instanceMethod yX0_upwardEdge, .selects RX0 yX0_upwardEdge yX0_upwardEdge, .code yX0_upwardEdge cX0_upwardEdge 3 (some .int), .methodLink RX0 127 yX0_rightwardEdges, .instanceMethod yX0_rightwardEdges, .selects RX0 yX0_rightwardEdges yX0_rightwardEdges, .code yX0_rightwardEdges cX0_rightwardEdges 1 (some .int), .fieldLink RX0 13 "HeightLines" "rows" "I"] ++ wsX00)
def wsX0_leavesAt : List Cond := .code yX0_leavesAt cX0_leavesAt 2 (some .boolean) :: ([.methodLink RX0 163 yX0_hasCorner, .static yX0_hasCorner, .initialized RX0, .code yX0_hasCorner cX0_hasCorner 2 (some .boolean)])
def wsX0_exitFrom : List Cond := .code yX0_exitFrom cX0_exitFrom 5 (some .int) :: ([.methodLink RX0 166 yX0_leavesAt, .static yX0_leavesAt, .initialized RX0, .code yX0_leavesAt cX0_leavesAt 2 (some .boolean), .methodLink RX0 163 yX0_hasCorner, .static yX0_hasCorner, .code yX0_hasCorner cX0_hasCorner 2 (some .boolean)])
def wsX0_drawCell_r1 : List Cond := [Cond.fieldLink RX0 23 "HeightLines" "next" "[I", Cond.fieldLink RX0 26 "HeightLines" "before" "[I", Cond.methodLink RX0 137 yX0_cornersAbove, Cond.instanceMethod yX0_cornersAbove, Cond.selects RX0 yX0_cornersAbove yX0_cornersAbove, Cond.initialized RX0, Cond.code yX0_cornersAbove cX0_cornersAbove 5 (some .int), Cond.methodLink RX0 154 yX0_cornerSample, Cond.instanceMethod yX0_cornerSample, Cond.selects RX0 yX0_cornerSample yX0_cornerSample, Cond.code yX0_cornerSample cX0_cornerSample 4 (some .int), Cond.methodLink RX0 64 yX0_sampleAt, Cond.instanceMethod yX0_sampleAt, Cond.selects RX0 yX0_sampleAt yX0_sampleAt, Cond.code yX0_sampleAt cX0_sampleAt 3 (some .int), Cond.fieldLink RX0 9 "HeightLines" "columns" "I", Cond.methodLink RX0 130 yX0_isAbove, Cond.instanceMethod yX0_isAbove, Cond.selects RX0 yX0_isAbove yX0_isAbove, Cond.code yX0_isAbove cX0_isAbove 2 (some .boolean), Cond.fieldLink RX0 19 "HeightLines" "samples" "[I", Cond.fieldLink RX0 16 "HeightLines" "twiceHeight" "I", Cond.methodLink RX0 140 yX0_isMiddleAbove, Cond.instanceMethod yX0_isMiddleAbove]
def wsX0_drawCell_r2 : List Cond := [Cond.selects RX0 yX0_isMiddleAbove yX0_isMiddleAbove, Cond.code yX0_isMiddleAbove cX0_isMiddleAbove 17 (some .boolean), Cond.constantLong RX0 169 (2), Cond.methodLink RX0 144 yX0_entersAt, Cond.static yX0_entersAt, Cond.code yX0_entersAt cX0_entersAt 2 (some .boolean), Cond.methodLink RX0 163 yX0_hasCorner, Cond.static yX0_hasCorner, Cond.code yX0_hasCorner cX0_hasCorner 2 (some .boolean), Cond.methodLink RX0 147 yX0_sideEdge, Cond.instanceMethod yX0_sideEdge, Cond.selects RX0 yX0_sideEdge yX0_sideEdge, Cond.code yX0_sideEdge cX0_sideEdge 4 (some .int), Cond.methodLink RX0 157 yX0_rightwardEdge, Cond.instanceMethod yX0_rightwardEdge, Cond.selects RX0 yX0_rightwardEdge yX0_rightwardEdge, Cond.code yX0_rightwardEdge cX0_rightwardEdge 3 (some .int), Cond.methodLink RX0 160 yX0_upwardEdge, Cond.instanceMethod yX0_upwardEdge, Cond.selects RX0 yX0_upwardEdge yX0_upwardEdge, Cond.code yX0_upwardEdge cX0_upwardEdge 3 (some .int), Cond.methodLink RX0 127 yX0_rightwardEdges, Cond.instanceMethod yX0_rightwardEdges, Cond.selects RX0 yX0_rightwardEdges yX0_rightwardEdges]
def wsX0_drawCell_r3 : List Cond := [Cond.code yX0_rightwardEdges cX0_rightwardEdges 1 (some .int), Cond.fieldLink RX0 13 "HeightLines" "rows" "I", Cond.methodLink RX0 151 yX0_exitFrom, Cond.static yX0_exitFrom, Cond.code yX0_exitFrom cX0_exitFrom 5 (some .int), Cond.methodLink RX0 166 yX0_leavesAt, Cond.static yX0_leavesAt, Cond.code yX0_leavesAt cX0_leavesAt 2 (some .boolean)]
def wsX0_drawCell : List Cond := .code yX0_drawCell cX0_drawCell 9 none :: ((wsX0_drawCell_r1 ++ (wsX0_drawCell_r2 ++ wsX0_drawCell_r3)) ++ wsX00)
def wsX0_drawLines_r1 : List Cond := [Cond.fieldLink RX0 23 "HeightLines" "next" "[I", Cond.fieldLink RX0 26 "HeightLines" "before" "[I", Cond.fieldLink RX0 13 "HeightLines" "rows" "I", Cond.fieldLink RX0 9 "HeightLines" "columns" "I", Cond.methodLink RX0 48 yJ7_fill_53178, Cond.static yJ7_fill_53178, Cond.initialized RJ7, Cond.code yJ7_fill_53178 cJ7_fill_53178 4 none, Cond.methodLink RX0 133 yX0_drawCell, Cond.instanceMethod yX0_drawCell, Cond.selects RX0 yX0_drawCell yX0_drawCell, Cond.initialized RX0, Cond.code yX0_drawCell cX0_drawCell 9 none, Cond.methodLink RX0 137 yX0_cornersAbove, Cond.instanceMethod yX0_cornersAbove, Cond.selects RX0 yX0_cornersAbove yX0_cornersAbove, Cond.code yX0_cornersAbove cX0_cornersAbove 5 (some .int), Cond.methodLink RX0 154 yX0_cornerSample, Cond.instanceMethod yX0_cornerSample, Cond.selects RX0 yX0_cornerSample yX0_cornerSample, Cond.code yX0_cornerSample cX0_cornerSample 4 (some .int), Cond.methodLink RX0 64 yX0_sampleAt, Cond.instanceMethod yX0_sampleAt, Cond.selects RX0 yX0_sampleAt yX0_sampleAt]
def wsX0_drawLines_r2 : List Cond := [Cond.code yX0_sampleAt cX0_sampleAt 3 (some .int), Cond.methodLink RX0 130 yX0_isAbove, Cond.instanceMethod yX0_isAbove, Cond.selects RX0 yX0_isAbove yX0_isAbove, Cond.code yX0_isAbove cX0_isAbove 2 (some .boolean), Cond.fieldLink RX0 19 "HeightLines" "samples" "[I", Cond.fieldLink RX0 16 "HeightLines" "twiceHeight" "I", Cond.methodLink RX0 140 yX0_isMiddleAbove, Cond.instanceMethod yX0_isMiddleAbove, Cond.selects RX0 yX0_isMiddleAbove yX0_isMiddleAbove, Cond.code yX0_isMiddleAbove cX0_isMiddleAbove 17 (some .boolean), Cond.constantLong RX0 169 (2), Cond.methodLink RX0 144 yX0_entersAt, Cond.static yX0_entersAt, Cond.code yX0_entersAt cX0_entersAt 2 (some .boolean), Cond.methodLink RX0 163 yX0_hasCorner, Cond.static yX0_hasCorner, Cond.code yX0_hasCorner cX0_hasCorner 2 (some .boolean), Cond.methodLink RX0 147 yX0_sideEdge, Cond.instanceMethod yX0_sideEdge, Cond.selects RX0 yX0_sideEdge yX0_sideEdge, Cond.code yX0_sideEdge cX0_sideEdge 4 (some .int), Cond.methodLink RX0 157 yX0_rightwardEdge, Cond.instanceMethod yX0_rightwardEdge]
def wsX0_drawLines_r3 : List Cond := [Cond.selects RX0 yX0_rightwardEdge yX0_rightwardEdge, Cond.code yX0_rightwardEdge cX0_rightwardEdge 3 (some .int), Cond.methodLink RX0 160 yX0_upwardEdge, Cond.instanceMethod yX0_upwardEdge, Cond.selects RX0 yX0_upwardEdge yX0_upwardEdge, Cond.code yX0_upwardEdge cX0_upwardEdge 3 (some .int), Cond.methodLink RX0 127 yX0_rightwardEdges, Cond.instanceMethod yX0_rightwardEdges, Cond.selects RX0 yX0_rightwardEdges yX0_rightwardEdges, Cond.code yX0_rightwardEdges cX0_rightwardEdges 1 (some .int), Cond.methodLink RX0 151 yX0_exitFrom, Cond.static yX0_exitFrom, Cond.code yX0_exitFrom cX0_exitFrom 5 (some .int), Cond.methodLink RX0 166 yX0_leavesAt, Cond.static yX0_leavesAt, Cond.code yX0_leavesAt cX0_leavesAt 2 (some .boolean)]
def wsX0_drawLines : List Cond := .code yX0_drawLines cX0_drawLines 3 none :: ((wsX0_drawLines_r1 ++ (wsX0_drawLines_r2 ++ wsX0_drawLines_r3)) ++ wsX00)
def wsX0_edgeCount : List Cond := .code yX0_edgeCount cX0_edgeCount 1 (some .int) :: ([.fieldLink RX0 13 "HeightLines" "rows" "I", .fieldLink RX0 9 "HeightLines" "columns" "I", .methodLink RX0 127 yX0_rightwardEdges, .instanceMethod yX0_rightwardEdges, .selects RX0 yX0_rightwardEdges yX0_rightwardEdges, .initialized RX0, .code yX0_rightwardEdges cX0_rightwardEdges 1 (some .int)] ++ wsX00)
def wsX0_gatherChain : List Cond := .code yX0_gatherChain cX0_gatherChain 5 none :: ([.fieldLink RX0 32 "HeightLines" "starts" "[I", .fieldLink RX0 41 "HeightLines" "chains" "I", .fieldLink RX0 35 "HeightLines" "owner" "[I", .fieldLink RX0 29 "HeightLines" "order" "[I", .fieldLink RX0 23 "HeightLines" "next" "[I"] ++ wsX00)
def wsX0_gatherOpenChains : List Cond := .code yX0_gatherOpenChains cX0_gatherOpenChains 2 none :: ([.fieldLink RX0 23 "HeightLines" "next" "[I", .fieldLink RX0 26 "HeightLines" "before" "[I", .fieldLink RX0 41 "HeightLines" "chains" "I", .fieldLink RX0 38 "HeightLines" "openChains" "I", .methodLink RX0 86 yX0_edgeCount, .instanceMethod yX0_edgeCount, .selects RX0 yX0_edgeCount yX0_edgeCount, .initialized RX0, .code yX0_edgeCount cX0_edgeCount 1 (some .int), .fieldLink RX0 13 "HeightLines" "rows" "I", .fieldLink RX0 9 "HeightLines" "columns" "I", .methodLink RX0 127 yX0_rightwardEdges, .instanceMethod yX0_rightwardEdges, .selects RX0 yX0_rightwardEdges yX0_rightwardEdges, .code yX0_rightwardEdges cX0_rightwardEdges 1 (some .int), .methodLink RX0 171 yX0_gatherChain, .instanceMethod yX0_gatherChain, .selects RX0 yX0_gatherChain yX0_gatherChain, .code yX0_gatherChain cX0_gatherChain 5 none, .fieldLink RX0 32 "HeightLines" "starts" "[I", .fieldLink RX0 35 "HeightLines" "owner" "[I", .fieldLink RX0 29 "HeightLines" "order" "[I"] ++ wsX00)
def wsX0_gatherClosedChains : List Cond := .code yX0_gatherClosedChains cX0_gatherClosedChains 2 none :: ([.fieldLink RX0 23 "HeightLines" "next" "[I", .fieldLink RX0 35 "HeightLines" "owner" "[I", .methodLink RX0 86 yX0_edgeCount, .instanceMethod yX0_edgeCount, .selects RX0 yX0_edgeCount yX0_edgeCount, .initialized RX0, .code yX0_edgeCount cX0_edgeCount 1 (some .int), .fieldLink RX0 13 "HeightLines" "rows" "I", .fieldLink RX0 9 "HeightLines" "columns" "I", .methodLink RX0 127 yX0_rightwardEdges, .instanceMethod yX0_rightwardEdges, .selects RX0 yX0_rightwardEdges yX0_rightwardEdges, .code yX0_rightwardEdges cX0_rightwardEdges 1 (some .int), .methodLink RX0 171 yX0_gatherChain, .instanceMethod yX0_gatherChain, .selects RX0 yX0_gatherChain yX0_gatherChain, .code yX0_gatherChain cX0_gatherChain 5 none, .fieldLink RX0 32 "HeightLines" "starts" "[I", .fieldLink RX0 41 "HeightLines" "chains" "I", .fieldLink RX0 29 "HeightLines" "order" "[I"] ++ wsX00)
def wsX0_make_r1 : List Cond := [Cond.fieldLink RX0 41 "HeightLines" "chains" "I", Cond.methodLink RX0 54 yX0_forgetChains, Cond.instanceMethod yX0_forgetChains, Cond.selects RX0 yX0_forgetChains yX0_forgetChains, Cond.initialized RX0, Cond.code yX0_forgetChains cX0_forgetChains 1 none, Cond.fieldLink RX0 38 "HeightLines" "openChains" "I", Cond.fieldLink RX0 35 "HeightLines" "owner" "[I", Cond.methodLink RX0 48 yJ7_fill_53178, Cond.static yJ7_fill_53178, Cond.initialized RJ7, Cond.code yJ7_fill_53178 cJ7_fill_53178 4 none, Cond.methodLink RX0 70 yX0_drawLines, Cond.instanceMethod yX0_drawLines, Cond.selects RX0 yX0_drawLines yX0_drawLines, Cond.code yX0_drawLines cX0_drawLines 3 none, Cond.fieldLink RX0 23 "HeightLines" "next" "[I", Cond.fieldLink RX0 26 "HeightLines" "before" "[I", Cond.fieldLink RX0 13 "HeightLines" "rows" "I", Cond.fieldLink RX0 9 "HeightLines" "columns" "I", Cond.methodLink RX0 133 yX0_drawCell, Cond.instanceMethod yX0_drawCell, Cond.selects RX0 yX0_drawCell yX0_drawCell, Cond.code yX0_drawCell cX0_drawCell 9 none]
def wsX0_make_r2 : List Cond := [Cond.methodLink RX0 137 yX0_cornersAbove, Cond.instanceMethod yX0_cornersAbove, Cond.selects RX0 yX0_cornersAbove yX0_cornersAbove, Cond.code yX0_cornersAbove cX0_cornersAbove 5 (some .int), Cond.methodLink RX0 154 yX0_cornerSample, Cond.instanceMethod yX0_cornerSample, Cond.selects RX0 yX0_cornerSample yX0_cornerSample, Cond.code yX0_cornerSample cX0_cornerSample 4 (some .int), Cond.methodLink RX0 64 yX0_sampleAt, Cond.instanceMethod yX0_sampleAt, Cond.selects RX0 yX0_sampleAt yX0_sampleAt, Cond.code yX0_sampleAt cX0_sampleAt 3 (some .int), Cond.methodLink RX0 130 yX0_isAbove, Cond.instanceMethod yX0_isAbove, Cond.selects RX0 yX0_isAbove yX0_isAbove, Cond.code yX0_isAbove cX0_isAbove 2 (some .boolean), Cond.fieldLink RX0 19 "HeightLines" "samples" "[I", Cond.fieldLink RX0 16 "HeightLines" "twiceHeight" "I", Cond.methodLink RX0 140 yX0_isMiddleAbove, Cond.instanceMethod yX0_isMiddleAbove, Cond.selects RX0 yX0_isMiddleAbove yX0_isMiddleAbove, Cond.code yX0_isMiddleAbove cX0_isMiddleAbove 17 (some .boolean), Cond.constantLong RX0 169 (2), Cond.methodLink RX0 144 yX0_entersAt]
def wsX0_make_r3 : List Cond := [Cond.static yX0_entersAt, Cond.code yX0_entersAt cX0_entersAt 2 (some .boolean), Cond.methodLink RX0 163 yX0_hasCorner, Cond.static yX0_hasCorner, Cond.code yX0_hasCorner cX0_hasCorner 2 (some .boolean), Cond.methodLink RX0 147 yX0_sideEdge, Cond.instanceMethod yX0_sideEdge, Cond.selects RX0 yX0_sideEdge yX0_sideEdge, Cond.code yX0_sideEdge cX0_sideEdge 4 (some .int), Cond.methodLink RX0 157 yX0_rightwardEdge, Cond.instanceMethod yX0_rightwardEdge, Cond.selects RX0 yX0_rightwardEdge yX0_rightwardEdge, Cond.code yX0_rightwardEdge cX0_rightwardEdge 3 (some .int), Cond.methodLink RX0 160 yX0_upwardEdge, Cond.instanceMethod yX0_upwardEdge, Cond.selects RX0 yX0_upwardEdge yX0_upwardEdge, Cond.code yX0_upwardEdge cX0_upwardEdge 3 (some .int), Cond.methodLink RX0 127 yX0_rightwardEdges, Cond.instanceMethod yX0_rightwardEdges, Cond.selects RX0 yX0_rightwardEdges yX0_rightwardEdges, Cond.code yX0_rightwardEdges cX0_rightwardEdges 1 (some .int), Cond.methodLink RX0 151 yX0_exitFrom, Cond.static yX0_exitFrom, Cond.code yX0_exitFrom cX0_exitFrom 5 (some .int)]
def wsX0_make_r4 : List Cond := [Cond.methodLink RX0 166 yX0_leavesAt, Cond.static yX0_leavesAt, Cond.code yX0_leavesAt cX0_leavesAt 2 (some .boolean), Cond.methodLink RX0 73 yX0_gatherOpenChains, Cond.instanceMethod yX0_gatherOpenChains, Cond.selects RX0 yX0_gatherOpenChains yX0_gatherOpenChains, Cond.code yX0_gatherOpenChains cX0_gatherOpenChains 2 none, Cond.methodLink RX0 86 yX0_edgeCount, Cond.instanceMethod yX0_edgeCount, Cond.selects RX0 yX0_edgeCount yX0_edgeCount, Cond.code yX0_edgeCount cX0_edgeCount 1 (some .int), Cond.methodLink RX0 171 yX0_gatherChain, Cond.instanceMethod yX0_gatherChain, Cond.selects RX0 yX0_gatherChain yX0_gatherChain, Cond.code yX0_gatherChain cX0_gatherChain 5 none, Cond.fieldLink RX0 32 "HeightLines" "starts" "[I", Cond.fieldLink RX0 29 "HeightLines" "order" "[I", Cond.methodLink RX0 76 yX0_gatherClosedChains, Cond.instanceMethod yX0_gatherClosedChains, Cond.selects RX0 yX0_gatherClosedChains yX0_gatherClosedChains, Cond.code yX0_gatherClosedChains cX0_gatherClosedChains 2 none]
def wsX0_make : List Cond := .code yX0_make cX0_make 1 (some .int) :: ((wsX0_make_r1 ++ (wsX0_make_r2 ++ (wsX0_make_r3 ++ wsX0_make_r4))) ++ wsX00)
def wsX0_hasChain : List Cond := .code yX0_hasChain cX0_hasChain 2 (some .boolean) :: ([.fieldLink RX0 41 "HeightLines" "chains" "I"] ++ wsX00)
def wsX0_size : List Cond := .code yX0_size cX0_size 2 (some .int) :: ([.fieldLink RX0 32 "HeightLines" "starts" "[I", .methodLink RX0 79 yX0_hasChain, .instanceMethod yX0_hasChain, .selects RX0 yX0_hasChain yX0_hasChain, .initialized RX0, .code yX0_hasChain cX0_hasChain 2 (some .boolean), .fieldLink RX0 41 "HeightLines" "chains" "I"] ++ wsX00)
def wsX0_isClosed : List Cond := .code yX0_isClosed cX0_isClosed 2 (some .boolean) :: ([.fieldLink RX0 38 "HeightLines" "openChains" "I", .methodLink RX0 79 yX0_hasChain, .instanceMethod yX0_hasChain, .selects RX0 yX0_hasChain yX0_hasChain, .initialized RX0, .code yX0_hasChain cX0_hasChain 2 (some .boolean), .fieldLink RX0 41 "HeightLines" "chains" "I"] ++ wsX00)
def wsX0_edge : List Cond := .code yX0_edge cX0_edge 3 (some .int) :: ([.fieldLink RX0 29 "HeightLines" "order" "[I", .fieldLink RX0 32 "HeightLines" "starts" "[I", .methodLink RX0 82 yX0_size, .instanceMethod yX0_size, .selects RX0 yX0_size yX0_size, .initialized RX0, .code yX0_size cX0_size 2 (some .int), .methodLink RX0 79 yX0_hasChain, .instanceMethod yX0_hasChain, .selects RX0 yX0_hasChain yX0_hasChain, .code yX0_hasChain cX0_hasChain 2 (some .boolean), .fieldLink RX0 41 "HeightLines" "chains" "I"] ++ wsX00)
def wsX0_firstSample : List Cond := .code yX0_firstSample cX0_firstSample 2 (some .int) :: ([.fieldLink RX0 9 "HeightLines" "columns" "I", .methodLink RX0 127 yX0_rightwardEdges, .instanceMethod yX0_rightwardEdges, .selects RX0 yX0_rightwardEdges yX0_rightwardEdges, .initialized RX0, .code yX0_rightwardEdges cX0_rightwardEdges 1 (some .int), .fieldLink RX0 13 "HeightLines" "rows" "I"] ++ wsX00)
def wsX0_secondSample : List Cond := .code yX0_secondSample cX0_secondSample 2 (some .int) :: ([.fieldLink RX0 9 "HeightLines" "columns" "I", .methodLink RX0 96 yX0_firstSample, .instanceMethod yX0_firstSample, .selects RX0 yX0_firstSample yX0_firstSample, .initialized RX0, .code yX0_firstSample cX0_firstSample 2 (some .int), .methodLink RX0 127 yX0_rightwardEdges, .instanceMethod yX0_rightwardEdges, .selects RX0 yX0_rightwardEdges yX0_rightwardEdges, .code yX0_rightwardEdges cX0_rightwardEdges 1 (some .int), .fieldLink RX0 13 "HeightLines" "rows" "I"] ++ wsX00)
def wsX0_isCrossed : List Cond := .code yX0_isCrossed cX0_isCrossed 2 (some .boolean) :: ([.methodLink RX0 96 yX0_firstSample, .instanceMethod yX0_firstSample, .selects RX0 yX0_firstSample yX0_firstSample, .initialized RX0, .code yX0_firstSample cX0_firstSample 2 (some .int), .fieldLink RX0 9 "HeightLines" "columns" "I", .methodLink RX0 127 yX0_rightwardEdges, .instanceMethod yX0_rightwardEdges, .selects RX0 yX0_rightwardEdges yX0_rightwardEdges, .code yX0_rightwardEdges cX0_rightwardEdges 1 (some .int), .fieldLink RX0 13 "HeightLines" "rows" "I", .methodLink RX0 130 yX0_isAbove, .instanceMethod yX0_isAbove, .selects RX0 yX0_isAbove yX0_isAbove, .code yX0_isAbove cX0_isAbove 2 (some .boolean), .fieldLink RX0 19 "HeightLines" "samples" "[I", .fieldLink RX0 16 "HeightLines" "twiceHeight" "I", .methodLink RX0 99 yX0_secondSample, .instanceMethod yX0_secondSample, .selects RX0 yX0_secondSample yX0_secondSample, .code yX0_secondSample cX0_secondSample 2 (some .int)] ++ wsX00)
def wsX0_greatestDivisor : List Cond := .code yX0_greatestDivisor cX0_greatestDivisor 6 (some .int) :: ([])
def wsX0_crossing_r1 : List Cond := [Cond.classLink RX0 93 "java/util/NoSuchElementException", Cond.initialized "java/util/NoSuchElementException", Cond.fieldLink RX0 19 "HeightLines" "samples" "[I", Cond.fieldLink RX0 16 "HeightLines" "twiceHeight" "I", Cond.methodLink RX0 102 Lib.Math.abs.name, Cond.static Lib.Math.abs.name, Cond.initialized "java/lang/Math", Cond.code Lib.Math.abs.name Lib.Math.abs.code 1 (some .int), Cond.methodLink RX0 86 yX0_edgeCount, Cond.instanceMethod yX0_edgeCount, Cond.selects RX0 yX0_edgeCount yX0_edgeCount, Cond.initialized RX0, Cond.code yX0_edgeCount cX0_edgeCount 1 (some .int), Cond.fieldLink RX0 13 "HeightLines" "rows" "I", Cond.fieldLink RX0 9 "HeightLines" "columns" "I", Cond.methodLink RX0 127 yX0_rightwardEdges, Cond.instanceMethod yX0_rightwardEdges, Cond.selects RX0 yX0_rightwardEdges yX0_rightwardEdges, Cond.code yX0_rightwardEdges cX0_rightwardEdges 1 (some .int), Cond.methodLink RX0 90 yX0_isCrossed, Cond.instanceMethod yX0_isCrossed, Cond.selects RX0 yX0_isCrossed yX0_isCrossed, Cond.code yX0_isCrossed cX0_isCrossed 2 (some .boolean), Cond.methodLink RX0 96 yX0_firstSample]
def wsX0_crossing_r2 : List Cond := [Cond.instanceMethod yX0_firstSample, Cond.selects RX0 yX0_firstSample yX0_firstSample, Cond.code yX0_firstSample cX0_firstSample 2 (some .int), Cond.methodLink RX0 130 yX0_isAbove, Cond.instanceMethod yX0_isAbove, Cond.selects RX0 yX0_isAbove yX0_isAbove, Cond.code yX0_isAbove cX0_isAbove 2 (some .boolean), Cond.methodLink RX0 99 yX0_secondSample, Cond.instanceMethod yX0_secondSample, Cond.selects RX0 yX0_secondSample yX0_secondSample, Cond.code yX0_secondSample cX0_secondSample 2 (some .int), Cond.methodLink RX0 107 yX0_greatestDivisor, Cond.static yX0_greatestDivisor, Cond.code yX0_greatestDivisor cX0_greatestDivisor 6 (some .int)]
def wsX0_crossing : List Cond := .code yX0_crossing cX0_crossing 7 (some .int) :: ((wsX0_crossing_r1 ++ wsX0_crossing_r2) ++ wsX00 ++ (vx_at0 RX0 95 "java/util/NoSuchElementException" ["java/lang/RuntimeException", "java/lang/Exception"]).filter goodWord)
def wsX0_withinInRow : List Cond := .code yX0_withinInRow cX0_withinInRow 6 (some .int) :: ([.fieldLink RX0 9 "HeightLines" "columns" "I", .fieldLink RX0 35 "HeightLines" "owner" "[I", .methodLink RX0 157 yX0_rightwardEdge, .instanceMethod yX0_rightwardEdge, .selects RX0 yX0_rightwardEdge yX0_rightwardEdge, .initialized RX0, .code yX0_rightwardEdge cX0_rightwardEdge 3 (some .int)] ++ wsX00)
def wsX0_within : List Cond := .code yX0_within cX0_within 4 (some .int) :: ([.fieldLink RX0 13 "HeightLines" "rows" "I", .methodLink RX0 110 yX0_isClosed, .instanceMethod yX0_isClosed, .selects RX0 yX0_isClosed yX0_isClosed, .initialized RX0, .code yX0_isClosed cX0_isClosed 2 (some .boolean), .fieldLink RX0 38 "HeightLines" "openChains" "I", .methodLink RX0 79 yX0_hasChain, .instanceMethod yX0_hasChain, .selects RX0 yX0_hasChain yX0_hasChain, .code yX0_hasChain cX0_hasChain 2 (some .boolean), .fieldLink RX0 41 "HeightLines" "chains" "I", .methodLink RX0 113 yX0_withinInRow, .instanceMethod yX0_withinInRow, .selects RX0 yX0_withinInRow yX0_withinInRow, .code yX0_withinInRow cX0_withinInRow 6 (some .int), .fieldLink RX0 9 "HeightLines" "columns" "I", .fieldLink RX0 35 "HeightLines" "owner" "[I", .methodLink RX0 157 yX0_rightwardEdge, .instanceMethod yX0_rightwardEdge, .selects RX0 yX0_rightwardEdge yX0_rightwardEdge, .code yX0_rightwardEdge cX0_rightwardEdge 3 (some .int)] ++ wsX00)
def wsX0_crossed_r1 : List Cond := [Cond.methodLink RX0 86 yX0_edgeCount, Cond.instanceMethod yX0_edgeCount, Cond.selects RX0 yX0_edgeCount yX0_edgeCount, Cond.initialized RX0, Cond.code yX0_edgeCount cX0_edgeCount 1 (some .int), Cond.fieldLink RX0 13 "HeightLines" "rows" "I", Cond.fieldLink RX0 9 "HeightLines" "columns" "I", Cond.methodLink RX0 127 yX0_rightwardEdges, Cond.instanceMethod yX0_rightwardEdges, Cond.selects RX0 yX0_rightwardEdges yX0_rightwardEdges, Cond.code yX0_rightwardEdges cX0_rightwardEdges 1 (some .int), Cond.methodLink RX0 90 yX0_isCrossed, Cond.instanceMethod yX0_isCrossed, Cond.selects RX0 yX0_isCrossed yX0_isCrossed, Cond.code yX0_isCrossed cX0_isCrossed 2 (some .boolean), Cond.methodLink RX0 96 yX0_firstSample, Cond.instanceMethod yX0_firstSample, Cond.selects RX0 yX0_firstSample yX0_firstSample, Cond.code yX0_firstSample cX0_firstSample 2 (some .int), Cond.methodLink RX0 130 yX0_isAbove, Cond.instanceMethod yX0_isAbove, Cond.selects RX0 yX0_isAbove yX0_isAbove, Cond.code yX0_isAbove cX0_isAbove 2 (some .boolean), Cond.fieldLink RX0 19 "HeightLines" "samples" "[I"]
def wsX0_crossed_r2 : List Cond := [Cond.fieldLink RX0 16 "HeightLines" "twiceHeight" "I", Cond.methodLink RX0 99 yX0_secondSample, Cond.instanceMethod yX0_secondSample, Cond.selects RX0 yX0_secondSample yX0_secondSample, Cond.code yX0_secondSample cX0_secondSample 2 (some .int)]
def wsX0_crossed : List Cond := .code yX0_crossed cX0_crossed 3 (some .int) :: ((wsX0_crossed_r1 ++ wsX0_crossed_r2) ++ wsX00)
def wsX1_init : List Cond := .code yX1_init cX1_init 1 none :: ([.methodLink RX1 1 objectInit, .instanceMethod objectInit, .code objectInit ⟨#[0xb1]⟩ 1 none, .fieldLink RX1 7 "HeightLinesModel" "w" "I", .fieldLink RX1 13 "HeightLinesModel" "h" "I", .fieldLink RX1 16 "HeightLinesModel" "twice" "I", .arrayClass .int, .fieldLink RX1 19 "HeightLinesModel" "samples" "[I", .fieldLink RX1 23 "HeightLinesModel" "edges" "[I", .fieldLink RX1 26 "HeightLinesModel" "begins" "[I", .arrayClass .boolean, .fieldLink RX1 29 "HeightLinesModel" "closed" "[Z", .fieldLink RX1 33 "HeightLinesModel" "used" "[Z"] ++ wsX10)
def wsX1_thrown : List Cond := .code yX1_thrown cX1_thrown 1 (some .int) :: ([.fieldLink RX1 36 "HeightLinesModel" "thrown" "I"] ++ wsX10)
def wsX1_field : List Cond := .code yX1_field cX1_field 4 (some .boolean) :: ([.fieldLink RX1 36 "HeightLinesModel" "thrown" "I", .fieldLink RX1 7 "HeightLinesModel" "w" "I", .fieldLink RX1 13 "HeightLinesModel" "h" "I", .fieldLink RX1 39 "HeightLinesModel" "chains" "I", .fieldLink RX1 19 "HeightLinesModel" "samples" "[I"] ++ wsX10)
def wsX1_set : List Cond := .code yX1_set cX1_set 4 (some .boolean) :: ([.fieldLink RX1 36 "HeightLinesModel" "thrown" "I", .fieldLink RX1 7 "HeightLinesModel" "w" "I", .fieldLink RX1 13 "HeightLinesModel" "h" "I", .constant RX1 42 (-1000000), .constant RX1 43 (1000000), .fieldLink RX1 19 "HeightLinesModel" "samples" "[I"] ++ wsX10)
def wsX1_row : List Cond := .code yX1_row cX1_row 7 (some .boolean) :: ([.fieldLink RX1 36 "HeightLinesModel" "thrown" "I", .fieldLink RX1 13 "HeightLinesModel" "h" "I", .fieldLink RX1 7 "HeightLinesModel" "w" "I", .fieldLink RX1 19 "HeightLinesModel" "samples" "[I", .constantLong RX1 44 (-1000000), .constant RX1 42 (-1000000), .constantLong RX1 46 (1000000), .constant RX1 43 (1000000)] ++ wsX10)
def wsX1_height : List Cond := .code yX1_height cX1_height 2 (some .boolean) :: ([.fieldLink RX1 36 "HeightLinesModel" "thrown" "I", .constant RX1 48 (-1999999), .constant RX1 49 (1999999), .fieldLink RX1 16 "HeightLinesModel" "twice" "I"] ++ wsX10)
def wsX1_all : List Cond := .code yX1_all cX1_all 1 (some .int) :: ([.fieldLink RX1 13 "HeightLinesModel" "h" "I", .fieldLink RX1 7 "HeightLinesModel" "w" "I"] ++ wsX10)
def wsX1_isAcross : List Cond := .code yX1_isAcross cX1_isAcross 2 (some .boolean) :: ([.fieldLink RX1 13 "HeightLinesModel" "h" "I", .fieldLink RX1 7 "HeightLinesModel" "w" "I"] ++ wsX10)
def wsX1_xOf : List Cond := .code yX1_xOf cX1_xOf 2 (some .int) :: ([.fieldLink RX1 7 "HeightLinesModel" "w" "I", .fieldLink RX1 13 "HeightLinesModel" "h" "I", .methodLink RX1 50 yX1_isAcross, .instanceMethod yX1_isAcross, .selects RX1 yX1_isAcross yX1_isAcross, .initialized RX1, .code yX1_isAcross cX1_isAcross 2 (some .boolean)] ++ wsX10)
def wsX1_yOf : List Cond := .code yX1_yOf cX1_yOf 2 (some .int) :: ([.fieldLink RX1 7 "HeightLinesModel" "w" "I", .fieldLink RX1 13 "HeightLinesModel" "h" "I", .methodLink RX1 50 yX1_isAcross, .instanceMethod yX1_isAcross, .selects RX1 yX1_isAcross yX1_isAcross, .initialized RX1, .code yX1_isAcross cX1_isAcross 2 (some .boolean)] ++ wsX10)
def wsX1_at : List Cond := .code yX1_at cX1_at 3 (some .int) :: ([.fieldLink RX1 19 "HeightLinesModel" "samples" "[I"] ++ wsX10)
def wsX1_first : List Cond := .code yX1_first cX1_first 2 (some .int) :: ([.methodLink RX1 54 yX1_xOf, .instanceMethod yX1_xOf, .selects RX1 yX1_xOf yX1_xOf, .initialized RX1, .code yX1_xOf cX1_xOf 2 (some .int), .fieldLink RX1 7 "HeightLinesModel" "w" "I", .fieldLink RX1 13 "HeightLinesModel" "h" "I", .methodLink RX1 50 yX1_isAcross, .instanceMethod yX1_isAcross, .selects RX1 yX1_isAcross yX1_isAcross, .code yX1_isAcross cX1_isAcross 2 (some .boolean), .methodLink RX1 58 yX1_yOf, .instanceMethod yX1_yOf, .selects RX1 yX1_yOf yX1_yOf, .code yX1_yOf cX1_yOf 2 (some .int), .methodLink RX1 61 yX1_at, .instanceMethod yX1_at, .selects RX1 yX1_at yX1_at, .code yX1_at cX1_at 3 (some .int), .fieldLink RX1 19 "HeightLinesModel" "samples" "[I"] ++ wsX10)
def wsX1_second : List Cond := .code yX1_second cX1_second 2 (some .int) :: ([.methodLink RX1 50 yX1_isAcross, .instanceMethod yX1_isAcross, .selects RX1 yX1_isAcross yX1_isAcross, .initialized RX1, .code yX1_isAcross cX1_isAcross 2 (some .boolean), .fieldLink RX1 13 "HeightLinesModel" "h" "I", .fieldLink RX1 7 "HeightLinesModel" "w" "I", .methodLink RX1 54 yX1_xOf, .instanceMethod yX1_xOf, .selects RX1 yX1_xOf yX1_xOf, .code yX1_xOf cX1_xOf 2 (some .int), .methodLink RX1 58 yX1_yOf, .instanceMethod yX1_yOf, .selects RX1 yX1_yOf yX1_yOf, .code yX1_yOf cX1_yOf 2 (some .int), .methodLink RX1 61 yX1_at, .instanceMethod yX1_at, .selects RX1 yX1_at yX1_at, .code yX1_at cX1_at 3 (some .int), .fieldLink RX1 19 "HeightLinesModel" "samples" "[I"] ++ wsX10)
def wsX1_isAbove : List Cond := .code yX1_isAbove cX1_isAbove 2 (some .boolean) :: ([.fieldLink RX1 16 "HeightLinesModel" "twice" "I"] ++ wsX10)
def wsX1_isCrossed_r1 : List Cond := [Cond.methodLink RX1 65 yX1_first, Cond.instanceMethod yX1_first, Cond.selects RX1 yX1_first yX1_first, Cond.initialized RX1, Cond.code yX1_first cX1_first 2 (some .int), Cond.methodLink RX1 54 yX1_xOf, Cond.instanceMethod yX1_xOf, Cond.selects RX1 yX1_xOf yX1_xOf, Cond.code yX1_xOf cX1_xOf 2 (some .int), Cond.fieldLink RX1 7 "HeightLinesModel" "w" "I", Cond.fieldLink RX1 13 "HeightLinesModel" "h" "I", Cond.methodLink RX1 50 yX1_isAcross, Cond.instanceMethod yX1_isAcross, Cond.selects RX1 yX1_isAcross yX1_isAcross, Cond.code yX1_isAcross cX1_isAcross 2 (some .boolean), Cond.methodLink RX1 58 yX1_yOf, Cond.instanceMethod yX1_yOf, Cond.selects RX1 yX1_yOf yX1_yOf, Cond.code yX1_yOf cX1_yOf 2 (some .int), Cond.methodLink RX1 61 yX1_at, Cond.instanceMethod yX1_at, Cond.selects RX1 yX1_at yX1_at, Cond.code yX1_at cX1_at 3 (some .int), Cond.fieldLink RX1 19 "HeightLinesModel" "samples" "[I"]
def wsX1_isCrossed_r2 : List Cond := [Cond.methodLink RX1 68 yX1_isAbove, Cond.instanceMethod yX1_isAbove, Cond.selects RX1 yX1_isAbove yX1_isAbove, Cond.code yX1_isAbove cX1_isAbove 2 (some .boolean), Cond.fieldLink RX1 16 "HeightLinesModel" "twice" "I", Cond.methodLink RX1 71 yX1_second, Cond.instanceMethod yX1_second, Cond.selects RX1 yX1_second yX1_second, Cond.code yX1_second cX1_second 2 (some .int)]
def wsX1_isCrossed : List Cond := .code yX1_isCrossed cX1_isCrossed 2 (some .boolean) :: ((wsX1_isCrossed_r1 ++ wsX1_isCrossed_r2) ++ wsX10)
def wsX1_corner : List Cond := .code yX1_corner cX1_corner 4 (some .int) :: ([.methodLink RX1 61 yX1_at, .instanceMethod yX1_at, .selects RX1 yX1_at yX1_at, .initialized RX1, .code yX1_at cX1_at 3 (some .int), .fieldLink RX1 19 "HeightLinesModel" "samples" "[I"] ++ wsX10)
def wsX1_edgeOf : List Cond := .code yX1_edgeOf cX1_edgeOf 5 (some .int) :: ([.fieldLink RX1 13 "HeightLinesModel" "h" "I", .fieldLink RX1 7 "HeightLinesModel" "w" "I"] ++ wsX10)
def wsX1_isDown : List Cond := .code yX1_isDown cX1_isDown 4 (some .boolean) :: ([.methodLink RX1 74 yX1_corner, .instanceMethod yX1_corner, .selects RX1 yX1_corner yX1_corner, .initialized RX1, .code yX1_corner cX1_corner 4 (some .int), .methodLink RX1 61 yX1_at, .instanceMethod yX1_at, .selects RX1 yX1_at yX1_at, .code yX1_at cX1_at 3 (some .int), .fieldLink RX1 19 "HeightLinesModel" "samples" "[I", .methodLink RX1 68 yX1_isAbove, .instanceMethod yX1_isAbove, .selects RX1 yX1_isAbove yX1_isAbove, .code yX1_isAbove cX1_isAbove 2 (some .boolean), .fieldLink RX1 16 "HeightLinesModel" "twice" "I"] ++ wsX10)
def wsX1_isUp : List Cond := .code yX1_isUp cX1_isUp 4 (some .boolean) :: ([.methodLink RX1 74 yX1_corner, .instanceMethod yX1_corner, .selects RX1 yX1_corner yX1_corner, .initialized RX1, .code yX1_corner cX1_corner 4 (some .int), .methodLink RX1 61 yX1_at, .instanceMethod yX1_at, .selects RX1 yX1_at yX1_at, .code yX1_at cX1_at 3 (some .int), .fieldLink RX1 19 "HeightLinesModel" "samples" "[I", .methodLink RX1 68 yX1_isAbove, .instanceMethod yX1_isAbove, .selects RX1 yX1_isAbove yX1_isAbove, .code yX1_isAbove cX1_isAbove 2 (some .boolean), .fieldLink RX1 16 "HeightLinesModel" "twice" "I"] ++ wsX10)
def wsX1_isMiddleAbove : List Cond := .code yX1_isMiddleAbove cX1_isMiddleAbove 15 (some .boolean) :: ([.constantLong RX1 78 (2), .fieldLink RX1 16 "HeightLinesModel" "twice" "I", .methodLink RX1 74 yX1_corner, .instanceMethod yX1_corner, .selects RX1 yX1_corner yX1_corner, .initialized RX1, .code yX1_corner cX1_corner 4 (some .int), .methodLink RX1 61 yX1_at, .instanceMethod yX1_at, .selects RX1 yX1_at yX1_at, .code yX1_at cX1_at 3 (some .int), .fieldLink RX1 19 "HeightLinesModel" "samples" "[I"] ++ wsX10)
def wsX1_leads_r1 : List Cond := [Cond.methodLink RX1 80 yX1_isUp, Cond.instanceMethod yX1_isUp, Cond.selects RX1 yX1_isUp yX1_isUp, Cond.initialized RX1, Cond.code yX1_isUp cX1_isUp 4 (some .boolean), Cond.methodLink RX1 74 yX1_corner, Cond.instanceMethod yX1_corner, Cond.selects RX1 yX1_corner yX1_corner, Cond.code yX1_corner cX1_corner 4 (some .int), Cond.methodLink RX1 61 yX1_at, Cond.instanceMethod yX1_at, Cond.selects RX1 yX1_at yX1_at, Cond.code yX1_at cX1_at 3 (some .int), Cond.fieldLink RX1 19 "HeightLinesModel" "samples" "[I", Cond.methodLink RX1 68 yX1_isAbove, Cond.instanceMethod yX1_isAbove, Cond.selects RX1 yX1_isAbove yX1_isAbove, Cond.code yX1_isAbove cX1_isAbove 2 (some .boolean), Cond.fieldLink RX1 16 "HeightLinesModel" "twice" "I", Cond.methodLink RX1 84 yX1_isMiddleAbove, Cond.instanceMethod yX1_isMiddleAbove, Cond.selects RX1 yX1_isMiddleAbove yX1_isMiddleAbove, Cond.code yX1_isMiddleAbove cX1_isMiddleAbove 15 (some .boolean), Cond.constantLong RX1 78 (2)]
def wsX1_leads_r2 : List Cond := [Cond.methodLink RX1 88 yX1_edgeOf, Cond.instanceMethod yX1_edgeOf, Cond.selects RX1 yX1_edgeOf yX1_edgeOf, Cond.code yX1_edgeOf cX1_edgeOf 5 (some .int), Cond.fieldLink RX1 13 "HeightLinesModel" "h" "I", Cond.fieldLink RX1 7 "HeightLinesModel" "w" "I"]
def wsX1_leads : List Cond := .code yX1_leads cX1_leads 6 (some .int) :: ((wsX1_leads_r1 ++ wsX1_leads_r2) ++ wsX10)
def wsX1_isCell : List Cond := .code yX1_isCell cX1_isCell 3 (some .boolean) :: ([.fieldLink RX1 7 "HeightLinesModel" "w" "I", .fieldLink RX1 13 "HeightLinesModel" "h" "I"] ++ wsX10)
def wsX1_next_r1 : List Cond := [Cond.methodLink RX1 54 yX1_xOf, Cond.instanceMethod yX1_xOf, Cond.selects RX1 yX1_xOf yX1_xOf, Cond.initialized RX1, Cond.code yX1_xOf cX1_xOf 2 (some .int), Cond.fieldLink RX1 7 "HeightLinesModel" "w" "I", Cond.fieldLink RX1 13 "HeightLinesModel" "h" "I", Cond.methodLink RX1 50 yX1_isAcross, Cond.instanceMethod yX1_isAcross, Cond.selects RX1 yX1_isAcross yX1_isAcross, Cond.code yX1_isAcross cX1_isAcross 2 (some .boolean), Cond.methodLink RX1 58 yX1_yOf, Cond.instanceMethod yX1_yOf, Cond.selects RX1 yX1_yOf yX1_yOf, Cond.code yX1_yOf cX1_yOf 2 (some .int), Cond.methodLink RX1 91 yX1_isCell, Cond.instanceMethod yX1_isCell, Cond.selects RX1 yX1_isCell yX1_isCell, Cond.code yX1_isCell cX1_isCell 3 (some .boolean), Cond.methodLink RX1 94 yX1_isDown, Cond.instanceMethod yX1_isDown, Cond.selects RX1 yX1_isDown yX1_isDown, Cond.code yX1_isDown cX1_isDown 4 (some .boolean), Cond.methodLink RX1 74 yX1_corner]
def wsX1_next_r2 : List Cond := [Cond.instanceMethod yX1_corner, Cond.selects RX1 yX1_corner yX1_corner, Cond.code yX1_corner cX1_corner 4 (some .int), Cond.methodLink RX1 61 yX1_at, Cond.instanceMethod yX1_at, Cond.selects RX1 yX1_at yX1_at, Cond.code yX1_at cX1_at 3 (some .int), Cond.fieldLink RX1 19 "HeightLinesModel" "samples" "[I", Cond.methodLink RX1 68 yX1_isAbove, Cond.instanceMethod yX1_isAbove, Cond.selects RX1 yX1_isAbove yX1_isAbove, Cond.code yX1_isAbove cX1_isAbove 2 (some .boolean), Cond.fieldLink RX1 16 "HeightLinesModel" "twice" "I", Cond.methodLink RX1 97 yX1_leads, Cond.instanceMethod yX1_leads, Cond.selects RX1 yX1_leads yX1_leads, Cond.code yX1_leads cX1_leads 6 (some .int), Cond.methodLink RX1 80 yX1_isUp, Cond.instanceMethod yX1_isUp, Cond.selects RX1 yX1_isUp yX1_isUp, Cond.code yX1_isUp cX1_isUp 4 (some .boolean), Cond.methodLink RX1 84 yX1_isMiddleAbove, Cond.instanceMethod yX1_isMiddleAbove, Cond.selects RX1 yX1_isMiddleAbove yX1_isMiddleAbove]
def wsX1_next_r3 : List Cond := [Cond.code yX1_isMiddleAbove cX1_isMiddleAbove 15 (some .boolean), Cond.constantLong RX1 78 (2), Cond.methodLink RX1 88 yX1_edgeOf, Cond.instanceMethod yX1_edgeOf, Cond.selects RX1 yX1_edgeOf yX1_edgeOf, Cond.code yX1_edgeOf cX1_edgeOf 5 (some .int)]
def wsX1_next : List Cond := .code yX1_next cX1_next 9 (some .int) :: ((wsX1_next_r1 ++ (wsX1_next_r2 ++ wsX1_next_r3)) ++ wsX10)
def wsX1_isLedTo_r1 : List Cond := [Cond.methodLink RX1 54 yX1_xOf, Cond.instanceMethod yX1_xOf, Cond.selects RX1 yX1_xOf yX1_xOf, Cond.initialized RX1, Cond.code yX1_xOf cX1_xOf 2 (some .int), Cond.fieldLink RX1 7 "HeightLinesModel" "w" "I", Cond.fieldLink RX1 13 "HeightLinesModel" "h" "I", Cond.methodLink RX1 50 yX1_isAcross, Cond.instanceMethod yX1_isAcross, Cond.selects RX1 yX1_isAcross yX1_isAcross, Cond.code yX1_isAcross cX1_isAcross 2 (some .boolean), Cond.methodLink RX1 58 yX1_yOf, Cond.instanceMethod yX1_yOf, Cond.selects RX1 yX1_yOf yX1_yOf, Cond.code yX1_yOf cX1_yOf 2 (some .int), Cond.methodLink RX1 91 yX1_isCell, Cond.instanceMethod yX1_isCell, Cond.selects RX1 yX1_isCell yX1_isCell, Cond.code yX1_isCell cX1_isCell 3 (some .boolean), Cond.methodLink RX1 80 yX1_isUp, Cond.instanceMethod yX1_isUp, Cond.selects RX1 yX1_isUp yX1_isUp, Cond.code yX1_isUp cX1_isUp 4 (some .boolean), Cond.methodLink RX1 74 yX1_corner]
def wsX1_isLedTo_r2 : List Cond := [Cond.instanceMethod yX1_corner, Cond.selects RX1 yX1_corner yX1_corner, Cond.code yX1_corner cX1_corner 4 (some .int), Cond.methodLink RX1 61 yX1_at, Cond.instanceMethod yX1_at, Cond.selects RX1 yX1_at yX1_at, Cond.code yX1_at cX1_at 3 (some .int), Cond.fieldLink RX1 19 "HeightLinesModel" "samples" "[I", Cond.methodLink RX1 68 yX1_isAbove, Cond.instanceMethod yX1_isAbove, Cond.selects RX1 yX1_isAbove yX1_isAbove, Cond.code yX1_isAbove cX1_isAbove 2 (some .boolean), Cond.fieldLink RX1 16 "HeightLinesModel" "twice" "I"]
def wsX1_isLedTo : List Cond := .code yX1_isLedTo cX1_isLedTo 9 (some .boolean) :: ((wsX1_isLedTo_r1 ++ wsX1_isLedTo_r2) ++ wsX10)
def wsX1_chain_r1 : List Cond := [Cond.fieldLink RX1 26 "HeightLinesModel" "begins" "[I", Cond.fieldLink RX1 39 "HeightLinesModel" "chains" "I", Cond.fieldLink RX1 33 "HeightLinesModel" "used" "[Z", Cond.fieldLink RX1 23 "HeightLinesModel" "edges" "[I", Cond.fieldLink RX1 29 "HeightLinesModel" "closed" "[Z", Cond.methodLink RX1 100 yX1_next, Cond.instanceMethod yX1_next, Cond.selects RX1 yX1_next yX1_next, Cond.initialized RX1, Cond.code yX1_next cX1_next 9 (some .int), Cond.methodLink RX1 54 yX1_xOf, Cond.instanceMethod yX1_xOf, Cond.selects RX1 yX1_xOf yX1_xOf, Cond.code yX1_xOf cX1_xOf 2 (some .int), Cond.fieldLink RX1 7 "HeightLinesModel" "w" "I", Cond.fieldLink RX1 13 "HeightLinesModel" "h" "I", Cond.methodLink RX1 50 yX1_isAcross, Cond.instanceMethod yX1_isAcross, Cond.selects RX1 yX1_isAcross yX1_isAcross, Cond.code yX1_isAcross cX1_isAcross 2 (some .boolean), Cond.methodLink RX1 58 yX1_yOf, Cond.instanceMethod yX1_yOf, Cond.selects RX1 yX1_yOf yX1_yOf, Cond.code yX1_yOf cX1_yOf 2 (some .int)]
def wsX1_chain_r2 : List Cond := [Cond.methodLink RX1 91 yX1_isCell, Cond.instanceMethod yX1_isCell, Cond.selects RX1 yX1_isCell yX1_isCell, Cond.code yX1_isCell cX1_isCell 3 (some .boolean), Cond.methodLink RX1 94 yX1_isDown, Cond.instanceMethod yX1_isDown, Cond.selects RX1 yX1_isDown yX1_isDown, Cond.code yX1_isDown cX1_isDown 4 (some .boolean), Cond.methodLink RX1 74 yX1_corner, Cond.instanceMethod yX1_corner, Cond.selects RX1 yX1_corner yX1_corner, Cond.code yX1_corner cX1_corner 4 (some .int), Cond.methodLink RX1 61 yX1_at, Cond.instanceMethod yX1_at, Cond.selects RX1 yX1_at yX1_at, Cond.code yX1_at cX1_at 3 (some .int), Cond.fieldLink RX1 19 "HeightLinesModel" "samples" "[I", Cond.methodLink RX1 68 yX1_isAbove, Cond.instanceMethod yX1_isAbove, Cond.selects RX1 yX1_isAbove yX1_isAbove, Cond.code yX1_isAbove cX1_isAbove 2 (some .boolean), Cond.fieldLink RX1 16 "HeightLinesModel" "twice" "I", Cond.methodLink RX1 97 yX1_leads, Cond.instanceMethod yX1_leads]
def wsX1_chain_r3 : List Cond := [Cond.selects RX1 yX1_leads yX1_leads, Cond.code yX1_leads cX1_leads 6 (some .int), Cond.methodLink RX1 80 yX1_isUp, Cond.instanceMethod yX1_isUp, Cond.selects RX1 yX1_isUp yX1_isUp, Cond.code yX1_isUp cX1_isUp 4 (some .boolean), Cond.methodLink RX1 84 yX1_isMiddleAbove, Cond.instanceMethod yX1_isMiddleAbove, Cond.selects RX1 yX1_isMiddleAbove yX1_isMiddleAbove, Cond.code yX1_isMiddleAbove cX1_isMiddleAbove 15 (some .boolean), Cond.constantLong RX1 78 (2), Cond.methodLink RX1 88 yX1_edgeOf, Cond.instanceMethod yX1_edgeOf, Cond.selects RX1 yX1_edgeOf yX1_edgeOf, Cond.code yX1_edgeOf cX1_edgeOf 5 (some .int)]
def wsX1_chain : List Cond := .code yX1_chain cX1_chain 5 none :: ((wsX1_chain_r1 ++ (wsX1_chain_r2 ++ wsX1_chain_r3)) ++ wsX10)
def wsX1_make_r1 : List Cond := [Cond.fieldLink RX1 36 "HeightLinesModel" "thrown" "I", Cond.fieldLink RX1 39 "HeightLinesModel" "chains" "I", Cond.fieldLink RX1 26 "HeightLinesModel" "begins" "[I", Cond.fieldLink RX1 33 "HeightLinesModel" "used" "[Z", Cond.methodLink RX1 103 yX1_all, Cond.instanceMethod yX1_all, Cond.selects RX1 yX1_all yX1_all, Cond.initialized RX1, Cond.code yX1_all cX1_all 1 (some .int), Cond.fieldLink RX1 13 "HeightLinesModel" "h" "I", Cond.fieldLink RX1 7 "HeightLinesModel" "w" "I", Cond.methodLink RX1 107 yX1_isCrossed, Cond.instanceMethod yX1_isCrossed, Cond.selects RX1 yX1_isCrossed yX1_isCrossed, Cond.code yX1_isCrossed cX1_isCrossed 2 (some .boolean), Cond.methodLink RX1 65 yX1_first, Cond.instanceMethod yX1_first, Cond.selects RX1 yX1_first yX1_first, Cond.code yX1_first cX1_first 2 (some .int), Cond.methodLink RX1 54 yX1_xOf, Cond.instanceMethod yX1_xOf, Cond.selects RX1 yX1_xOf yX1_xOf, Cond.code yX1_xOf cX1_xOf 2 (some .int), Cond.methodLink RX1 50 yX1_isAcross]
def wsX1_make_r2 : List Cond := [Cond.instanceMethod yX1_isAcross, Cond.selects RX1 yX1_isAcross yX1_isAcross, Cond.code yX1_isAcross cX1_isAcross 2 (some .boolean), Cond.methodLink RX1 58 yX1_yOf, Cond.instanceMethod yX1_yOf, Cond.selects RX1 yX1_yOf yX1_yOf, Cond.code yX1_yOf cX1_yOf 2 (some .int), Cond.methodLink RX1 61 yX1_at, Cond.instanceMethod yX1_at, Cond.selects RX1 yX1_at yX1_at, Cond.code yX1_at cX1_at 3 (some .int), Cond.fieldLink RX1 19 "HeightLinesModel" "samples" "[I", Cond.methodLink RX1 68 yX1_isAbove, Cond.instanceMethod yX1_isAbove, Cond.selects RX1 yX1_isAbove yX1_isAbove, Cond.code yX1_isAbove cX1_isAbove 2 (some .boolean), Cond.fieldLink RX1 16 "HeightLinesModel" "twice" "I", Cond.methodLink RX1 71 yX1_second, Cond.instanceMethod yX1_second, Cond.selects RX1 yX1_second yX1_second, Cond.code yX1_second cX1_second 2 (some .int), Cond.methodLink RX1 110 yX1_isLedTo, Cond.instanceMethod yX1_isLedTo, Cond.selects RX1 yX1_isLedTo yX1_isLedTo]
def wsX1_make_r3 : List Cond := [Cond.code yX1_isLedTo cX1_isLedTo 9 (some .boolean), Cond.methodLink RX1 91 yX1_isCell, Cond.instanceMethod yX1_isCell, Cond.selects RX1 yX1_isCell yX1_isCell, Cond.code yX1_isCell cX1_isCell 3 (some .boolean), Cond.methodLink RX1 80 yX1_isUp, Cond.instanceMethod yX1_isUp, Cond.selects RX1 yX1_isUp yX1_isUp, Cond.code yX1_isUp cX1_isUp 4 (some .boolean), Cond.methodLink RX1 74 yX1_corner, Cond.instanceMethod yX1_corner, Cond.selects RX1 yX1_corner yX1_corner, Cond.code yX1_corner cX1_corner 4 (some .int), Cond.methodLink RX1 113 yX1_chain, Cond.instanceMethod yX1_chain, Cond.selects RX1 yX1_chain yX1_chain, Cond.code yX1_chain cX1_chain 5 none, Cond.fieldLink RX1 23 "HeightLinesModel" "edges" "[I", Cond.fieldLink RX1 29 "HeightLinesModel" "closed" "[Z", Cond.methodLink RX1 100 yX1_next, Cond.instanceMethod yX1_next, Cond.selects RX1 yX1_next yX1_next, Cond.code yX1_next cX1_next 9 (some .int), Cond.methodLink RX1 94 yX1_isDown]
def wsX1_make_r4 : List Cond := [Cond.instanceMethod yX1_isDown, Cond.selects RX1 yX1_isDown yX1_isDown, Cond.code yX1_isDown cX1_isDown 4 (some .boolean), Cond.methodLink RX1 97 yX1_leads, Cond.instanceMethod yX1_leads, Cond.selects RX1 yX1_leads yX1_leads, Cond.code yX1_leads cX1_leads 6 (some .int), Cond.methodLink RX1 84 yX1_isMiddleAbove, Cond.instanceMethod yX1_isMiddleAbove, Cond.selects RX1 yX1_isMiddleAbove yX1_isMiddleAbove, Cond.code yX1_isMiddleAbove cX1_isMiddleAbove 15 (some .boolean), Cond.constantLong RX1 78 (2), Cond.methodLink RX1 88 yX1_edgeOf, Cond.instanceMethod yX1_edgeOf, Cond.selects RX1 yX1_edgeOf yX1_edgeOf, Cond.code yX1_edgeOf cX1_edgeOf 5 (some .int)]
def wsX1_make : List Cond := .code yX1_make cX1_make 2 (some .int) :: ((wsX1_make_r1 ++ (wsX1_make_r2 ++ (wsX1_make_r3 ++ wsX1_make_r4))) ++ wsX10)
def wsX1_isChain : List Cond := .code yX1_isChain cX1_isChain 2 (some .boolean) :: ([.fieldLink RX1 39 "HeightLinesModel" "chains" "I"] ++ wsX10)
def wsX1_size : List Cond := .code yX1_size cX1_size 2 (some .int) :: ([.fieldLink RX1 36 "HeightLinesModel" "thrown" "I", .fieldLink RX1 26 "HeightLinesModel" "begins" "[I", .methodLink RX1 117 yX1_isChain, .instanceMethod yX1_isChain, .selects RX1 yX1_isChain yX1_isChain, .initialized RX1, .code yX1_isChain cX1_isChain 2 (some .boolean), .fieldLink RX1 39 "HeightLinesModel" "chains" "I"] ++ wsX10)
def wsX1_isClosed : List Cond := .code yX1_isClosed cX1_isClosed 2 (some .boolean) :: ([.fieldLink RX1 36 "HeightLinesModel" "thrown" "I", .fieldLink RX1 29 "HeightLinesModel" "closed" "[Z", .methodLink RX1 117 yX1_isChain, .instanceMethod yX1_isChain, .selects RX1 yX1_isChain yX1_isChain, .initialized RX1, .code yX1_isChain cX1_isChain 2 (some .boolean), .fieldLink RX1 39 "HeightLinesModel" "chains" "I"] ++ wsX10)
def wsX1_edge : List Cond := .code yX1_edge cX1_edge 3 (some .int) :: ([.fieldLink RX1 36 "HeightLinesModel" "thrown" "I", .fieldLink RX1 26 "HeightLinesModel" "begins" "[I", .fieldLink RX1 23 "HeightLinesModel" "edges" "[I", .methodLink RX1 117 yX1_isChain, .instanceMethod yX1_isChain, .selects RX1 yX1_isChain yX1_isChain, .initialized RX1, .code yX1_isChain cX1_isChain 2 (some .boolean), .fieldLink RX1 39 "HeightLinesModel" "chains" "I"] ++ wsX10)
def wsX1_crossing_r1 : List Cond := [Cond.fieldLink RX1 36 "HeightLinesModel" "thrown" "I", Cond.fieldLink RX1 16 "HeightLinesModel" "twice" "I", Cond.methodLink RX1 103 yX1_all, Cond.instanceMethod yX1_all, Cond.selects RX1 yX1_all yX1_all, Cond.initialized RX1, Cond.code yX1_all cX1_all 1 (some .int), Cond.fieldLink RX1 13 "HeightLinesModel" "h" "I", Cond.fieldLink RX1 7 "HeightLinesModel" "w" "I", Cond.methodLink RX1 107 yX1_isCrossed, Cond.instanceMethod yX1_isCrossed, Cond.selects RX1 yX1_isCrossed yX1_isCrossed, Cond.code yX1_isCrossed cX1_isCrossed 2 (some .boolean), Cond.methodLink RX1 65 yX1_first, Cond.instanceMethod yX1_first, Cond.selects RX1 yX1_first yX1_first, Cond.code yX1_first cX1_first 2 (some .int), Cond.methodLink RX1 54 yX1_xOf, Cond.instanceMethod yX1_xOf, Cond.selects RX1 yX1_xOf yX1_xOf, Cond.code yX1_xOf cX1_xOf 2 (some .int), Cond.methodLink RX1 50 yX1_isAcross, Cond.instanceMethod yX1_isAcross, Cond.selects RX1 yX1_isAcross yX1_isAcross]
def wsX1_crossing_r2 : List Cond := [Cond.code yX1_isAcross cX1_isAcross 2 (some .boolean), Cond.methodLink RX1 58 yX1_yOf, Cond.instanceMethod yX1_yOf, Cond.selects RX1 yX1_yOf yX1_yOf, Cond.code yX1_yOf cX1_yOf 2 (some .int), Cond.methodLink RX1 61 yX1_at, Cond.instanceMethod yX1_at, Cond.selects RX1 yX1_at yX1_at, Cond.code yX1_at cX1_at 3 (some .int), Cond.fieldLink RX1 19 "HeightLinesModel" "samples" "[I", Cond.methodLink RX1 68 yX1_isAbove, Cond.instanceMethod yX1_isAbove, Cond.selects RX1 yX1_isAbove yX1_isAbove, Cond.code yX1_isAbove cX1_isAbove 2 (some .boolean), Cond.methodLink RX1 71 yX1_second, Cond.instanceMethod yX1_second, Cond.selects RX1 yX1_second yX1_second, Cond.code yX1_second cX1_second 2 (some .int)]
def wsX1_crossing : List Cond := .code yX1_crossing cX1_crossing 9 (some .int) :: ((wsX1_crossing_r1 ++ wsX1_crossing_r2) ++ wsX10)
def wsX1_within : List Cond := .code yX1_within cX1_within 7 (some .int) :: ([.fieldLink RX1 36 "HeightLinesModel" "thrown" "I", .fieldLink RX1 29 "HeightLinesModel" "closed" "[Z", .fieldLink RX1 13 "HeightLinesModel" "h" "I", .fieldLink RX1 7 "HeightLinesModel" "w" "I", .fieldLink RX1 26 "HeightLinesModel" "begins" "[I", .fieldLink RX1 23 "HeightLinesModel" "edges" "[I", .methodLink RX1 117 yX1_isChain, .instanceMethod yX1_isChain, .selects RX1 yX1_isChain yX1_isChain, .initialized RX1, .code yX1_isChain cX1_isChain 2 (some .boolean), .fieldLink RX1 39 "HeightLinesModel" "chains" "I", .methodLink RX1 50 yX1_isAcross, .instanceMethod yX1_isAcross, .selects RX1 yX1_isAcross yX1_isAcross, .code yX1_isAcross cX1_isAcross 2 (some .boolean), .methodLink RX1 58 yX1_yOf, .instanceMethod yX1_yOf, .selects RX1 yX1_yOf yX1_yOf, .code yX1_yOf cX1_yOf 2 (some .int), .methodLink RX1 54 yX1_xOf, .instanceMethod yX1_xOf, .selects RX1 yX1_xOf yX1_xOf, .code yX1_xOf cX1_xOf 2 (some .int)] ++ wsX10)
def wsX1_crossed_r1 : List Cond := [Cond.fieldLink RX1 36 "HeightLinesModel" "thrown" "I", Cond.methodLink RX1 103 yX1_all, Cond.instanceMethod yX1_all, Cond.selects RX1 yX1_all yX1_all, Cond.initialized RX1, Cond.code yX1_all cX1_all 1 (some .int), Cond.fieldLink RX1 13 "HeightLinesModel" "h" "I", Cond.fieldLink RX1 7 "HeightLinesModel" "w" "I", Cond.methodLink RX1 107 yX1_isCrossed, Cond.instanceMethod yX1_isCrossed, Cond.selects RX1 yX1_isCrossed yX1_isCrossed, Cond.code yX1_isCrossed cX1_isCrossed 2 (some .boolean), Cond.methodLink RX1 65 yX1_first, Cond.instanceMethod yX1_first, Cond.selects RX1 yX1_first yX1_first, Cond.code yX1_first cX1_first 2 (some .int), Cond.methodLink RX1 54 yX1_xOf, Cond.instanceMethod yX1_xOf, Cond.selects RX1 yX1_xOf yX1_xOf, Cond.code yX1_xOf cX1_xOf 2 (some .int), Cond.methodLink RX1 50 yX1_isAcross, Cond.instanceMethod yX1_isAcross, Cond.selects RX1 yX1_isAcross yX1_isAcross, Cond.code yX1_isAcross cX1_isAcross 2 (some .boolean)]
def wsX1_crossed_r2 : List Cond := [Cond.methodLink RX1 58 yX1_yOf, Cond.instanceMethod yX1_yOf, Cond.selects RX1 yX1_yOf yX1_yOf, Cond.code yX1_yOf cX1_yOf 2 (some .int), Cond.methodLink RX1 61 yX1_at, Cond.instanceMethod yX1_at, Cond.selects RX1 yX1_at yX1_at, Cond.code yX1_at cX1_at 3 (some .int), Cond.fieldLink RX1 19 "HeightLinesModel" "samples" "[I", Cond.methodLink RX1 68 yX1_isAbove, Cond.instanceMethod yX1_isAbove, Cond.selects RX1 yX1_isAbove yX1_isAbove, Cond.code yX1_isAbove cX1_isAbove 2 (some .boolean), Cond.fieldLink RX1 16 "HeightLinesModel" "twice" "I", Cond.methodLink RX1 71 yX1_second, Cond.instanceMethod yX1_second, Cond.selects RX1 yX1_second yX1_second, Cond.code yX1_second cX1_second 2 (some .int)]
def wsX1_crossed : List Cond := .code yX1_crossed cX1_crossed 3 (some .int) :: ((wsX1_crossed_r1 ++ wsX1_crossed_r2) ++ wsX10)
def wsJ9_abs_0f7a4 : List Cond := .code yJ9_abs_0f7a4 cJ9_abs_0f7a4 1 (some .int) :: ([])
def wsJ9_max_f86c9 : List Cond := .code yJ9_max_f86c9 cJ9_max_f86c9 4 (some .long) :: ([])
def wsJ9_min_f86c9 : List Cond := .code yJ9_min_f86c9 cJ9_min_f86c9 4 (some .long) :: ([])
def wsL_crossing_r1 : List Cond := [Cond.classLink RL 13 "java/util/NoSuchElementException", Cond.methodLink RL 7 yX0_crossing, Cond.instanceMethod yX0_crossing, Cond.selects RX0 yX0_crossing yX0_crossing, Cond.initialized RX0, Cond.code yX0_crossing cX0_crossing 7 (some .int), Cond.classLink RX0 93 "java/util/NoSuchElementException", Cond.initialized "java/util/NoSuchElementException", Cond.fieldLink RX0 19 "HeightLines" "samples" "[I", Cond.fieldLink RX0 16 "HeightLines" "twiceHeight" "I", Cond.methodLink RX0 102 Lib.Math.abs.name, Cond.static Lib.Math.abs.name, Cond.initialized "java/lang/Math", Cond.code Lib.Math.abs.name Lib.Math.abs.code 1 (some .int), Cond.methodLink RX0 86 yX0_edgeCount, Cond.instanceMethod yX0_edgeCount, Cond.selects RX0 yX0_edgeCount yX0_edgeCount, Cond.code yX0_edgeCount cX0_edgeCount 1 (some .int), Cond.fieldLink RX0 13 "HeightLines" "rows" "I", Cond.fieldLink RX0 9 "HeightLines" "columns" "I", Cond.methodLink RX0 127 yX0_rightwardEdges, Cond.instanceMethod yX0_rightwardEdges, Cond.selects RX0 yX0_rightwardEdges yX0_rightwardEdges, Cond.code yX0_rightwardEdges cX0_rightwardEdges 1 (some .int)]
def wsL_crossing_r2 : List Cond := [Cond.methodLink RX0 90 yX0_isCrossed, Cond.instanceMethod yX0_isCrossed, Cond.selects RX0 yX0_isCrossed yX0_isCrossed, Cond.code yX0_isCrossed cX0_isCrossed 2 (some .boolean), Cond.methodLink RX0 96 yX0_firstSample, Cond.instanceMethod yX0_firstSample, Cond.selects RX0 yX0_firstSample yX0_firstSample, Cond.code yX0_firstSample cX0_firstSample 2 (some .int), Cond.methodLink RX0 130 yX0_isAbove, Cond.instanceMethod yX0_isAbove, Cond.selects RX0 yX0_isAbove yX0_isAbove, Cond.code yX0_isAbove cX0_isAbove 2 (some .boolean), Cond.methodLink RX0 99 yX0_secondSample, Cond.instanceMethod yX0_secondSample, Cond.selects RX0 yX0_secondSample yX0_secondSample, Cond.code yX0_secondSample cX0_secondSample 2 (some .int), Cond.methodLink RX0 107 yX0_greatestDivisor, Cond.static yX0_greatestDivisor, Cond.code yX0_greatestDivisor cX0_greatestDivisor 6 (some .int)]
def wsL_crossing : List Cond := .codeWith yL_crossing cL_crossing 5 (some .int) [(0, 10, 13, 13)] :: ((wsL_crossing_r1 ++ wsL_crossing_r2) ++ wsX00 ++ (vx_at0 RX0 95 "java/util/NoSuchElementException" ["java/lang/RuntimeException", "java/lang/Exception"]).filter goodWord)
def wsL_law0_r1 : List Cond := [Cond.classLink RL 8 RX0, Cond.instantiable RX0 11, Cond.initialized RX0, Cond.classLink RL 16 RX1, Cond.instantiable RX1 10, Cond.initialized RX1, Cond.arrayClass .long, Cond.methodLink RL 15 yX0_init, Cond.instanceMethod yX0_init, Cond.code yX0_init cX0_init 1 none, Cond.methodLink RX0 3 objectInit, Cond.instanceMethod objectInit, Cond.code objectInit ⟨#[0xb1]⟩ 1 none, Cond.fieldLink RX0 9 "HeightLines" "columns" "I", Cond.fieldLink RX0 13 "HeightLines" "rows" "I", Cond.fieldLink RX0 16 "HeightLines" "twiceHeight" "I", Cond.arrayClass .int, Cond.fieldLink RX0 19 "HeightLines" "samples" "[I", Cond.fieldLink RX0 23 "HeightLines" "next" "[I", Cond.fieldLink RX0 26 "HeightLines" "before" "[I", Cond.fieldLink RX0 29 "HeightLines" "order" "[I", Cond.fieldLink RX0 32 "HeightLines" "starts" "[I", Cond.fieldLink RX0 35 "HeightLines" "owner" "[I", Cond.fieldLink RX0 38 "HeightLines" "openChains" "I"]
def wsL_law0_r2 : List Cond := [Cond.fieldLink RX0 41 "HeightLines" "chains" "I", Cond.methodLink RL 18 yX1_init, Cond.instanceMethod yX1_init, Cond.code yX1_init cX1_init 1 none, Cond.methodLink RX1 1 objectInit, Cond.fieldLink RX1 7 "HeightLinesModel" "w" "I", Cond.fieldLink RX1 13 "HeightLinesModel" "h" "I", Cond.fieldLink RX1 16 "HeightLinesModel" "twice" "I", Cond.fieldLink RX1 19 "HeightLinesModel" "samples" "[I", Cond.fieldLink RX1 23 "HeightLinesModel" "edges" "[I", Cond.fieldLink RX1 26 "HeightLinesModel" "begins" "[I", Cond.arrayClass .boolean, Cond.fieldLink RX1 29 "HeightLinesModel" "closed" "[Z", Cond.fieldLink RX1 33 "HeightLinesModel" "used" "[Z", Cond.methodLink RL 19 yX0_field, Cond.instanceMethod yX0_field, Cond.selects RX0 yX0_field yX0_field, Cond.code yX0_field cX0_field 3 (some .boolean), Cond.methodLink RX0 44 yX0_isSide, Cond.static yX0_isSide, Cond.code yX0_isSide cX0_isSide 1 (some .boolean), Cond.methodLink RX0 48 yJ7_fill_53178, Cond.static yJ7_fill_53178, Cond.initialized RJ7]
def wsL_law0_r3 : List Cond := [Cond.code yJ7_fill_53178 cJ7_fill_53178 4 none, Cond.methodLink RX0 54 yX0_forgetChains, Cond.instanceMethod yX0_forgetChains, Cond.selects RX0 yX0_forgetChains yX0_forgetChains, Cond.code yX0_forgetChains cX0_forgetChains 1 none, Cond.methodLink RL 23 yX1_field, Cond.instanceMethod yX1_field, Cond.selects RX1 yX1_field yX1_field, Cond.code yX1_field cX1_field 4 (some .boolean), Cond.fieldLink RX1 36 "HeightLinesModel" "thrown" "I", Cond.fieldLink RX1 39 "HeightLinesModel" "chains" "I", Cond.methodLink RL 24 yX0_set, Cond.instanceMethod yX0_set, Cond.selects RX0 yX0_set yX0_set, Cond.code yX0_set cX0_set 4 (some .boolean), Cond.methodLink RX0 57 yX0_hasRow, Cond.instanceMethod yX0_hasRow, Cond.selects RX0 yX0_hasRow yX0_hasRow, Cond.code yX0_hasRow cX0_hasRow 2 (some .boolean), Cond.methodLink RX0 60 yX0_heldToBounds, Cond.static yX0_heldToBounds, Cond.code yX0_heldToBounds cX0_heldToBounds 2 (some .int), Cond.constantLong RX0 116 (-1000000), Cond.constantLong RX0 118 (1000000)]
def wsL_law0_r4 : List Cond := [Cond.methodLink RX0 120 Lib.MathLoose.min_long.x, Cond.static Lib.MathLoose.min_long.x, Cond.initialized "java/lang/Math", Cond.code Lib.MathLoose.min_long.x Lib.MathLoose.min_long.code 4 (some .long), Cond.methodLink RX0 124 Lib.MathLoose.max_long.x, Cond.static Lib.MathLoose.max_long.x, Cond.code Lib.MathLoose.max_long.x Lib.MathLoose.max_long.code 4 (some .long), Cond.methodLink RX0 64 yX0_sampleAt, Cond.instanceMethod yX0_sampleAt, Cond.selects RX0 yX0_sampleAt yX0_sampleAt, Cond.code yX0_sampleAt cX0_sampleAt 3 (some .int), Cond.methodLink RL 28 yX1_set, Cond.instanceMethod yX1_set, Cond.selects RX1 yX1_set yX1_set, Cond.code yX1_set cX1_set 4 (some .boolean), Cond.constant RX1 42 (-1000000), Cond.constant RX1 43 (1000000), Cond.methodLink RL 29 yX0_row, Cond.instanceMethod yX0_row, Cond.selects RX0 yX0_row yX0_row, Cond.code yX0_row cX0_row 5 (some .boolean), Cond.methodLink RL 32 yX1_row, Cond.instanceMethod yX1_row, Cond.selects RX1 yX1_row yX1_row]
def wsL_law0_r5 : List Cond := [Cond.code yX1_row cX1_row 7 (some .boolean), Cond.constantLong RX1 44 (-1000000), Cond.constantLong RX1 46 (1000000), Cond.methodLink RL 33 yX0_height, Cond.instanceMethod yX0_height, Cond.selects RX0 yX0_height yX0_height, Cond.code yX0_height cX0_height 3 (some .boolean), Cond.constant RX0 68 (-1999999), Cond.constant RX0 69 (1999999), Cond.methodLink RL 37 yX1_height, Cond.instanceMethod yX1_height, Cond.selects RX1 yX1_height yX1_height, Cond.code yX1_height cX1_height 2 (some .boolean), Cond.constant RX1 48 (-1999999), Cond.constant RX1 49 (1999999), Cond.methodLink RL 38 yX0_make, Cond.instanceMethod yX0_make, Cond.selects RX0 yX0_make yX0_make, Cond.code yX0_make cX0_make 1 (some .int), Cond.methodLink RX0 70 yX0_drawLines, Cond.instanceMethod yX0_drawLines, Cond.selects RX0 yX0_drawLines yX0_drawLines, Cond.code yX0_drawLines cX0_drawLines 3 none, Cond.methodLink RX0 133 yX0_drawCell]
def wsL_law0_r6 : List Cond := [Cond.instanceMethod yX0_drawCell, Cond.selects RX0 yX0_drawCell yX0_drawCell, Cond.code yX0_drawCell cX0_drawCell 9 none, Cond.methodLink RX0 137 yX0_cornersAbove, Cond.instanceMethod yX0_cornersAbove, Cond.selects RX0 yX0_cornersAbove yX0_cornersAbove, Cond.code yX0_cornersAbove cX0_cornersAbove 5 (some .int), Cond.methodLink RX0 154 yX0_cornerSample, Cond.instanceMethod yX0_cornerSample, Cond.selects RX0 yX0_cornerSample yX0_cornerSample, Cond.code yX0_cornerSample cX0_cornerSample 4 (some .int), Cond.methodLink RX0 130 yX0_isAbove, Cond.instanceMethod yX0_isAbove, Cond.selects RX0 yX0_isAbove yX0_isAbove, Cond.code yX0_isAbove cX0_isAbove 2 (some .boolean), Cond.methodLink RX0 140 yX0_isMiddleAbove, Cond.instanceMethod yX0_isMiddleAbove, Cond.selects RX0 yX0_isMiddleAbove yX0_isMiddleAbove, Cond.code yX0_isMiddleAbove cX0_isMiddleAbove 17 (some .boolean), Cond.constantLong RX0 169 (2), Cond.methodLink RX0 144 yX0_entersAt, Cond.static yX0_entersAt, Cond.code yX0_entersAt cX0_entersAt 2 (some .boolean), Cond.methodLink RX0 163 yX0_hasCorner]
def wsL_law0_r7 : List Cond := [Cond.static yX0_hasCorner, Cond.code yX0_hasCorner cX0_hasCorner 2 (some .boolean), Cond.methodLink RX0 147 yX0_sideEdge, Cond.instanceMethod yX0_sideEdge, Cond.selects RX0 yX0_sideEdge yX0_sideEdge, Cond.code yX0_sideEdge cX0_sideEdge 4 (some .int), Cond.methodLink RX0 157 yX0_rightwardEdge, Cond.instanceMethod yX0_rightwardEdge, Cond.selects RX0 yX0_rightwardEdge yX0_rightwardEdge, Cond.code yX0_rightwardEdge cX0_rightwardEdge 3 (some .int), Cond.methodLink RX0 160 yX0_upwardEdge, Cond.instanceMethod yX0_upwardEdge, Cond.selects RX0 yX0_upwardEdge yX0_upwardEdge, Cond.code yX0_upwardEdge cX0_upwardEdge 3 (some .int), Cond.methodLink RX0 127 yX0_rightwardEdges, Cond.instanceMethod yX0_rightwardEdges, Cond.selects RX0 yX0_rightwardEdges yX0_rightwardEdges, Cond.code yX0_rightwardEdges cX0_rightwardEdges 1 (some .int), Cond.methodLink RX0 151 yX0_exitFrom, Cond.static yX0_exitFrom, Cond.code yX0_exitFrom cX0_exitFrom 5 (some .int), Cond.methodLink RX0 166 yX0_leavesAt, Cond.static yX0_leavesAt, Cond.code yX0_leavesAt cX0_leavesAt 2 (some .boolean)]
def wsL_law0_r8 : List Cond := [Cond.methodLink RX0 73 yX0_gatherOpenChains, Cond.instanceMethod yX0_gatherOpenChains, Cond.selects RX0 yX0_gatherOpenChains yX0_gatherOpenChains, Cond.code yX0_gatherOpenChains cX0_gatherOpenChains 2 none, Cond.methodLink RX0 86 yX0_edgeCount, Cond.instanceMethod yX0_edgeCount, Cond.selects RX0 yX0_edgeCount yX0_edgeCount, Cond.code yX0_edgeCount cX0_edgeCount 1 (some .int), Cond.methodLink RX0 171 yX0_gatherChain, Cond.instanceMethod yX0_gatherChain, Cond.selects RX0 yX0_gatherChain yX0_gatherChain, Cond.code yX0_gatherChain cX0_gatherChain 5 none, Cond.methodLink RX0 76 yX0_gatherClosedChains, Cond.instanceMethod yX0_gatherClosedChains, Cond.selects RX0 yX0_gatherClosedChains yX0_gatherClosedChains, Cond.code yX0_gatherClosedChains cX0_gatherClosedChains 2 none, Cond.methodLink RL 42 yX1_make, Cond.instanceMethod yX1_make, Cond.selects RX1 yX1_make yX1_make, Cond.code yX1_make cX1_make 2 (some .int), Cond.methodLink RX1 103 yX1_all, Cond.instanceMethod yX1_all, Cond.selects RX1 yX1_all yX1_all, Cond.code yX1_all cX1_all 1 (some .int)]
def wsL_law0_r9 : List Cond := [Cond.methodLink RX1 107 yX1_isCrossed, Cond.instanceMethod yX1_isCrossed, Cond.selects RX1 yX1_isCrossed yX1_isCrossed, Cond.code yX1_isCrossed cX1_isCrossed 2 (some .boolean), Cond.methodLink RX1 65 yX1_first, Cond.instanceMethod yX1_first, Cond.selects RX1 yX1_first yX1_first, Cond.code yX1_first cX1_first 2 (some .int), Cond.methodLink RX1 54 yX1_xOf, Cond.instanceMethod yX1_xOf, Cond.selects RX1 yX1_xOf yX1_xOf, Cond.code yX1_xOf cX1_xOf 2 (some .int), Cond.methodLink RX1 50 yX1_isAcross, Cond.instanceMethod yX1_isAcross, Cond.selects RX1 yX1_isAcross yX1_isAcross, Cond.code yX1_isAcross cX1_isAcross 2 (some .boolean), Cond.methodLink RX1 58 yX1_yOf, Cond.instanceMethod yX1_yOf, Cond.selects RX1 yX1_yOf yX1_yOf, Cond.code yX1_yOf cX1_yOf 2 (some .int), Cond.methodLink RX1 61 yX1_at, Cond.instanceMethod yX1_at, Cond.selects RX1 yX1_at yX1_at, Cond.code yX1_at cX1_at 3 (some .int)]
def wsL_law0_r10 : List Cond := [Cond.methodLink RX1 68 yX1_isAbove, Cond.instanceMethod yX1_isAbove, Cond.selects RX1 yX1_isAbove yX1_isAbove, Cond.code yX1_isAbove cX1_isAbove 2 (some .boolean), Cond.methodLink RX1 71 yX1_second, Cond.instanceMethod yX1_second, Cond.selects RX1 yX1_second yX1_second, Cond.code yX1_second cX1_second 2 (some .int), Cond.methodLink RX1 110 yX1_isLedTo, Cond.instanceMethod yX1_isLedTo, Cond.selects RX1 yX1_isLedTo yX1_isLedTo, Cond.code yX1_isLedTo cX1_isLedTo 9 (some .boolean), Cond.methodLink RX1 91 yX1_isCell, Cond.instanceMethod yX1_isCell, Cond.selects RX1 yX1_isCell yX1_isCell, Cond.code yX1_isCell cX1_isCell 3 (some .boolean), Cond.methodLink RX1 80 yX1_isUp, Cond.instanceMethod yX1_isUp, Cond.selects RX1 yX1_isUp yX1_isUp, Cond.code yX1_isUp cX1_isUp 4 (some .boolean), Cond.methodLink RX1 74 yX1_corner, Cond.instanceMethod yX1_corner, Cond.selects RX1 yX1_corner yX1_corner, Cond.code yX1_corner cX1_corner 4 (some .int)]
def wsL_law0_r11 : List Cond := [Cond.methodLink RX1 113 yX1_chain, Cond.instanceMethod yX1_chain, Cond.selects RX1 yX1_chain yX1_chain, Cond.code yX1_chain cX1_chain 5 none, Cond.methodLink RX1 100 yX1_next, Cond.instanceMethod yX1_next, Cond.selects RX1 yX1_next yX1_next, Cond.code yX1_next cX1_next 9 (some .int), Cond.methodLink RX1 94 yX1_isDown, Cond.instanceMethod yX1_isDown, Cond.selects RX1 yX1_isDown yX1_isDown, Cond.code yX1_isDown cX1_isDown 4 (some .boolean), Cond.methodLink RX1 97 yX1_leads, Cond.instanceMethod yX1_leads, Cond.selects RX1 yX1_leads yX1_leads, Cond.code yX1_leads cX1_leads 6 (some .int), Cond.methodLink RX1 84 yX1_isMiddleAbove, Cond.instanceMethod yX1_isMiddleAbove, Cond.selects RX1 yX1_isMiddleAbove yX1_isMiddleAbove, Cond.code yX1_isMiddleAbove cX1_isMiddleAbove 15 (some .boolean), Cond.constantLong RX1 78 (2), Cond.methodLink RX1 88 yX1_edgeOf, Cond.instanceMethod yX1_edgeOf, Cond.selects RX1 yX1_edgeOf yX1_edgeOf]
def wsL_law0_r12 : List Cond := [Cond.code yX1_edgeOf cX1_edgeOf 5 (some .int), Cond.methodLink RL 43 yX0_size, Cond.instanceMethod yX0_size, Cond.selects RX0 yX0_size yX0_size, Cond.code yX0_size cX0_size 2 (some .int), Cond.methodLink RX0 79 yX0_hasChain, Cond.instanceMethod yX0_hasChain, Cond.selects RX0 yX0_hasChain yX0_hasChain, Cond.code yX0_hasChain cX0_hasChain 2 (some .boolean), Cond.methodLink RL 47 yX1_size, Cond.instanceMethod yX1_size, Cond.selects RX1 yX1_size yX1_size, Cond.code yX1_size cX1_size 2 (some .int), Cond.methodLink RX1 117 yX1_isChain, Cond.instanceMethod yX1_isChain, Cond.selects RX1 yX1_isChain yX1_isChain, Cond.code yX1_isChain cX1_isChain 2 (some .boolean), Cond.methodLink RL 48 yX0_isClosed, Cond.instanceMethod yX0_isClosed, Cond.selects RX0 yX0_isClosed yX0_isClosed, Cond.code yX0_isClosed cX0_isClosed 2 (some .boolean), Cond.methodLink RL 51 yX1_isClosed, Cond.instanceMethod yX1_isClosed, Cond.selects RX1 yX1_isClosed yX1_isClosed]
def wsL_law0_r13 : List Cond := [Cond.code yX1_isClosed cX1_isClosed 2 (some .boolean), Cond.methodLink RL 52 yX0_edge, Cond.instanceMethod yX0_edge, Cond.selects RX0 yX0_edge yX0_edge, Cond.code yX0_edge cX0_edge 3 (some .int), Cond.methodLink RX0 82 yX0_size, Cond.methodLink RL 55 yX1_edge, Cond.instanceMethod yX1_edge, Cond.selects RX1 yX1_edge yX1_edge, Cond.code yX1_edge cX1_edge 3 (some .int), Cond.methodLink RL 56 yL_crossing, Cond.static yL_crossing, Cond.initialized RL, Cond.codeWith yL_crossing cL_crossing 5 (some .int) [(0, 10, 13, 13)], Cond.classLink RL 13 "java/util/NoSuchElementException", Cond.methodLink RL 7 yX0_crossing, Cond.instanceMethod yX0_crossing, Cond.selects RX0 yX0_crossing yX0_crossing, Cond.code yX0_crossing cX0_crossing 7 (some .int), Cond.classLink RX0 93 "java/util/NoSuchElementException", Cond.initialized "java/util/NoSuchElementException", Cond.methodLink RX0 102 Lib.Math.abs.name, Cond.static Lib.Math.abs.name, Cond.code Lib.Math.abs.name Lib.Math.abs.code 1 (some .int)]
def wsL_law0_r14 : List Cond := [Cond.methodLink RX0 90 yX0_isCrossed, Cond.instanceMethod yX0_isCrossed, Cond.selects RX0 yX0_isCrossed yX0_isCrossed, Cond.code yX0_isCrossed cX0_isCrossed 2 (some .boolean), Cond.methodLink RX0 96 yX0_firstSample, Cond.instanceMethod yX0_firstSample, Cond.selects RX0 yX0_firstSample yX0_firstSample, Cond.code yX0_firstSample cX0_firstSample 2 (some .int), Cond.methodLink RX0 99 yX0_secondSample, Cond.instanceMethod yX0_secondSample, Cond.selects RX0 yX0_secondSample yX0_secondSample, Cond.code yX0_secondSample cX0_secondSample 2 (some .int), Cond.methodLink RX0 107 yX0_greatestDivisor, Cond.static yX0_greatestDivisor, Cond.code yX0_greatestDivisor cX0_greatestDivisor 6 (some .int), Cond.methodLink RL 61 yX1_crossing, Cond.instanceMethod yX1_crossing, Cond.selects RX1 yX1_crossing yX1_crossing, Cond.code yX1_crossing cX1_crossing 9 (some .int), Cond.methodLink RL 62 yX1_thrown, Cond.instanceMethod yX1_thrown, Cond.selects RX1 yX1_thrown yX1_thrown, Cond.code yX1_thrown cX1_thrown 1 (some .int), Cond.methodLink RL 65 yX0_within]
def wsL_law0_r15 : List Cond := [Cond.instanceMethod yX0_within, Cond.selects RX0 yX0_within yX0_within, Cond.code yX0_within cX0_within 4 (some .int), Cond.methodLink RX0 110 yX0_isClosed, Cond.methodLink RX0 113 yX0_withinInRow, Cond.instanceMethod yX0_withinInRow, Cond.selects RX0 yX0_withinInRow yX0_withinInRow, Cond.code yX0_withinInRow cX0_withinInRow 6 (some .int), Cond.methodLink RL 68 yX1_within, Cond.instanceMethod yX1_within, Cond.selects RX1 yX1_within yX1_within, Cond.code yX1_within cX1_within 7 (some .int), Cond.methodLink RL 69 yX0_crossed, Cond.instanceMethod yX0_crossed, Cond.selects RX0 yX0_crossed yX0_crossed, Cond.code yX0_crossed cX0_crossed 3 (some .int), Cond.methodLink RL 72 yX1_crossed, Cond.instanceMethod yX1_crossed, Cond.selects RX1 yX1_crossed yX1_crossed, Cond.code yX1_crossed cX1_crossed 3 (some .int)]
def wsL_law0 : List Cond := (wsL_law0_r1 ++ (wsL_law0_r2 ++ (wsL_law0_r3 ++ (wsL_law0_r4 ++ (wsL_law0_r5 ++ (wsL_law0_r6 ++ (wsL_law0_r7 ++ (wsL_law0_r8 ++ (wsL_law0_r9 ++ (wsL_law0_r10 ++ (wsL_law0_r11 ++ (wsL_law0_r12 ++ (wsL_law0_r13 ++ (wsL_law0_r14 ++ wsL_law0_r15)))))))))))))) ++ wsX00 ++ wsX10 ++ ([] : List Cond)
def wsL_law : List Cond := wsL_law0 ++ (vx_at0 RX0 95 "java/util/NoSuchElementException" ["java/lang/RuntimeException", "java/lang/Exception"]).filter goodWord
set_option maxRecDepth 20000 in
theorem wsL_law_in0 : ∀ w ∈ wsL_law0, w ∈ lw_tbl := fun w h => (goodIn_p wsL_law0 [56, 59, 336, 98, 101, 104, 108, 377, 112, 116, 119, 124, 127, 131, 381, 135, 387, 139, 393, 145, 149, 153, 157, 161, 165, 169, 173, 176, 180, 184, 188, 192, 195, 198, 202, 206, 210, 214, 399, 403, 407, 411, 415, 419, 423, 427, 431, 435, 439, 443, 447, 451, 455, 459, 463, 467, 471, 476, 218, 222, 480, 484, 226, 488, 230, 492, 264, 328, 248, 252, 256, 331, 496, 373, 235, 240, 500, 244, 504] (by decide +kernel) (by decide +kernel) w h).1
theorem wsL_law_x0 : ∀ w ∈ (vx_at0 RX0 95 "java/util/NoSuchElementException" ["java/lang/RuntimeException", "java/lang/Exception"]).filter goodWord, w ∈ lw_tbl := by decide +kernel
theorem wsL_law_in : ∀ w ∈ wsL_law, w ∈ lw_tbl := fun w h => (List.mem_append.mp h).elim (fun h => wsL_law_in0 w h) (fun h => wsL_law_x0 w h)
theorem inlX0 : ∀ w ∈ wsX00, w ∈ wsL_law := fun _ h => List.mem_append_left _ (List.mem_append_left _ (List.mem_append_left _ (List.mem_append_right _ h)))
theorem inX0 : ∀ w ∈ wsX00, w ∈ lw_tbl := fun w h => wsL_law_in w (inlX0 w h)
theorem inlX1 : ∀ w ∈ wsX10, w ∈ wsL_law := fun _ h => List.mem_append_left _ (List.mem_append_left _ (List.mem_append_right _ h))
theorem inX1 : ∀ w ∈ wsX10, w ∈ lw_tbl := fun w h => wsL_law_in w (inlX1 w h)
theorem inJ9 : ∀ w ∈ wsJ90, w ∈ lw_tbl := by decide +kernel
theorem inJ7 : ∀ w ∈ wsJ70, w ∈ lw_tbl := by decide +kernel
theorem dX0_init_0 : decode cX0_init 0 = .ok (.aload_n 0, 1) := by decide +kernel
theorem dX0_init_1 : decode cX0_init 1 = .ok (.invokespecial 3, 3) := by decide +kernel
theorem dX0_init_4 : decode cX0_init 4 = .ok (.aload_n 0, 1) := by decide +kernel
theorem dX0_init_5 : decode cX0_init 5 = .ok (.iconst 2, 1) := by decide +kernel
theorem dX0_init_6 : decode cX0_init 6 = .ok (.putfield 9, 3) := by decide +kernel
theorem dX0_init_9 : decode cX0_init 9 = .ok (.aload_n 0, 1) := by decide +kernel
theorem dX0_init_10 : decode cX0_init 10 = .ok (.iconst 2, 1) := by decide +kernel
theorem dX0_init_11 : decode cX0_init 11 = .ok (.putfield 13, 3) := by decide +kernel
theorem dX0_init_14 : decode cX0_init 14 = .ok (.aload_n 0, 1) := by decide +kernel
theorem dX0_init_15 : decode cX0_init 15 = .ok (.iconst 1, 1) := by decide +kernel
theorem dX0_init_16 : decode cX0_init 16 = .ok (.putfield 16, 3) := by decide +kernel
theorem dX0_init_19 : decode cX0_init 19 = .ok (.aload_n 0, 1) := by decide +kernel
theorem dX0_init_20 : decode cX0_init 20 = .ok (.sipush 144, 3) := by decide +kernel
theorem dX0_init_23 : decode cX0_init 23 = .ok (.newarray .int, 2) := by decide +kernel
theorem dX0_init_25 : decode cX0_init 25 = .ok (.putfield 19, 3) := by decide +kernel
theorem dX0_init_28 : decode cX0_init 28 = .ok (.aload_n 0, 1) := by decide +kernel
theorem dX0_init_29 : decode cX0_init 29 = .ok (.sipush 264, 3) := by decide +kernel
theorem dX0_init_32 : decode cX0_init 32 = .ok (.newarray .int, 2) := by decide +kernel
theorem dX0_init_34 : decode cX0_init 34 = .ok (.putfield 23, 3) := by decide +kernel
theorem dX0_init_37 : decode cX0_init 37 = .ok (.aload_n 0, 1) := by decide +kernel
theorem dX0_init_38 : decode cX0_init 38 = .ok (.sipush 264, 3) := by decide +kernel
theorem dX0_init_41 : decode cX0_init 41 = .ok (.newarray .int, 2) := by decide +kernel
theorem dX0_init_43 : decode cX0_init 43 = .ok (.putfield 26, 3) := by decide +kernel
theorem dX0_init_46 : decode cX0_init 46 = .ok (.aload_n 0, 1) := by decide +kernel
theorem dX0_init_47 : decode cX0_init 47 = .ok (.sipush 264, 3) := by decide +kernel
theorem dX0_init_50 : decode cX0_init 50 = .ok (.newarray .int, 2) := by decide +kernel
theorem dX0_init_52 : decode cX0_init 52 = .ok (.putfield 29, 3) := by decide +kernel
theorem dX0_init_55 : decode cX0_init 55 = .ok (.aload_n 0, 1) := by decide +kernel
theorem dX0_init_56 : decode cX0_init 56 = .ok (.sipush 133, 3) := by decide +kernel
theorem dX0_init_59 : decode cX0_init 59 = .ok (.newarray .int, 2) := by decide +kernel
theorem dX0_init_61 : decode cX0_init 61 = .ok (.putfield 32, 3) := by decide +kernel
theorem dX0_init_64 : decode cX0_init 64 = .ok (.aload_n 0, 1) := by decide +kernel
theorem dX0_init_65 : decode cX0_init 65 = .ok (.sipush 264, 3) := by decide +kernel
theorem dX0_init_68 : decode cX0_init 68 = .ok (.newarray .int, 2) := by decide +kernel
theorem dX0_init_70 : decode cX0_init 70 = .ok (.putfield 35, 3) := by decide +kernel
theorem dX0_init_73 : decode cX0_init 73 = .ok (.aload_n 0, 1) := by decide +kernel
theorem dX0_init_74 : decode cX0_init 74 = .ok (.iconst 0, 1) := by decide +kernel
theorem dX0_init_75 : decode cX0_init 75 = .ok (.putfield 38, 3) := by decide +kernel
theorem dX0_init_78 : decode cX0_init 78 = .ok (.aload_n 0, 1) := by decide +kernel
theorem dX0_init_79 : decode cX0_init 79 = .ok (.iconst 0, 1) := by decide +kernel
theorem dX0_init_80 : decode cX0_init 80 = .ok (.putfield 41, 3) := by decide +kernel
theorem dX0_init_83 : decode cX0_init 83 = .ok (.return_, 1) := by decide +kernel
set_option maxRecDepth 20000 in
theorem ggX0_field_X0_isSide : GoodIn wsX0_field wsX0_isSide := goodIn_r _ [7] (by decide +kernel) (by decide +kernel)
set_option maxRecDepth 20000 in
theorem gX0_field_X0_isSide : GoodIn wsX0_field (va_wsS RX0 44 yX0_isSide wsX0_isSide) := goodIn_app (goodIn_of _ (by decide +kernel)) ggX0_field_X0_isSide
set_option maxRecDepth 20000 in
theorem ggX0_field_J7_fill_53178 : GoodIn wsX0_field wsJ7_fill_53178 := goodIn_r _ [11] (by decide +kernel) (by decide +kernel)
set_option maxRecDepth 20000 in
theorem gX0_field_J7_fill_53178 : GoodIn wsX0_field (va_wsS RX0 48 yJ7_fill_53178 wsJ7_fill_53178) := goodIn_app (goodIn_of _ (by decide +kernel)) ggX0_field_J7_fill_53178
set_option maxRecDepth 20000 in
theorem ggX0_field_X0_forgetChains : GoodIn wsX0_field wsX0_forgetChains := goodIn_r _ [15, 16, 17, 18, 8, 9, 10, 11, 19, 20, 21, 22, 23, 24, 25, 26, 27, 28, 29] (by decide +kernel) (by decide +kernel)
set_option maxRecDepth 20000 in
theorem gX0_field_X0_forgetChains : GoodIn wsX0_field (wsV RX0 54 RX0 yX0_forgetChains wsX0_forgetChains) := goodIn_app (goodIn_of _ (by decide +kernel)) ggX0_field_X0_forgetChains
theorem dX0_field_0 : decode cX0_field 0 = .ok (.iload_n 1, 1) := by decide +kernel
theorem dX0_field_1 : decode cX0_field 1 = .ok (.invokestatic 44, 3) := by decide +kernel
theorem dX0_field_4 : decode cX0_field 4 = .ok (.ifCond .eq 10, 3) := by decide +kernel
theorem dX0_field_7 : decode cX0_field 7 = .ok (.iload_n 2, 1) := by decide +kernel
theorem dX0_field_8 : decode cX0_field 8 = .ok (.invokestatic 44, 3) := by decide +kernel
theorem dX0_field_11 : decode cX0_field 11 = .ok (.ifCond .ne 5, 3) := by decide +kernel
theorem dX0_field_14 : decode cX0_field 14 = .ok (.iconst 0, 1) := by decide +kernel
theorem dX0_field_15 : decode cX0_field 15 = .ok (.ireturn, 1) := by decide +kernel
theorem dX0_field_16 : decode cX0_field 16 = .ok (.aload_n 0, 1) := by decide +kernel
theorem dX0_field_17 : decode cX0_field 17 = .ok (.iload_n 1, 1) := by decide +kernel
theorem dX0_field_18 : decode cX0_field 18 = .ok (.putfield 9, 3) := by decide +kernel
theorem dX0_field_21 : decode cX0_field 21 = .ok (.aload_n 0, 1) := by decide +kernel
theorem dX0_field_22 : decode cX0_field 22 = .ok (.iload_n 2, 1) := by decide +kernel
theorem dX0_field_23 : decode cX0_field 23 = .ok (.putfield 13, 3) := by decide +kernel
theorem dX0_field_26 : decode cX0_field 26 = .ok (.aload_n 0, 1) := by decide +kernel
theorem dX0_field_27 : decode cX0_field 27 = .ok (.getfield 19, 3) := by decide +kernel
theorem dX0_field_30 : decode cX0_field 30 = .ok (.iconst 0, 1) := by decide +kernel
theorem dX0_field_31 : decode cX0_field 31 = .ok (.invokestatic 48, 3) := by decide +kernel
theorem dX0_field_34 : decode cX0_field 34 = .ok (.aload_n 0, 1) := by decide +kernel
theorem dX0_field_35 : decode cX0_field 35 = .ok (.invokevirtual 54, 3) := by decide +kernel
theorem dX0_field_38 : decode cX0_field 38 = .ok (.iconst 1, 1) := by decide +kernel
theorem dX0_field_39 : decode cX0_field 39 = .ok (.ireturn, 1) := by decide +kernel
set_option maxRecDepth 20000 in
theorem ggX0_set_X0_hasRow : GoodIn wsX0_set wsX0_hasRow := goodIn_r _ [7, 8, 25, 26, 27, 28, 29, 30, 31, 32, 33, 34, 35] (by decide +kernel) (by decide +kernel)
set_option maxRecDepth 20000 in
theorem gX0_set_X0_hasRow : GoodIn wsX0_set (wsV RX0 57 RX0 yX0_hasRow wsX0_hasRow) := goodIn_app (goodIn_of _ (by decide +kernel)) ggX0_set_X0_hasRow
set_option maxRecDepth 20000 in
theorem ggX0_set_X0_heldToBounds : GoodIn wsX0_set wsX0_heldToBounds := goodIn_r _ [11, 12, 13, 14, 15, 16, 17, 18, 19, 20] (by decide +kernel) (by decide +kernel)
set_option maxRecDepth 20000 in
theorem gX0_set_X0_heldToBounds : GoodIn wsX0_set (va_wsS RX0 60 yX0_heldToBounds wsX0_heldToBounds) := goodIn_app (goodIn_of _ (by decide +kernel)) ggX0_set_X0_heldToBounds
set_option maxRecDepth 20000 in
theorem ggX0_set_X0_sampleAt : GoodIn wsX0_set wsX0_sampleAt := goodIn_r _ [24, 1, 25, 26, 27, 28, 29, 30, 31, 32, 33, 34, 35] (by decide +kernel) (by decide +kernel)
set_option maxRecDepth 20000 in
theorem gX0_set_X0_sampleAt : GoodIn wsX0_set (wsV RX0 64 RX0 yX0_sampleAt wsX0_sampleAt) := goodIn_app (goodIn_of _ (by decide +kernel)) ggX0_set_X0_sampleAt
theorem dX0_set_0 : decode cX0_set 0 = .ok (.iload_n 1, 1) := by decide +kernel
theorem dX0_set_1 : decode cX0_set 1 = .ok (.ifCond .lt 28, 3) := by decide +kernel
theorem dX0_set_4 : decode cX0_set 4 = .ok (.iload_n 1, 1) := by decide +kernel
theorem dX0_set_5 : decode cX0_set 5 = .ok (.aload_n 0, 1) := by decide +kernel
theorem dX0_set_6 : decode cX0_set 6 = .ok (.getfield 9, 3) := by decide +kernel
theorem dX0_set_9 : decode cX0_set 9 = .ok (.if_icmp .ge 20, 3) := by decide +kernel
theorem dX0_set_12 : decode cX0_set 12 = .ok (.aload_n 0, 1) := by decide +kernel
theorem dX0_set_13 : decode cX0_set 13 = .ok (.iload_n 2, 1) := by decide +kernel
theorem dX0_set_14 : decode cX0_set 14 = .ok (.invokevirtual 57, 3) := by decide +kernel
theorem dX0_set_17 : decode cX0_set 17 = .ok (.ifCond .eq 12, 3) := by decide +kernel
theorem dX0_set_20 : decode cX0_set 20 = .ok (.iload_n 3, 1) := by decide +kernel
theorem dX0_set_21 : decode cX0_set 21 = .ok (.iload_n 3, 1) := by decide +kernel
theorem dX0_set_22 : decode cX0_set 22 = .ok (.i2l, 1) := by decide +kernel
theorem dX0_set_23 : decode cX0_set 23 = .ok (.invokestatic 60, 3) := by decide +kernel
theorem dX0_set_26 : decode cX0_set 26 = .ok (.if_icmp .eq 5, 3) := by decide +kernel
theorem dX0_set_29 : decode cX0_set 29 = .ok (.iconst 0, 1) := by decide +kernel
theorem dX0_set_30 : decode cX0_set 30 = .ok (.ireturn, 1) := by decide +kernel
theorem dX0_set_31 : decode cX0_set 31 = .ok (.aload_n 0, 1) := by decide +kernel
theorem dX0_set_32 : decode cX0_set 32 = .ok (.getfield 19, 3) := by decide +kernel
theorem dX0_set_35 : decode cX0_set 35 = .ok (.aload_n 0, 1) := by decide +kernel
theorem dX0_set_36 : decode cX0_set 36 = .ok (.iload_n 1, 1) := by decide +kernel
theorem dX0_set_37 : decode cX0_set 37 = .ok (.iload_n 2, 1) := by decide +kernel
theorem dX0_set_38 : decode cX0_set 38 = .ok (.invokevirtual 64, 3) := by decide +kernel
theorem dX0_set_41 : decode cX0_set 41 = .ok (.iload_n 3, 1) := by decide +kernel
theorem dX0_set_42 : decode cX0_set 42 = .ok (.iastore, 1) := by decide +kernel
theorem dX0_set_43 : decode cX0_set 43 = .ok (.iconst 1, 1) := by decide +kernel
theorem dX0_set_44 : decode cX0_set 44 = .ok (.ireturn, 1) := by decide +kernel
set_option maxRecDepth 20000 in
theorem ggX0_row_X0_hasRow : GoodIn wsX0_row wsX0_hasRow := goodIn_r _ [7, 8, 25, 26, 27, 28, 29, 30, 31, 32, 33, 34, 35] (by decide +kernel) (by decide +kernel)
set_option maxRecDepth 20000 in
theorem gX0_row_X0_hasRow : GoodIn wsX0_row (wsV RX0 57 RX0 yX0_hasRow wsX0_hasRow) := goodIn_app (goodIn_of _ (by decide +kernel)) ggX0_row_X0_hasRow
set_option maxRecDepth 20000 in
theorem ggX0_row_X0_sampleAt : GoodIn wsX0_row wsX0_sampleAt := goodIn_r _ [12, 1, 25, 26, 27, 28, 29, 30, 31, 32, 33, 34, 35] (by decide +kernel) (by decide +kernel)
set_option maxRecDepth 20000 in
theorem gX0_row_X0_sampleAt : GoodIn wsX0_row (wsV RX0 64 RX0 yX0_sampleAt wsX0_sampleAt) := goodIn_app (goodIn_of _ (by decide +kernel)) ggX0_row_X0_sampleAt
set_option maxRecDepth 20000 in
theorem ggX0_row_X0_heldToBounds : GoodIn wsX0_row wsX0_heldToBounds := goodIn_r _ [15, 16, 17, 18, 19, 20, 21, 22, 23, 24] (by decide +kernel) (by decide +kernel)
set_option maxRecDepth 20000 in
theorem gX0_row_X0_heldToBounds : GoodIn wsX0_row (va_wsS RX0 60 yX0_heldToBounds wsX0_heldToBounds) := goodIn_app (goodIn_of _ (by decide +kernel)) ggX0_row_X0_heldToBounds
theorem dX0_row_0 : decode cX0_row 0 = .ok (.aload_n 0, 1) := by decide +kernel
theorem dX0_row_1 : decode cX0_row 1 = .ok (.iload_n 1, 1) := by decide +kernel
theorem dX0_row_2 : decode cX0_row 2 = .ok (.invokevirtual 57, 3) := by decide +kernel
theorem dX0_row_5 : decode cX0_row 5 = .ok (.ifCond .ne 5, 3) := by decide +kernel
theorem dX0_row_8 : decode cX0_row 8 = .ok (.iconst 0, 1) := by decide +kernel
theorem dX0_row_9 : decode cX0_row 9 = .ok (.ireturn, 1) := by decide +kernel
theorem dX0_row_10 : decode cX0_row 10 = .ok (.iconst 0, 1) := by decide +kernel
theorem dX0_row_11 : decode cX0_row 11 = .ok (.istore 4, 2) := by decide +kernel
theorem dX0_row_13 : decode cX0_row 13 = .ok (.iload 4, 2) := by decide +kernel
theorem dX0_row_15 : decode cX0_row 15 = .ok (.aload_n 0, 1) := by decide +kernel
theorem dX0_row_16 : decode cX0_row 16 = .ok (.getfield 9, 3) := by decide +kernel
theorem dX0_row_19 : decode cX0_row 19 = .ok (.if_icmp .ge 33, 3) := by decide +kernel
theorem dX0_row_22 : decode cX0_row 22 = .ok (.aload_n 0, 1) := by decide +kernel
theorem dX0_row_23 : decode cX0_row 23 = .ok (.getfield 19, 3) := by decide +kernel
theorem dX0_row_26 : decode cX0_row 26 = .ok (.aload_n 0, 1) := by decide +kernel
theorem dX0_row_27 : decode cX0_row 27 = .ok (.iload 4, 2) := by decide +kernel
theorem dX0_row_29 : decode cX0_row 29 = .ok (.iload_n 1, 1) := by decide +kernel
theorem dX0_row_30 : decode cX0_row 30 = .ok (.invokevirtual 64, 3) := by decide +kernel
theorem dX0_row_33 : decode cX0_row 33 = .ok (.iload_n 2, 1) := by decide +kernel
theorem dX0_row_34 : decode cX0_row 34 = .ok (.i2l, 1) := by decide +kernel
theorem dX0_row_35 : decode cX0_row 35 = .ok (.iload 4, 2) := by decide +kernel
theorem dX0_row_37 : decode cX0_row 37 = .ok (.i2l, 1) := by decide +kernel
theorem dX0_row_38 : decode cX0_row 38 = .ok (.iload_n 3, 1) := by decide +kernel
theorem dX0_row_39 : decode cX0_row 39 = .ok (.i2l, 1) := by decide +kernel
theorem dX0_row_40 : decode cX0_row 40 = .ok (.lmul, 1) := by decide +kernel
theorem dX0_row_41 : decode cX0_row 41 = .ok (.ladd, 1) := by decide +kernel
theorem dX0_row_42 : decode cX0_row 42 = .ok (.invokestatic 60, 3) := by decide +kernel
theorem dX0_row_45 : decode cX0_row 45 = .ok (.iastore, 1) := by decide +kernel
theorem dX0_row_46 : decode cX0_row 46 = .ok (.iinc 4 1, 3) := by decide +kernel
theorem dX0_row_49 : decode cX0_row 49 = .ok (.goto (-36), 3) := by decide +kernel
theorem dX0_row_52 : decode cX0_row 52 = .ok (.iconst 1, 1) := by decide +kernel
theorem dX0_row_53 : decode cX0_row 53 = .ok (.ireturn, 1) := by decide +kernel
theorem dX0_height_0 : decode cX0_height 0 = .ok (.iload_n 1, 1) := by decide +kernel
theorem dX0_height_1 : decode cX0_height 1 = .ok (.iconst 1, 1) := by decide +kernel
theorem dX0_height_2 : decode cX0_height 2 = .ok (.iand, 1) := by decide +kernel
theorem dX0_height_3 : decode cX0_height 3 = .ok (.iconst 1, 1) := by decide +kernel
theorem dX0_height_4 : decode cX0_height 4 = .ok (.if_icmp .ne 7, 3) := by decide +kernel
theorem dX0_height_7 : decode cX0_height 7 = .ok (.iconst 1, 1) := by decide +kernel
theorem dX0_height_8 : decode cX0_height 8 = .ok (.goto 4, 3) := by decide +kernel
theorem dX0_height_11 : decode cX0_height 11 = .ok (.iconst 0, 1) := by decide +kernel
theorem dX0_height_12 : decode cX0_height 12 = .ok (.istore_n 2, 1) := by decide +kernel
theorem dX0_height_13 : decode cX0_height 13 = .ok (.iload_n 2, 1) := by decide +kernel
theorem dX0_height_14 : decode cX0_height 14 = .ok (.ifCond .eq 15, 3) := by decide +kernel
theorem dX0_height_17 : decode cX0_height 17 = .ok (.iload_n 1, 1) := by decide +kernel
theorem dX0_height_18 : decode cX0_height 18 = .ok (.ldc 68, 2) := by decide +kernel
theorem dX0_height_20 : decode cX0_height 20 = .ok (.if_icmp .lt 9, 3) := by decide +kernel
theorem dX0_height_23 : decode cX0_height 23 = .ok (.iload_n 1, 1) := by decide +kernel
theorem dX0_height_24 : decode cX0_height 24 = .ok (.ldc 69, 2) := by decide +kernel
theorem dX0_height_26 : decode cX0_height 26 = .ok (.if_icmp .le 5, 3) := by decide +kernel
theorem dX0_height_29 : decode cX0_height 29 = .ok (.iconst 0, 1) := by decide +kernel
theorem dX0_height_30 : decode cX0_height 30 = .ok (.ireturn, 1) := by decide +kernel
theorem dX0_height_31 : decode cX0_height 31 = .ok (.aload_n 0, 1) := by decide +kernel
theorem dX0_height_32 : decode cX0_height 32 = .ok (.iload_n 1, 1) := by decide +kernel
theorem dX0_height_33 : decode cX0_height 33 = .ok (.putfield 16, 3) := by decide +kernel
theorem dX0_height_36 : decode cX0_height 36 = .ok (.iconst 1, 1) := by decide +kernel
theorem dX0_height_37 : decode cX0_height 37 = .ok (.ireturn, 1) := by decide +kernel
set_option maxRecDepth 20000 in
theorem ggX0_make_X0_forgetChains : GoodIn wsX0_make wsX0_forgetChains := goodIn_r _ [6, 1, 7, 8, 9, 10, 11, 12, 94, 95, 96, 97, 98, 99, 100, 101, 102, 103, 104] (by decide +kernel) (by decide +kernel)
set_option maxRecDepth 20000 in
theorem gX0_make_X0_forgetChains : GoodIn wsX0_make (wsV RX0 54 RX0 yX0_forgetChains wsX0_forgetChains) := goodIn_app (goodIn_of _ (by decide +kernel)) ggX0_make_X0_forgetChains
set_option maxRecDepth 20000 in
theorem ggX0_make_X0_drawLines : GoodIn wsX0_make wsX0_drawLines := goodIn_r _ [16, 17, 18, 19, 20, 9, 10, 11, 12, 21, 22, 23, 5, 24, 25, 26, 27, 28, 29, 30, 31, 32, 33, 34, 35, 36, 37, 38, 39, 40, 41, 42, 43, 44, 45, 46, 47, 48, 49, 50, 51, 52, 53, 54, 55, 56, 57, 58, 59, 60, 61, 62, 63, 64, 65, 66, 67, 68, 69, 70, 71, 72, 73, 74, 75, 94, 95, 96, 97, 98, 99, 100, 101, 102, 103, 104] (by decide +kernel) (by decide +kernel)
set_option maxRecDepth 20000 in
theorem gX0_make_X0_drawLines : GoodIn wsX0_make (wsV RX0 70 RX0 yX0_drawLines wsX0_drawLines) := goodIn_app (goodIn_of _ (by decide +kernel)) ggX0_make_X0_drawLines
set_option maxRecDepth 20000 in
theorem ggX0_make_X0_gatherOpenChains : GoodIn wsX0_make wsX0_gatherOpenChains := goodIn_r _ [79, 17, 18, 1, 7, 80, 81, 82, 5, 83, 19, 20, 66, 67, 68, 69, 84, 85, 86, 87, 88, 8, 89, 94, 95, 96, 97, 98, 99, 100, 101, 102, 103, 104] (by decide +kernel) (by decide +kernel)
set_option maxRecDepth 20000 in
theorem gX0_make_X0_gatherOpenChains : GoodIn wsX0_make (wsV RX0 73 RX0 yX0_gatherOpenChains wsX0_gatherOpenChains) := goodIn_app (goodIn_of _ (by decide +kernel)) ggX0_make_X0_gatherOpenChains
set_option maxRecDepth 20000 in
theorem ggX0_make_X0_gatherClosedChains : GoodIn wsX0_make wsX0_gatherClosedChains := goodIn_r _ [93, 17, 8, 80, 81, 82, 5, 83, 19, 20, 66, 67, 68, 69, 84, 85, 86, 87, 88, 1, 89, 94, 95, 96, 97, 98, 99, 100, 101, 102, 103, 104] (by decide +kernel) (by decide +kernel)
set_option maxRecDepth 20000 in
theorem gX0_make_X0_gatherClosedChains : GoodIn wsX0_make (wsV RX0 76 RX0 yX0_gatherClosedChains wsX0_gatherClosedChains) := goodIn_app (goodIn_of _ (by decide +kernel)) ggX0_make_X0_gatherClosedChains
theorem dX0_make_0 : decode cX0_make 0 = .ok (.aload_n 0, 1) := by decide +kernel
theorem dX0_make_1 : decode cX0_make 1 = .ok (.invokevirtual 54, 3) := by decide +kernel
theorem dX0_make_4 : decode cX0_make 4 = .ok (.aload_n 0, 1) := by decide +kernel
theorem dX0_make_5 : decode cX0_make 5 = .ok (.invokevirtual 70, 3) := by decide +kernel
theorem dX0_make_8 : decode cX0_make 8 = .ok (.aload_n 0, 1) := by decide +kernel
theorem dX0_make_9 : decode cX0_make 9 = .ok (.invokevirtual 73, 3) := by decide +kernel
theorem dX0_make_12 : decode cX0_make 12 = .ok (.aload_n 0, 1) := by decide +kernel
theorem dX0_make_13 : decode cX0_make 13 = .ok (.invokevirtual 76, 3) := by decide +kernel
theorem dX0_make_16 : decode cX0_make 16 = .ok (.aload_n 0, 1) := by decide +kernel
theorem dX0_make_17 : decode cX0_make 17 = .ok (.getfield 41, 3) := by decide +kernel
theorem dX0_make_20 : decode cX0_make 20 = .ok (.ireturn, 1) := by decide +kernel
set_option maxRecDepth 20000 in
theorem ggX0_size_X0_hasChain : GoodIn wsX0_size wsX0_hasChain := goodIn_r _ [6, 7, 8, 9, 10, 11, 12, 13, 14, 15, 16, 17, 18] (by decide +kernel) (by decide +kernel)
set_option maxRecDepth 20000 in
theorem gX0_size_X0_hasChain : GoodIn wsX0_size (wsV RX0 79 RX0 yX0_hasChain wsX0_hasChain) := goodIn_app (goodIn_of _ (by decide +kernel)) ggX0_size_X0_hasChain
theorem dX0_size_0 : decode cX0_size 0 = .ok (.aload_n 0, 1) := by decide +kernel
theorem dX0_size_1 : decode cX0_size 1 = .ok (.iload_n 1, 1) := by decide +kernel
theorem dX0_size_2 : decode cX0_size 2 = .ok (.invokevirtual 79, 3) := by decide +kernel
theorem dX0_size_5 : decode cX0_size 5 = .ok (.ifCond .eq 21, 3) := by decide +kernel
theorem dX0_size_8 : decode cX0_size 8 = .ok (.aload_n 0, 1) := by decide +kernel
theorem dX0_size_9 : decode cX0_size 9 = .ok (.getfield 32, 3) := by decide +kernel
theorem dX0_size_12 : decode cX0_size 12 = .ok (.iload_n 1, 1) := by decide +kernel
theorem dX0_size_13 : decode cX0_size 13 = .ok (.iconst 1, 1) := by decide +kernel
theorem dX0_size_14 : decode cX0_size 14 = .ok (.iadd, 1) := by decide +kernel
theorem dX0_size_15 : decode cX0_size 15 = .ok (.iaload, 1) := by decide +kernel
theorem dX0_size_16 : decode cX0_size 16 = .ok (.aload_n 0, 1) := by decide +kernel
theorem dX0_size_17 : decode cX0_size 17 = .ok (.getfield 32, 3) := by decide +kernel
theorem dX0_size_20 : decode cX0_size 20 = .ok (.iload_n 1, 1) := by decide +kernel
theorem dX0_size_21 : decode cX0_size 21 = .ok (.iaload, 1) := by decide +kernel
theorem dX0_size_22 : decode cX0_size 22 = .ok (.isub, 1) := by decide +kernel
theorem dX0_size_23 : decode cX0_size 23 = .ok (.goto 4, 3) := by decide +kernel
theorem dX0_size_26 : decode cX0_size 26 = .ok (.iconst (-1), 1) := by decide +kernel
theorem dX0_size_27 : decode cX0_size 27 = .ok (.ireturn, 1) := by decide +kernel
set_option maxRecDepth 20000 in
theorem ggX0_isClosed_X0_hasChain : GoodIn wsX0_isClosed wsX0_hasChain := goodIn_r _ [6, 7, 8, 9, 10, 11, 12, 13, 14, 15, 16, 17, 18] (by decide +kernel) (by decide +kernel)
set_option maxRecDepth 20000 in
theorem gX0_isClosed_X0_hasChain : GoodIn wsX0_isClosed (wsV RX0 79 RX0 yX0_hasChain wsX0_hasChain) := goodIn_app (goodIn_of _ (by decide +kernel)) ggX0_isClosed_X0_hasChain
theorem dX0_isClosed_0 : decode cX0_isClosed 0 = .ok (.aload_n 0, 1) := by decide +kernel
theorem dX0_isClosed_1 : decode cX0_isClosed 1 = .ok (.iload_n 1, 1) := by decide +kernel
theorem dX0_isClosed_2 : decode cX0_isClosed 2 = .ok (.invokevirtual 79, 3) := by decide +kernel
theorem dX0_isClosed_5 : decode cX0_isClosed 5 = .ok (.ifCond .eq 15, 3) := by decide +kernel
theorem dX0_isClosed_8 : decode cX0_isClosed 8 = .ok (.iload_n 1, 1) := by decide +kernel
theorem dX0_isClosed_9 : decode cX0_isClosed 9 = .ok (.aload_n 0, 1) := by decide +kernel
theorem dX0_isClosed_10 : decode cX0_isClosed 10 = .ok (.getfield 38, 3) := by decide +kernel
theorem dX0_isClosed_13 : decode cX0_isClosed 13 = .ok (.if_icmp .lt 7, 3) := by decide +kernel
theorem dX0_isClosed_16 : decode cX0_isClosed 16 = .ok (.iconst 1, 1) := by decide +kernel
theorem dX0_isClosed_17 : decode cX0_isClosed 17 = .ok (.goto 4, 3) := by decide +kernel
theorem dX0_isClosed_20 : decode cX0_isClosed 20 = .ok (.iconst 0, 1) := by decide +kernel
theorem dX0_isClosed_21 : decode cX0_isClosed 21 = .ok (.ireturn, 1) := by decide +kernel
set_option maxRecDepth 20000 in
theorem ggX0_edge_X0_size : GoodIn wsX0_edge wsX0_size := goodIn_r _ [7, 2, 8, 9, 10, 6, 11, 12, 13, 14, 15, 16, 17, 18, 19, 20, 21, 22, 23] (by decide +kernel) (by decide +kernel)
set_option maxRecDepth 20000 in
theorem gX0_edge_X0_size : GoodIn wsX0_edge (wsV RX0 82 RX0 yX0_size wsX0_size) := goodIn_app (goodIn_of _ (by decide +kernel)) ggX0_edge_X0_size
theorem dX0_edge_0 : decode cX0_edge 0 = .ok (.iload_n 2, 1) := by decide +kernel
theorem dX0_edge_1 : decode cX0_edge 1 = .ok (.ifCond .lt 28, 3) := by decide +kernel
theorem dX0_edge_4 : decode cX0_edge 4 = .ok (.iload_n 2, 1) := by decide +kernel
theorem dX0_edge_5 : decode cX0_edge 5 = .ok (.aload_n 0, 1) := by decide +kernel
theorem dX0_edge_6 : decode cX0_edge 6 = .ok (.iload_n 1, 1) := by decide +kernel
theorem dX0_edge_7 : decode cX0_edge 7 = .ok (.invokevirtual 82, 3) := by decide +kernel
theorem dX0_edge_10 : decode cX0_edge 10 = .ok (.if_icmp .ge 19, 3) := by decide +kernel
theorem dX0_edge_13 : decode cX0_edge 13 = .ok (.aload_n 0, 1) := by decide +kernel
theorem dX0_edge_14 : decode cX0_edge 14 = .ok (.getfield 29, 3) := by decide +kernel
theorem dX0_edge_17 : decode cX0_edge 17 = .ok (.aload_n 0, 1) := by decide +kernel
theorem dX0_edge_18 : decode cX0_edge 18 = .ok (.getfield 32, 3) := by decide +kernel
theorem dX0_edge_21 : decode cX0_edge 21 = .ok (.iload_n 1, 1) := by decide +kernel
theorem dX0_edge_22 : decode cX0_edge 22 = .ok (.iaload, 1) := by decide +kernel
theorem dX0_edge_23 : decode cX0_edge 23 = .ok (.iload_n 2, 1) := by decide +kernel
theorem dX0_edge_24 : decode cX0_edge 24 = .ok (.iadd, 1) := by decide +kernel
theorem dX0_edge_25 : decode cX0_edge 25 = .ok (.iaload, 1) := by decide +kernel
theorem dX0_edge_26 : decode cX0_edge 26 = .ok (.goto 4, 3) := by decide +kernel
theorem dX0_edge_29 : decode cX0_edge 29 = .ok (.iconst (-1), 1) := by decide +kernel
theorem dX0_edge_30 : decode cX0_edge 30 = .ok (.ireturn, 1) := by decide +kernel
set_option maxRecDepth 20000 in
theorem ggX0_crossing_X0_edgeCount : GoodIn wsX0_crossing wsX0_edgeCount := goodIn_r _ [13, 14, 15, 16, 17, 18, 12, 19, 39, 40, 41, 42, 43, 44, 45, 46, 47, 48, 49] (by decide +kernel) (by decide +kernel)
set_option maxRecDepth 20000 in
theorem gX0_crossing_X0_edgeCount : GoodIn wsX0_crossing (wsV RX0 86 RX0 yX0_edgeCount wsX0_edgeCount) := goodIn_app (goodIn_of _ (by decide +kernel)) ggX0_crossing_X0_edgeCount
set_option maxRecDepth 20000 in
theorem ggX0_crossing_X0_isCrossed : GoodIn wsX0_crossing wsX0_isCrossed := goodIn_r _ [23, 24, 25, 26, 12, 27, 15, 16, 17, 18, 19, 14, 28, 29, 30, 31, 3, 4, 32, 33, 34, 35, 39, 40, 41, 42, 43, 44, 45, 46, 47, 48, 49] (by decide +kernel) (by decide +kernel)
set_option maxRecDepth 20000 in
theorem gX0_crossing_X0_isCrossed : GoodIn wsX0_crossing (wsV RX0 90 RX0 yX0_isCrossed wsX0_isCrossed) := goodIn_app (goodIn_of _ (by decide +kernel)) ggX0_crossing_X0_isCrossed
set_option maxRecDepth 20000 in
theorem ggX0_crossing_X0_firstSample : GoodIn wsX0_crossing wsX0_firstSample := goodIn_r _ [27, 15, 16, 17, 18, 12, 19, 14, 39, 40, 41, 42, 43, 44, 45, 46, 47, 48, 49] (by decide +kernel) (by decide +kernel)
set_option maxRecDepth 20000 in
theorem gX0_crossing_X0_firstSample : GoodIn wsX0_crossing (wsV RX0 96 RX0 yX0_firstSample wsX0_firstSample) := goodIn_app (goodIn_of _ (by decide +kernel)) ggX0_crossing_X0_firstSample
set_option maxRecDepth 20000 in
theorem ggX0_crossing_X0_secondSample : GoodIn wsX0_crossing wsX0_secondSample := goodIn_r _ [35, 15, 24, 25, 26, 12, 27, 16, 17, 18, 19, 14, 39, 40, 41, 42, 43, 44, 45, 46, 47, 48, 49] (by decide +kernel) (by decide +kernel)
set_option maxRecDepth 20000 in
theorem gX0_crossing_X0_secondSample : GoodIn wsX0_crossing (wsV RX0 99 RX0 yX0_secondSample wsX0_secondSample) := goodIn_app (goodIn_of _ (by decide +kernel)) ggX0_crossing_X0_secondSample
set_option maxRecDepth 20000 in
theorem ggX0_crossing_X0_greatestDivisor : GoodIn wsX0_crossing wsX0_greatestDivisor := goodIn_r _ [38] (by decide +kernel) (by decide +kernel)
set_option maxRecDepth 20000 in
theorem gX0_crossing_X0_greatestDivisor : GoodIn wsX0_crossing (va_wsS RX0 107 yX0_greatestDivisor wsX0_greatestDivisor) := goodIn_app (goodIn_of _ (by decide +kernel)) ggX0_crossing_X0_greatestDivisor
theorem dX0_crossing_0 : decode cX0_crossing 0 = .ok (.iload_n 1, 1) := by decide +kernel
theorem dX0_crossing_1 : decode cX0_crossing 1 = .ok (.ifCond .lt 28, 3) := by decide +kernel
theorem dX0_crossing_4 : decode cX0_crossing 4 = .ok (.iload_n 1, 1) := by decide +kernel
theorem dX0_crossing_5 : decode cX0_crossing 5 = .ok (.aload_n 0, 1) := by decide +kernel
theorem dX0_crossing_6 : decode cX0_crossing 6 = .ok (.invokevirtual 86, 3) := by decide +kernel
theorem dX0_crossing_9 : decode cX0_crossing 9 = .ok (.if_icmp .ge 20, 3) := by decide +kernel
theorem dX0_crossing_12 : decode cX0_crossing 12 = .ok (.aload_n 0, 1) := by decide +kernel
theorem dX0_crossing_13 : decode cX0_crossing 13 = .ok (.iload_n 1, 1) := by decide +kernel
theorem dX0_crossing_14 : decode cX0_crossing 14 = .ok (.invokevirtual 90, 3) := by decide +kernel
theorem dX0_crossing_17 : decode cX0_crossing 17 = .ok (.ifCond .eq 12, 3) := by decide +kernel
theorem dX0_crossing_20 : decode cX0_crossing 20 = .ok (.iload_n 2, 1) := by decide +kernel
theorem dX0_crossing_21 : decode cX0_crossing 21 = .ok (.ifCond .lt 8, 3) := by decide +kernel
theorem dX0_crossing_24 : decode cX0_crossing 24 = .ok (.iload_n 2, 1) := by decide +kernel
theorem dX0_crossing_25 : decode cX0_crossing 25 = .ok (.iconst 1, 1) := by decide +kernel
theorem dX0_crossing_26 : decode cX0_crossing 26 = .ok (.if_icmp .le 11, 3) := by decide +kernel
theorem dX0_crossing_29 : decode cX0_crossing 29 = .ok (.new 93, 3) := by decide +kernel
theorem dX0_crossing_32 : decode cX0_crossing 32 = .ok (.dup, 1) := by decide +kernel
theorem dX0_crossing_33 : decode cX0_crossing 33 = .ok (.invokespecial 95, 3) := by decide +kernel
theorem dX0_crossing_36 : decode cX0_crossing 36 = .ok (.athrow, 1) := by decide +kernel
theorem dX0_crossing_37 : decode cX0_crossing 37 = .ok (.aload_n 0, 1) := by decide +kernel
theorem dX0_crossing_38 : decode cX0_crossing 38 = .ok (.getfield 19, 3) := by decide +kernel
theorem dX0_crossing_41 : decode cX0_crossing 41 = .ok (.aload_n 0, 1) := by decide +kernel
theorem dX0_crossing_42 : decode cX0_crossing 42 = .ok (.iload_n 1, 1) := by decide +kernel
theorem dX0_crossing_43 : decode cX0_crossing 43 = .ok (.invokevirtual 96, 3) := by decide +kernel
theorem dX0_crossing_46 : decode cX0_crossing 46 = .ok (.iaload, 1) := by decide +kernel
theorem dX0_crossing_47 : decode cX0_crossing 47 = .ok (.istore_n 3, 1) := by decide +kernel
theorem dX0_crossing_48 : decode cX0_crossing 48 = .ok (.aload_n 0, 1) := by decide +kernel
theorem dX0_crossing_49 : decode cX0_crossing 49 = .ok (.getfield 19, 3) := by decide +kernel
theorem dX0_crossing_52 : decode cX0_crossing 52 = .ok (.aload_n 0, 1) := by decide +kernel
theorem dX0_crossing_53 : decode cX0_crossing 53 = .ok (.iload_n 1, 1) := by decide +kernel
theorem dX0_crossing_54 : decode cX0_crossing 54 = .ok (.invokevirtual 99, 3) := by decide +kernel
theorem dX0_crossing_57 : decode cX0_crossing 57 = .ok (.iaload, 1) := by decide +kernel
theorem dX0_crossing_58 : decode cX0_crossing 58 = .ok (.istore 4, 2) := by decide +kernel
theorem dX0_crossing_60 : decode cX0_crossing 60 = .ok (.aload_n 0, 1) := by decide +kernel
theorem dX0_crossing_61 : decode cX0_crossing 61 = .ok (.getfield 16, 3) := by decide +kernel
theorem dX0_crossing_64 : decode cX0_crossing 64 = .ok (.iconst 2, 1) := by decide +kernel
theorem dX0_crossing_65 : decode cX0_crossing 65 = .ok (.iload_n 3, 1) := by decide +kernel
theorem dX0_crossing_66 : decode cX0_crossing 66 = .ok (.imul, 1) := by decide +kernel
theorem dX0_crossing_67 : decode cX0_crossing 67 = .ok (.isub, 1) := by decide +kernel
theorem dX0_crossing_68 : decode cX0_crossing 68 = .ok (.invokestatic 102, 3) := by decide +kernel
theorem dX0_crossing_71 : decode cX0_crossing 71 = .ok (.istore 5, 2) := by decide +kernel
theorem dX0_crossing_73 : decode cX0_crossing 73 = .ok (.iconst 2, 1) := by decide +kernel
theorem dX0_crossing_74 : decode cX0_crossing 74 = .ok (.iload 4, 2) := by decide +kernel
theorem dX0_crossing_76 : decode cX0_crossing 76 = .ok (.iload_n 3, 1) := by decide +kernel
theorem dX0_crossing_77 : decode cX0_crossing 77 = .ok (.isub, 1) := by decide +kernel
theorem dX0_crossing_78 : decode cX0_crossing 78 = .ok (.imul, 1) := by decide +kernel
theorem dX0_crossing_79 : decode cX0_crossing 79 = .ok (.invokestatic 102, 3) := by decide +kernel
theorem dX0_crossing_82 : decode cX0_crossing 82 = .ok (.istore 6, 2) := by decide +kernel
theorem dX0_crossing_84 : decode cX0_crossing 84 = .ok (.iload_n 2, 1) := by decide +kernel
theorem dX0_crossing_85 : decode cX0_crossing 85 = .ok (.ifCond .ne 8, 3) := by decide +kernel
theorem dX0_crossing_88 : decode cX0_crossing 88 = .ok (.iload 5, 2) := by decide +kernel
theorem dX0_crossing_90 : decode cX0_crossing 90 = .ok (.goto 5, 3) := by decide +kernel
theorem dX0_crossing_93 : decode cX0_crossing 93 = .ok (.iload 6, 2) := by decide +kernel
theorem dX0_crossing_95 : decode cX0_crossing 95 = .ok (.iload 5, 2) := by decide +kernel
theorem dX0_crossing_97 : decode cX0_crossing 97 = .ok (.iload 6, 2) := by decide +kernel
theorem dX0_crossing_99 : decode cX0_crossing 99 = .ok (.invokestatic 107, 3) := by decide +kernel
theorem dX0_crossing_102 : decode cX0_crossing 102 = .ok (.idiv, 1) := by decide +kernel
theorem dX0_crossing_103 : decode cX0_crossing 103 = .ok (.ireturn, 1) := by decide +kernel
set_option maxRecDepth 20000 in
theorem ggX0_within_X0_isClosed : GoodIn wsX0_within wsX0_isClosed := goodIn_r _ [6, 7, 8, 9, 10, 5, 11, 12, 23, 24, 25, 26, 27, 28, 29, 30, 31, 32, 33] (by decide +kernel) (by decide +kernel)
set_option maxRecDepth 20000 in
theorem gX0_within_X0_isClosed : GoodIn wsX0_within (wsV RX0 110 RX0 yX0_isClosed wsX0_isClosed) := goodIn_app (goodIn_of _ (by decide +kernel)) ggX0_within_X0_isClosed
set_option maxRecDepth 20000 in
theorem ggX0_within_X0_withinInRow : GoodIn wsX0_within wsX0_withinInRow := goodIn_r _ [16, 17, 18, 19, 20, 21, 5, 22, 23, 24, 25, 26, 27, 28, 29, 30, 31, 32, 33] (by decide +kernel) (by decide +kernel)
set_option maxRecDepth 20000 in
theorem gX0_within_X0_withinInRow : GoodIn wsX0_within (wsV RX0 113 RX0 yX0_withinInRow wsX0_withinInRow) := goodIn_app (goodIn_of _ (by decide +kernel)) ggX0_within_X0_withinInRow
theorem dX0_within_0 : decode cX0_within 0 = .ok (.aload_n 0, 1) := by decide +kernel
theorem dX0_within_1 : decode cX0_within 1 = .ok (.iload_n 1, 1) := by decide +kernel
theorem dX0_within_2 : decode cX0_within 2 = .ok (.invokevirtual 110, 3) := by decide +kernel
theorem dX0_within_5 : decode cX0_within 5 = .ok (.ifCond .ne 5, 3) := by decide +kernel
theorem dX0_within_8 : decode cX0_within 8 = .ok (.iconst (-1), 1) := by decide +kernel
theorem dX0_within_9 : decode cX0_within 9 = .ok (.ireturn, 1) := by decide +kernel
theorem dX0_within_10 : decode cX0_within 10 = .ok (.iconst 0, 1) := by decide +kernel
theorem dX0_within_11 : decode cX0_within 11 = .ok (.istore_n 2, 1) := by decide +kernel
theorem dX0_within_12 : decode cX0_within 12 = .ok (.iconst 0, 1) := by decide +kernel
theorem dX0_within_13 : decode cX0_within 13 = .ok (.istore_n 3, 1) := by decide +kernel
theorem dX0_within_14 : decode cX0_within 14 = .ok (.iload_n 3, 1) := by decide +kernel
theorem dX0_within_15 : decode cX0_within 15 = .ok (.aload_n 0, 1) := by decide +kernel
theorem dX0_within_16 : decode cX0_within 16 = .ok (.getfield 13, 3) := by decide +kernel
theorem dX0_within_19 : decode cX0_within 19 = .ok (.if_icmp .ge 18, 3) := by decide +kernel
theorem dX0_within_22 : decode cX0_within 22 = .ok (.iload_n 2, 1) := by decide +kernel
theorem dX0_within_23 : decode cX0_within 23 = .ok (.aload_n 0, 1) := by decide +kernel
theorem dX0_within_24 : decode cX0_within 24 = .ok (.iload_n 1, 1) := by decide +kernel
theorem dX0_within_25 : decode cX0_within 25 = .ok (.iload_n 3, 1) := by decide +kernel
theorem dX0_within_26 : decode cX0_within 26 = .ok (.invokevirtual 113, 3) := by decide +kernel
theorem dX0_within_29 : decode cX0_within 29 = .ok (.iadd, 1) := by decide +kernel
theorem dX0_within_30 : decode cX0_within 30 = .ok (.istore_n 2, 1) := by decide +kernel
theorem dX0_within_31 : decode cX0_within 31 = .ok (.iinc 3 1, 3) := by decide +kernel
theorem dX0_within_34 : decode cX0_within 34 = .ok (.goto (-20), 3) := by decide +kernel
theorem dX0_within_37 : decode cX0_within 37 = .ok (.iload_n 2, 1) := by decide +kernel
theorem dX0_within_38 : decode cX0_within 38 = .ok (.ireturn, 1) := by decide +kernel
set_option maxRecDepth 20000 in
theorem ggX0_crossed_X0_edgeCount : GoodIn wsX0_crossed wsX0_edgeCount := goodIn_r _ [5, 6, 7, 8, 9, 10, 4, 11, 30, 31, 32, 33, 34, 35, 36, 37, 38, 39, 40] (by decide +kernel) (by decide +kernel)
set_option maxRecDepth 20000 in
theorem gX0_crossed_X0_edgeCount : GoodIn wsX0_crossed (wsV RX0 86 RX0 yX0_edgeCount wsX0_edgeCount) := goodIn_app (goodIn_of _ (by decide +kernel)) ggX0_crossed_X0_edgeCount
set_option maxRecDepth 20000 in
theorem ggX0_crossed_X0_isCrossed : GoodIn wsX0_crossed wsX0_isCrossed := goodIn_r _ [15, 16, 17, 18, 4, 19, 7, 8, 9, 10, 11, 6, 20, 21, 22, 23, 24, 25, 26, 27, 28, 29, 30, 31, 32, 33, 34, 35, 36, 37, 38, 39, 40] (by decide +kernel) (by decide +kernel)
set_option maxRecDepth 20000 in
theorem gX0_crossed_X0_isCrossed : GoodIn wsX0_crossed (wsV RX0 90 RX0 yX0_isCrossed wsX0_isCrossed) := goodIn_app (goodIn_of _ (by decide +kernel)) ggX0_crossed_X0_isCrossed
theorem dX0_crossed_0 : decode cX0_crossed 0 = .ok (.iconst 0, 1) := by decide +kernel
theorem dX0_crossed_1 : decode cX0_crossed 1 = .ok (.istore_n 1, 1) := by decide +kernel
theorem dX0_crossed_2 : decode cX0_crossed 2 = .ok (.iconst 0, 1) := by decide +kernel
theorem dX0_crossed_3 : decode cX0_crossed 3 = .ok (.istore_n 2, 1) := by decide +kernel
theorem dX0_crossed_4 : decode cX0_crossed 4 = .ok (.iload_n 2, 1) := by decide +kernel
theorem dX0_crossed_5 : decode cX0_crossed 5 = .ok (.aload_n 0, 1) := by decide +kernel
theorem dX0_crossed_6 : decode cX0_crossed 6 = .ok (.invokevirtual 86, 3) := by decide +kernel
theorem dX0_crossed_9 : decode cX0_crossed 9 = .ok (.if_icmp .ge 20, 3) := by decide +kernel
theorem dX0_crossed_12 : decode cX0_crossed 12 = .ok (.aload_n 0, 1) := by decide +kernel
theorem dX0_crossed_13 : decode cX0_crossed 13 = .ok (.iload_n 2, 1) := by decide +kernel
theorem dX0_crossed_14 : decode cX0_crossed 14 = .ok (.invokevirtual 90, 3) := by decide +kernel
theorem dX0_crossed_17 : decode cX0_crossed 17 = .ok (.ifCond .eq 6, 3) := by decide +kernel
theorem dX0_crossed_20 : decode cX0_crossed 20 = .ok (.iinc 1 1, 3) := by decide +kernel
theorem dX0_crossed_23 : decode cX0_crossed 23 = .ok (.iinc 2 1, 3) := by decide +kernel
theorem dX0_crossed_26 : decode cX0_crossed 26 = .ok (.goto (-22), 3) := by decide +kernel
theorem dX0_crossed_29 : decode cX0_crossed 29 = .ok (.iload_n 1, 1) := by decide +kernel
theorem dX0_crossed_30 : decode cX0_crossed 30 = .ok (.ireturn, 1) := by decide +kernel
theorem dX0_isSide_0 : decode cX0_isSide 0 = .ok (.iload_n 0, 1) := by decide +kernel
theorem dX0_isSide_1 : decode cX0_isSide 1 = .ok (.iconst 2, 1) := by decide +kernel
theorem dX0_isSide_2 : decode cX0_isSide 2 = .ok (.if_icmp .lt 13, 3) := by decide +kernel
theorem dX0_isSide_5 : decode cX0_isSide 5 = .ok (.iload_n 0, 1) := by decide +kernel
theorem dX0_isSide_6 : decode cX0_isSide 6 = .ok (.bipush 12, 2) := by decide +kernel
theorem dX0_isSide_8 : decode cX0_isSide 8 = .ok (.if_icmp .gt 7, 3) := by decide +kernel
theorem dX0_isSide_11 : decode cX0_isSide 11 = .ok (.iconst 1, 1) := by decide +kernel
theorem dX0_isSide_12 : decode cX0_isSide 12 = .ok (.goto 4, 3) := by decide +kernel
theorem dX0_isSide_15 : decode cX0_isSide 15 = .ok (.iconst 0, 1) := by decide +kernel
theorem dX0_isSide_16 : decode cX0_isSide 16 = .ok (.ireturn, 1) := by decide +kernel
theorem dX0_heldToBounds_0 : decode cX0_heldToBounds 0 = .ok (.ldc2_w 116, 3) := by decide +kernel
theorem dX0_heldToBounds_3 : decode cX0_heldToBounds 3 = .ok (.ldc2_w 118, 3) := by decide +kernel
theorem dX0_heldToBounds_6 : decode cX0_heldToBounds 6 = .ok (.lload_n 0, 1) := by decide +kernel
theorem dX0_heldToBounds_7 : decode cX0_heldToBounds 7 = .ok (.invokestatic 120, 3) := by decide +kernel
theorem dX0_heldToBounds_10 : decode cX0_heldToBounds 10 = .ok (.invokestatic 124, 3) := by decide +kernel
theorem dX0_heldToBounds_13 : decode cX0_heldToBounds 13 = .ok (.l2i, 1) := by decide +kernel
theorem dX0_heldToBounds_14 : decode cX0_heldToBounds 14 = .ok (.ireturn, 1) := by decide +kernel
theorem dX0_greatestDivisor_0 : decode cX0_greatestDivisor 0 = .ok (.iload_n 0, 1) := by decide +kernel
theorem dX0_greatestDivisor_1 : decode cX0_greatestDivisor 1 = .ok (.istore_n 2, 1) := by decide +kernel
theorem dX0_greatestDivisor_2 : decode cX0_greatestDivisor 2 = .ok (.iload_n 1, 1) := by decide +kernel
theorem dX0_greatestDivisor_3 : decode cX0_greatestDivisor 3 = .ok (.istore_n 3, 1) := by decide +kernel
theorem dX0_greatestDivisor_4 : decode cX0_greatestDivisor 4 = .ok (.iconst 0, 1) := by decide +kernel
theorem dX0_greatestDivisor_5 : decode cX0_greatestDivisor 5 = .ok (.istore 4, 2) := by decide +kernel
theorem dX0_greatestDivisor_7 : decode cX0_greatestDivisor 7 = .ok (.iload 4, 2) := by decide +kernel
theorem dX0_greatestDivisor_9 : decode cX0_greatestDivisor 9 = .ok (.bipush 64, 2) := by decide +kernel
theorem dX0_greatestDivisor_11 : decode cX0_greatestDivisor 11 = .ok (.if_icmp .ge 23, 3) := by decide +kernel
theorem dX0_greatestDivisor_14 : decode cX0_greatestDivisor 14 = .ok (.iload_n 3, 1) := by decide +kernel
theorem dX0_greatestDivisor_15 : decode cX0_greatestDivisor 15 = .ok (.ifCond .eq 19, 3) := by decide +kernel
theorem dX0_greatestDivisor_18 : decode cX0_greatestDivisor 18 = .ok (.iload_n 2, 1) := by decide +kernel
theorem dX0_greatestDivisor_19 : decode cX0_greatestDivisor 19 = .ok (.iload_n 3, 1) := by decide +kernel
theorem dX0_greatestDivisor_20 : decode cX0_greatestDivisor 20 = .ok (.irem, 1) := by decide +kernel
theorem dX0_greatestDivisor_21 : decode cX0_greatestDivisor 21 = .ok (.istore 5, 2) := by decide +kernel
theorem dX0_greatestDivisor_23 : decode cX0_greatestDivisor 23 = .ok (.iload_n 3, 1) := by decide +kernel
theorem dX0_greatestDivisor_24 : decode cX0_greatestDivisor 24 = .ok (.istore_n 2, 1) := by decide +kernel
theorem dX0_greatestDivisor_25 : decode cX0_greatestDivisor 25 = .ok (.iload 5, 2) := by decide +kernel
theorem dX0_greatestDivisor_27 : decode cX0_greatestDivisor 27 = .ok (.istore_n 3, 1) := by decide +kernel
theorem dX0_greatestDivisor_28 : decode cX0_greatestDivisor 28 = .ok (.iinc 4 1, 3) := by decide +kernel
theorem dX0_greatestDivisor_31 : decode cX0_greatestDivisor 31 = .ok (.goto (-24), 3) := by decide +kernel
theorem dX0_greatestDivisor_34 : decode cX0_greatestDivisor 34 = .ok (.iload_n 2, 1) := by decide +kernel
theorem dX0_greatestDivisor_35 : decode cX0_greatestDivisor 35 = .ok (.ireturn, 1) := by decide +kernel
theorem dX0_hasRow_0 : decode cX0_hasRow 0 = .ok (.iload_n 1, 1) := by decide +kernel
theorem dX0_hasRow_1 : decode cX0_hasRow 1 = .ok (.ifCond .lt 15, 3) := by decide +kernel
theorem dX0_hasRow_4 : decode cX0_hasRow 4 = .ok (.iload_n 1, 1) := by decide +kernel
theorem dX0_hasRow_5 : decode cX0_hasRow 5 = .ok (.aload_n 0, 1) := by decide +kernel
theorem dX0_hasRow_6 : decode cX0_hasRow 6 = .ok (.getfield 13, 3) := by decide +kernel
theorem dX0_hasRow_9 : decode cX0_hasRow 9 = .ok (.if_icmp .ge 7, 3) := by decide +kernel
theorem dX0_hasRow_12 : decode cX0_hasRow 12 = .ok (.iconst 1, 1) := by decide +kernel
theorem dX0_hasRow_13 : decode cX0_hasRow 13 = .ok (.goto 4, 3) := by decide +kernel
theorem dX0_hasRow_16 : decode cX0_hasRow 16 = .ok (.iconst 0, 1) := by decide +kernel
theorem dX0_hasRow_17 : decode cX0_hasRow 17 = .ok (.ireturn, 1) := by decide +kernel
theorem dX0_sampleAt_0 : decode cX0_sampleAt 0 = .ok (.iload_n 2, 1) := by decide +kernel
theorem dX0_sampleAt_1 : decode cX0_sampleAt 1 = .ok (.aload_n 0, 1) := by decide +kernel
theorem dX0_sampleAt_2 : decode cX0_sampleAt 2 = .ok (.getfield 9, 3) := by decide +kernel
theorem dX0_sampleAt_5 : decode cX0_sampleAt 5 = .ok (.imul, 1) := by decide +kernel
theorem dX0_sampleAt_6 : decode cX0_sampleAt 6 = .ok (.iload_n 1, 1) := by decide +kernel
theorem dX0_sampleAt_7 : decode cX0_sampleAt 7 = .ok (.iadd, 1) := by decide +kernel
theorem dX0_sampleAt_8 : decode cX0_sampleAt 8 = .ok (.ireturn, 1) := by decide +kernel
theorem dX0_isAbove_0 : decode cX0_isAbove 0 = .ok (.iconst 2, 1) := by decide +kernel
theorem dX0_isAbove_1 : decode cX0_isAbove 1 = .ok (.aload_n 0, 1) := by decide +kernel
theorem dX0_isAbove_2 : decode cX0_isAbove 2 = .ok (.getfield 19, 3) := by decide +kernel
theorem dX0_isAbove_5 : decode cX0_isAbove 5 = .ok (.iload_n 1, 1) := by decide +kernel
theorem dX0_isAbove_6 : decode cX0_isAbove 6 = .ok (.iaload, 1) := by decide +kernel
theorem dX0_isAbove_7 : decode cX0_isAbove 7 = .ok (.imul, 1) := by decide +kernel
theorem dX0_isAbove_8 : decode cX0_isAbove 8 = .ok (.aload_n 0, 1) := by decide +kernel
theorem dX0_isAbove_9 : decode cX0_isAbove 9 = .ok (.getfield 16, 3) := by decide +kernel
theorem dX0_isAbove_12 : decode cX0_isAbove 12 = .ok (.if_icmp .le 7, 3) := by decide +kernel
theorem dX0_isAbove_15 : decode cX0_isAbove 15 = .ok (.iconst 1, 1) := by decide +kernel
theorem dX0_isAbove_16 : decode cX0_isAbove 16 = .ok (.goto 4, 3) := by decide +kernel
theorem dX0_isAbove_19 : decode cX0_isAbove 19 = .ok (.iconst 0, 1) := by decide +kernel
theorem dX0_isAbove_20 : decode cX0_isAbove 20 = .ok (.ireturn, 1) := by decide +kernel
theorem dX0_rightwardEdges_0 : decode cX0_rightwardEdges 0 = .ok (.aload_n 0, 1) := by decide +kernel
theorem dX0_rightwardEdges_1 : decode cX0_rightwardEdges 1 = .ok (.getfield 13, 3) := by decide +kernel
theorem dX0_rightwardEdges_4 : decode cX0_rightwardEdges 4 = .ok (.aload_n 0, 1) := by decide +kernel
theorem dX0_rightwardEdges_5 : decode cX0_rightwardEdges 5 = .ok (.getfield 9, 3) := by decide +kernel
theorem dX0_rightwardEdges_8 : decode cX0_rightwardEdges 8 = .ok (.iconst 1, 1) := by decide +kernel
theorem dX0_rightwardEdges_9 : decode cX0_rightwardEdges 9 = .ok (.isub, 1) := by decide +kernel
theorem dX0_rightwardEdges_10 : decode cX0_rightwardEdges 10 = .ok (.imul, 1) := by decide +kernel
theorem dX0_rightwardEdges_11 : decode cX0_rightwardEdges 11 = .ok (.ireturn, 1) := by decide +kernel
set_option maxRecDepth 20000 in
theorem ggX0_edgeCount_X0_rightwardEdges : GoodIn wsX0_edgeCount wsX0_rightwardEdges := goodIn_r _ [7, 1, 2, 8, 9, 10, 11, 12, 13, 14, 15, 16, 17, 18] (by decide +kernel) (by decide +kernel)
set_option maxRecDepth 20000 in
theorem gX0_edgeCount_X0_rightwardEdges : GoodIn wsX0_edgeCount (wsV RX0 127 RX0 yX0_rightwardEdges wsX0_rightwardEdges) := goodIn_app (goodIn_of _ (by decide +kernel)) ggX0_edgeCount_X0_rightwardEdges
theorem dX0_edgeCount_0 : decode cX0_edgeCount 0 = .ok (.aload_n 0, 1) := by decide +kernel
theorem dX0_edgeCount_1 : decode cX0_edgeCount 1 = .ok (.invokevirtual 127, 3) := by decide +kernel
theorem dX0_edgeCount_4 : decode cX0_edgeCount 4 = .ok (.aload_n 0, 1) := by decide +kernel
theorem dX0_edgeCount_5 : decode cX0_edgeCount 5 = .ok (.getfield 13, 3) := by decide +kernel
theorem dX0_edgeCount_8 : decode cX0_edgeCount 8 = .ok (.iconst 1, 1) := by decide +kernel
theorem dX0_edgeCount_9 : decode cX0_edgeCount 9 = .ok (.isub, 1) := by decide +kernel
theorem dX0_edgeCount_10 : decode cX0_edgeCount 10 = .ok (.aload_n 0, 1) := by decide +kernel
theorem dX0_edgeCount_11 : decode cX0_edgeCount 11 = .ok (.getfield 9, 3) := by decide +kernel
theorem dX0_edgeCount_14 : decode cX0_edgeCount 14 = .ok (.imul, 1) := by decide +kernel
theorem dX0_edgeCount_15 : decode cX0_edgeCount 15 = .ok (.iadd, 1) := by decide +kernel
theorem dX0_edgeCount_16 : decode cX0_edgeCount 16 = .ok (.ireturn, 1) := by decide +kernel
theorem dX0_rightwardEdge_0 : decode cX0_rightwardEdge 0 = .ok (.iload_n 2, 1) := by decide +kernel
theorem dX0_rightwardEdge_1 : decode cX0_rightwardEdge 1 = .ok (.aload_n 0, 1) := by decide +kernel
theorem dX0_rightwardEdge_2 : decode cX0_rightwardEdge 2 = .ok (.getfield 9, 3) := by decide +kernel
theorem dX0_rightwardEdge_5 : decode cX0_rightwardEdge 5 = .ok (.iconst 1, 1) := by decide +kernel
theorem dX0_rightwardEdge_6 : decode cX0_rightwardEdge 6 = .ok (.isub, 1) := by decide +kernel
theorem dX0_rightwardEdge_7 : decode cX0_rightwardEdge 7 = .ok (.imul, 1) := by decide +kernel
theorem dX0_rightwardEdge_8 : decode cX0_rightwardEdge 8 = .ok (.iload_n 1, 1) := by decide +kernel
theorem dX0_rightwardEdge_9 : decode cX0_rightwardEdge 9 = .ok (.iadd, 1) := by decide +kernel
theorem dX0_rightwardEdge_10 : decode cX0_rightwardEdge 10 = .ok (.ireturn, 1) := by decide +kernel
set_option maxRecDepth 20000 in
theorem ggX0_upwardEdge_X0_rightwardEdges : GoodIn wsX0_upwardEdge wsX0_rightwardEdges := goodIn_r _ [6, 7, 1, 8, 9, 10, 11, 12, 13, 14, 15, 16, 17, 18] (by decide +kernel) (by decide +kernel)
set_option maxRecDepth 20000 in
theorem gX0_upwardEdge_X0_rightwardEdges : GoodIn wsX0_upwardEdge (wsV RX0 127 RX0 yX0_rightwardEdges wsX0_rightwardEdges) := goodIn_app (goodIn_of _ (by decide +kernel)) ggX0_upwardEdge_X0_rightwardEdges
theorem dX0_upwardEdge_0 : decode cX0_upwardEdge 0 = .ok (.aload_n 0, 1) := by decide +kernel
theorem dX0_upwardEdge_1 : decode cX0_upwardEdge 1 = .ok (.invokevirtual 127, 3) := by decide +kernel
theorem dX0_upwardEdge_4 : decode cX0_upwardEdge 4 = .ok (.iload_n 2, 1) := by decide +kernel
theorem dX0_upwardEdge_5 : decode cX0_upwardEdge 5 = .ok (.aload_n 0, 1) := by decide +kernel
theorem dX0_upwardEdge_6 : decode cX0_upwardEdge 6 = .ok (.getfield 9, 3) := by decide +kernel
theorem dX0_upwardEdge_9 : decode cX0_upwardEdge 9 = .ok (.imul, 1) := by decide +kernel
theorem dX0_upwardEdge_10 : decode cX0_upwardEdge 10 = .ok (.iadd, 1) := by decide +kernel
theorem dX0_upwardEdge_11 : decode cX0_upwardEdge 11 = .ok (.iload_n 1, 1) := by decide +kernel
theorem dX0_upwardEdge_12 : decode cX0_upwardEdge 12 = .ok (.iadd, 1) := by decide +kernel
theorem dX0_upwardEdge_13 : decode cX0_upwardEdge 13 = .ok (.ireturn, 1) := by decide +kernel
set_option maxRecDepth 20000 in
theorem ggX0_firstSample_X0_rightwardEdges : GoodIn wsX0_firstSample wsX0_rightwardEdges := goodIn_r _ [6, 7, 1, 8, 9, 10, 11, 12, 13, 14, 15, 16, 17, 18] (by decide +kernel) (by decide +kernel)
set_option maxRecDepth 20000 in
theorem gX0_firstSample_X0_rightwardEdges : GoodIn wsX0_firstSample (wsV RX0 127 RX0 yX0_rightwardEdges wsX0_rightwardEdges) := goodIn_app (goodIn_of _ (by decide +kernel)) ggX0_firstSample_X0_rightwardEdges
