/-! names: classes, their fields, methods, the words of the tables that the rows use (by their places); laid by wip/whole/gen/names.py out of the claim's printed texts -/
def RX0 : String := "KnifeDesk$Cake"
def TX0 : u_T := fun k => match k with
  | 0 => ("KnifeDesk$Cake", "strips", "I", false)
  | 1 => ("KnifeDesk$Cake", "agents", "I", false)
  | 2 => ("KnifeDesk$Cake", "own", "[[I", true)
  | _ => ("KnifeDesk$Cake", "told", "[[I", true)
def tyX0 : Nat → FieldType := fun k => match k with
  | 0 => .int
  | 1 => .int
  | 2 => .array (.array .int)
  | _ => .array (.array .int)
theorem nmX0 : ∀ a, a < 4 → ∀ b, b < 4 → a ≠ b → (TX0 a).2.1 ≠ (TX0 b).2.1 := by decide +kernel
theorem tyX0_ok : ∀ k, k < 4 → parseFieldDescriptor (TX0 k).2.2.1 = some (tyX0 k) := by decide +kernel
abbrev cX0_init : ByteArray := prog_2_method_1_code
def yX0_init : MethodName := ⟨RX0, "<init>", "()V"⟩
abbrev cX0_lay : ByteArray := prog_2_method_2_code
def yX0_lay : MethodName := ⟨RX0, "lay", "(II)V"⟩
abbrev cX0_copy : ByteArray := prog_2_method_3_code
def yX0_copy : MethodName := ⟨RX0, "copy", "(LKnifeDesk$Cake;)V"⟩
abbrev cX0_hasAgent : ByteArray := prog_2_method_4_code
def yX0_hasAgent : MethodName := ⟨RX0, "hasAgent", "(I)Z"⟩
abbrev cX0_hasStrip : ByteArray := prog_2_method_5_code
def yX0_hasStrip : MethodName := ⟨RX0, "hasStrip", "(I)Z"⟩
abbrev cX0_row : ByteArray := prog_2_method_6_code
def yX0_row : MethodName := ⟨RX0, "row", "(II)[I"⟩
abbrev cX0_total : ByteArray := prog_2_method_7_code
def yX0_total : MethodName := ⟨RX0, "total", "([I)I"⟩
abbrev cX0_moveTold : ByteArray := prog_2_method_8_code
def yX0_moveTold : MethodName := ⟨RX0, "moveTold", "(III)Z"⟩
abbrev cX0_upTo : ByteArray := prog_2_method_9_code
def yX0_upTo : MethodName := ⟨RX0, "upTo", "([IJJ)J"⟩
abbrev cX0_between : ByteArray := prog_2_method_10_code
def yX0_between : MethodName := ⟨RX0, "between", "([ILKnifeDesk$Point;LKnifeDesk$Point;J)J"⟩
abbrev cX0_reach : ByteArray := prog_2_method_11_code
def yX0_reach : MethodName := ⟨RX0, "reach", "(LKnifeDesk$Point;[IJJJJ)Z"⟩
abbrev cX0_hasNoZero : ByteArray := prog_2_method_12_code
def yX0_hasNoZero : MethodName := ⟨RX0, "hasNoZero", "([I)Z"⟩
abbrev cX0_excess : ByteArray := prog_2_method_13_code
def yX0_excess : MethodName := ⟨RX0, "excess", "([IJJ)J"⟩
abbrev cX0_halfForBoth : ByteArray := prog_2_method_14_code
def yX0_halfForBoth : MethodName := ⟨RX0, "halfForBoth", "(LKnifeDesk$Span;[I[I)Z"⟩
def RX1 : String := "KnifeDesk$Division"
def TX1 : u_T := fun k => match k with
  | 0 => ("KnifeDesk$Division", "there", "Z", false)
  | 1 => ("KnifeDesk$Division", "full", "Z", false)
  | 2 => ("KnifeDesk$Division", "unit", "J", false)
  | 3 => ("KnifeDesk$Division", "events", "I", false)
  | 4 => ("KnifeDesk$Division", "log", "[LKnifeDesk$Event;", true)
  | 5 => ("KnifeDesk$Division", "spans", "[I", true)
  | 6 => ("KnifeDesk$Division", "all", "[LKnifeDesk$Span;", true)
  | 7 => ("KnifeDesk$Division", "seen", "[LKnifeDesk$Point;", true)
  | 8 => ("KnifeDesk$Division", "table", "[J", true)
  | _ => ("KnifeDesk$Division", "ratio", "LKnifeDesk$Point;", true)
def tyX1 : Nat → FieldType := fun k => match k with
  | 0 => .boolean
  | 1 => .boolean
  | 2 => .long
  | 3 => .int
  | 4 => .array (.object "KnifeDesk$Event")
  | 5 => .array .int
  | 6 => .array (.object "KnifeDesk$Span")
  | 7 => .array (.object "KnifeDesk$Point")
  | 8 => .array .long
  | _ => .object "KnifeDesk$Point"
theorem nmX1 : ∀ a, a < 10 → ∀ b, b < 10 → a ≠ b → (TX1 a).2.1 ≠ (TX1 b).2.1 := by decide +kernel
theorem tyX1_ok : ∀ k, k < 10 → parseFieldDescriptor (TX1 k).2.2.1 = some (tyX1 k) := by decide +kernel
abbrev cX1_init : ByteArray := prog_3_method_1_code
def yX1_init : MethodName := ⟨RX1, "<init>", "()V"⟩
abbrev cX1_clear : ByteArray := prog_3_method_2_code
def yX1_clear : MethodName := ⟨RX1, "clear", "()V"⟩
abbrev cX1_copy : ByteArray := prog_3_method_3_code
def yX1_copy : MethodName := ⟨RX1, "copy", "(LKnifeDesk$Division;)V"⟩
abbrev cX1_held : ByteArray := prog_3_method_4_code
def yX1_held : MethodName := ⟨RX1, "held", "(II)LKnifeDesk$Span;"⟩
abbrev cX1_takesIn : ByteArray := prog_3_method_5_code
def yX1_takesIn : MethodName := ⟨RX1, "takesIn", "(LKnifeDesk$Point;)Z"⟩
abbrev cX1_note : ByteArray := prog_3_method_6_code
def yX1_note : MethodName := ⟨RX1, "note", "(IILKnifeDesk$Point;LKnifeDesk$Point;)V"⟩
abbrev cX1_give : ByteArray := prog_3_method_7_code
def yX1_give : MethodName := ⟨RX1, "give", "(ILKnifeDesk$Point;LKnifeDesk$Point;)V"⟩
abbrev cX1_overlaps : ByteArray := prog_3_method_8_code
def yX1_overlaps : MethodName := ⟨RX1, "overlaps", "(LKnifeDesk$Span;)Z"⟩
abbrev cX1_holds : ByteArray := prog_3_method_9_code
def yX1_holds : MethodName := ⟨RX1, "holds", "(ILKnifeDesk$Cake;[I)J"⟩
abbrev cX1_trimmedOff : ByteArray := prog_3_method_10_code
def yX1_trimmedOff : MethodName := ⟨RX1, "trimmedOff", "(LKnifeDesk$Cake;[I)J"⟩
abbrev cX1_leftOver : ByteArray := prog_3_method_11_code
def yX1_leftOver : MethodName := ⟨RX1, "leftOver", "(LKnifeDesk$Cake;[I)J"⟩
abbrev cX1_countCuts : ByteArray := prog_3_method_12_code
def yX1_countCuts : MethodName := ⟨RX1, "countCuts", "(I)I"⟩
abbrev cX1_see : ByteArray := prog_3_method_13_code
def yX1_see : MethodName := ⟨RX1, "see", "(LKnifeDesk$Point;II)I"⟩
abbrev cX1_bestExchange : ByteArray := prog_3_method_14_code
def yX1_bestExchange : MethodName := ⟨RX1, "bestExchange", "(LKnifeDesk$Cake;)I"⟩
abbrev cX1_together : ByteArray := prog_3_method_15_code
def yX1_together : MethodName := ⟨RX1, "together", "(II)J"⟩
abbrev cX1_figures : ByteArray := prog_3_method_16_code
def yX1_figures : MethodName := ⟨RX1, "figures", "(II)I"⟩
def RX2 : String := "KnifeDesk$Event"
def TX2 : u_T := fun k => match k with
  | 0 => ("KnifeDesk$Event", "kind", "I", false)
  | 1 => ("KnifeDesk$Event", "agent", "I", false)
  | _ => ("KnifeDesk$Event", "points", "LKnifeDesk$Span;", true)
def tyX2 : Nat → FieldType := fun k => match k with
  | 0 => .int
  | 1 => .int
  | _ => .object "KnifeDesk$Span"
theorem nmX2 : ∀ a, a < 3 → ∀ b, b < 3 → a ≠ b → (TX2 a).2.1 ≠ (TX2 b).2.1 := by decide +kernel
theorem tyX2_ok : ∀ k, k < 3 → parseFieldDescriptor (TX2 k).2.2.1 = some (tyX2 k) := by decide +kernel
abbrev cX2_init : ByteArray := prog_4_method_1_code
def yX2_init : MethodName := ⟨RX2, "<init>", "()V"⟩
abbrev cX2_copy : ByteArray := prog_4_method_2_code
def yX2_copy : MethodName := ⟨RX2, "copy", "(LKnifeDesk$Event;)V"⟩
abbrev cX2_part : ByteArray := prog_4_method_3_code
def yX2_part : MethodName := ⟨RX2, "part", "(I)J"⟩
def RX3 : String := "KnifeDesk$Point"
def TX3 : u_T := fun k => match k with
  | 0 => ("KnifeDesk$Point", "above", "J", false)
  | _ => ("KnifeDesk$Point", "below", "J", false)
def tyX3 : Nat → FieldType := fun k => match k with
  | 0 => .long
  | _ => .long
theorem nmX3 : ∀ a, a < 2 → ∀ b, b < 2 → a ≠ b → (TX3 a).2.1 ≠ (TX3 b).2.1 := by decide +kernel
theorem tyX3_ok : ∀ k, k < 2 → parseFieldDescriptor (TX3 k).2.2.1 = some (tyX3 k) := by decide +kernel
abbrev cX3_init : ByteArray := prog_5_method_1_code
def yX3_init : MethodName := ⟨RX3, "<init>", "()V"⟩
abbrev cX3_put : ByteArray := prog_5_method_2_code
def yX3_put : MethodName := ⟨RX3, "put", "(JJ)V"⟩
abbrev cX3_copy : ByteArray := prog_5_method_3_code
def yX3_copy : MethodName := ⟨RX3, "copy", "(LKnifeDesk$Point;)V"⟩
abbrev cX3_isAt : ByteArray := prog_5_method_4_code
def yX3_isAt : MethodName := ⟨RX3, "isAt", "(JJ)Z"⟩
abbrev cX3_isBelow : ByteArray := prog_5_method_5_code
def yX3_isBelow : MethodName := ⟨RX3, "isBelow", "(LKnifeDesk$Point;)Z"⟩
abbrev cX3_parts : ByteArray := prog_5_method_6_code
def yX3_parts : MethodName := ⟨RX3, "parts", "(J)J"⟩
abbrev cX3_part : ByteArray := prog_5_method_7_code
def yX3_part : MethodName := ⟨RX3, "part", "(I)J"⟩
def RX4 : String := "KnifeDesk$Rows"
def TX4 : u_T := fun k => match k with
  | 0 => ("KnifeDesk$Rows", "places", "[[I", true)
  | _ => ("KnifeDesk$Rows", "sizes", "[I", true)
def tyX4 : Nat → FieldType := fun k => match k with
  | 0 => .array (.array .int)
  | _ => .array .int
theorem nmX4 : ∀ a, a < 2 → ∀ b, b < 2 → a ≠ b → (TX4 a).2.1 ≠ (TX4 b).2.1 := by decide +kernel
theorem tyX4_ok : ∀ k, k < 2 → parseFieldDescriptor (TX4 k).2.2.1 = some (tyX4 k) := by decide +kernel
abbrev cX4_init : ByteArray := prog_6_method_1_code
def yX4_init : MethodName := ⟨RX4, "<init>", "()V"⟩
abbrev cX4_isRow : ByteArray := prog_6_method_2_code
def yX4_isRow : MethodName := ⟨RX4, "isRow", "(I)Z"⟩
abbrev cX4_isLaid : ByteArray := prog_6_method_3_code
def yX4_isLaid : MethodName := ⟨RX4, "isLaid", "(I)Z"⟩
abbrev cX4_hasPlace : ByteArray := prog_6_method_4_code
def yX4_hasPlace : MethodName := ⟨RX4, "hasPlace", "(II)Z"⟩
abbrev cX4_lay : ByteArray := prog_6_method_5_code
def yX4_lay : MethodName := ⟨RX4, "lay", "(II)V"⟩
def RX5 : String := "KnifeDesk$Sharer"
def TX5 : u_T := fun k => match k with
  | 0 => ("KnifeDesk$Sharer", "cake", "LKnifeDesk$Cake;", true)
  | 1 => ("KnifeDesk$Sharer", "out", "LKnifeDesk$Division;", true)
  | 2 => ("KnifeDesk$Sharer", "first", "I", false)
  | 3 => ("KnifeDesk$Sharer", "whole", "LKnifeDesk$Span;", true)
  | 4 => ("KnifeDesk$Sharer", "rest", "LKnifeDesk$Span;", true)
  | 5 => ("KnifeDesk$Sharer", "marks", "[LKnifeDesk$Point;", true)
  | 6 => ("KnifeDesk$Sharer", "ends", "[LKnifeDesk$Point;", true)
  | 7 => ("KnifeDesk$Sharer", "groups", "[I", true)
  | 8 => ("KnifeDesk$Sharer", "pieces", "[LKnifeDesk$Span;", true)
  | 9 => ("KnifeDesk$Sharer", "crumbs", "LKnifeDesk$Span;", true)
  | 10 => ("KnifeDesk$Sharer", "favourite", "I", false)
  | 11 => ("KnifeDesk$Sharer", "trimmed", "Z", false)
  | _ => ("KnifeDesk$Sharer", "tookTrimmed", "I", false)
def tyX5 : Nat → FieldType := fun k => match k with
  | 0 => .object "KnifeDesk$Cake"
  | 1 => .object "KnifeDesk$Division"
  | 2 => .int
  | 3 => .object "KnifeDesk$Span"
  | 4 => .object "KnifeDesk$Span"
  | 5 => .array (.object "KnifeDesk$Point")
  | 6 => .array (.object "KnifeDesk$Point")
  | 7 => .array .int
  | 8 => .array (.object "KnifeDesk$Span")
  | 9 => .object "KnifeDesk$Span"
  | 10 => .int
  | 11 => .boolean
  | _ => .int
theorem nmX5 : ∀ a, a < 13 → ∀ b, b < 13 → a ≠ b → (TX5 a).2.1 ≠ (TX5 b).2.1 := by decide +kernel
theorem tyX5_ok : ∀ k, k < 13 → parseFieldDescriptor (TX5 k).2.2.1 = some (tyX5 k) := by decide +kernel
abbrev cX5_init : ByteArray := prog_7_method_1_code
def yX5_init : MethodName := ⟨RX5, "<init>", "(LKnifeDesk$Cake;LKnifeDesk$Division;)V"⟩
abbrev cX5_run : ByteArray := prog_7_method_2_code
def yX5_run : MethodName := ⟨RX5, "run", "(II)Z"⟩
abbrev cX5_agentAt : ByteArray := prog_7_method_3_code
def yX5_agentAt : MethodName := ⟨RX5, "agentAt", "(I)I"⟩
abbrev cX5_everyone : ByteArray := prog_7_method_4_code
def yX5_everyone : MethodName := ⟨RX5, "everyone", "()I"⟩
abbrev cX5_isIn : ByteArray := prog_7_method_5_code
def yX5_isIn : MethodName := ⟨RX5, "isIn", "(II)Z"⟩
abbrev cX5_firstOf : ByteArray := prog_7_method_6_code
def yX5_firstOf : MethodName := ⟨RX5, "firstOf", "(I)I"⟩
abbrev cX5_has : ByteArray := prog_7_method_7_code
def yX5_has : MethodName := ⟨RX5, "has", "(ILKnifeDesk$Span;)J"⟩
abbrev cX5_putMark : ByteArray := prog_7_method_8_code
def yX5_putMark : MethodName := ⟨RX5, "putMark", "(LKnifeDesk$Point;ILKnifeDesk$Point;LKnifeDesk$Span;II)Z"⟩
abbrev cX5_takeRestTo : ByteArray := prog_7_method_9_code
def yX5_takeRestTo : MethodName := ⟨RX5, "takeRestTo", "(ILKnifeDesk$Point;)V"⟩
abbrev cX5_takePiece : ByteArray := prog_7_method_10_code
def yX5_takePiece : MethodName := ⟨RX5, "takePiece", "(II)V"⟩
abbrev cX5_cutAndChoose : ByteArray := prog_7_method_11_code
def yX5_cutAndChoose : MethodName := ⟨RX5, "cutAndChoose", "()Z"⟩
abbrev cX5_moveKnife : ByteArray := prog_7_method_12_code
def yX5_moveKnife : MethodName := ⟨RX5, "moveKnife", "()Z"⟩
abbrev cX5_markAll : ByteArray := prog_7_method_13_code
def yX5_markAll : MethodName := ⟨RX5, "markAll", "(ILKnifeDesk$Span;II)Z"⟩
abbrev cX5_leastMark : ByteArray := prog_7_method_14_code
def yX5_leastMark : MethodName := ⟨RX5, "leastMark", "(I)I"⟩
abbrev cX5_diminish : ByteArray := prog_7_method_15_code
def yX5_diminish : MethodName := ⟨RX5, "diminish", "()Z"⟩
abbrev cX5_trimOrPass : ByteArray := prog_7_method_16_code
def yX5_trimOrPass : MethodName := ⟨RX5, "trimOrPass", "(III)I"⟩
abbrev cX5_halve : ByteArray := prog_7_method_17_code
def yX5_halve : MethodName := ⟨RX5, "halve", "()Z"⟩
abbrev cX5_othersBehind : ByteArray := prog_7_method_18_code
def yX5_othersBehind : MethodName := ⟨RX5, "othersBehind", "(IILKnifeDesk$Point;)I"⟩
abbrev cX5_cutInThree : ByteArray := prog_7_method_19_code
def yX5_cutInThree : MethodName := ⟨RX5, "cutInThree", "(ILKnifeDesk$Span;)Z"⟩
abbrev cX5_mostOf : ByteArray := prog_7_method_20_code
def yX5_mostOf : MethodName := ⟨RX5, "mostOf", "(II)I"⟩
abbrev cX5_cutAndTrim : ByteArray := prog_7_method_21_code
def yX5_cutAndTrim : MethodName := ⟨RX5, "cutAndTrim", "()Z"⟩
abbrev cX5_takePieces : ByteArray := prog_7_method_22_code
def yX5_takePieces : MethodName := ⟨RX5, "takePieces", "()Z"⟩
abbrev cX5_partTrimmings : ByteArray := prog_7_method_23_code
def yX5_partTrimmings : MethodName := ⟨RX5, "partTrimmings", "()Z"⟩
def RX6 : String := "KnifeDesk$Sheet"
def TX6 : u_T := fun k => match k with
  | 0 => ("KnifeDesk$Sheet", "length", "I", false)
  | _ => ("KnifeDesk$Sheet", "bytes", "[B", true)
def tyX6 : Nat → FieldType := fun k => match k with
  | 0 => .int
  | _ => .array .byte
theorem nmX6 : ∀ a, a < 2 → ∀ b, b < 2 → a ≠ b → (TX6 a).2.1 ≠ (TX6 b).2.1 := by decide +kernel
theorem tyX6_ok : ∀ k, k < 2 → parseFieldDescriptor (TX6 k).2.2.1 = some (tyX6 k) := by decide +kernel
abbrev cX6_init : ByteArray := prog_8_method_1_code
def yX6_init : MethodName := ⟨RX6, "<init>", "()V"⟩
abbrev cX6_add : ByteArray := prog_8_method_2_code
def yX6_add : MethodName := ⟨RX6, "add", "(I)V"⟩
abbrev cX6_addNumber : ByteArray := prog_8_method_3_code
def yX6_addNumber : MethodName := ⟨RX6, "addNumber", "(J)V"⟩
abbrev cX6_addPoint : ByteArray := prog_8_method_4_code
def yX6_addPoint : MethodName := ⟨RX6, "addPoint", "(LKnifeDesk$Point;)V"⟩
abbrev cX6_letterOf : ByteArray := prog_8_method_5_code
def yX6_letterOf : MethodName := ⟨RX6, "letterOf", "(I)I"⟩
abbrev cX6_addEvent : ByteArray := prog_8_method_6_code
def yX6_addEvent : MethodName := ⟨RX6, "addEvent", "(LKnifeDesk$Event;)V"⟩
def RX7 : String := "KnifeDesk$Span"
def TX7 : u_T := fun k => match k with
  | 0 => ("KnifeDesk$Span", "left", "LKnifeDesk$Point;", true)
  | _ => ("KnifeDesk$Span", "right", "LKnifeDesk$Point;", true)
def tyX7 : Nat → FieldType := fun k => match k with
  | 0 => .object "KnifeDesk$Point"
  | _ => .object "KnifeDesk$Point"
theorem nmX7 : ∀ a, a < 2 → ∀ b, b < 2 → a ≠ b → (TX7 a).2.1 ≠ (TX7 b).2.1 := by decide +kernel
theorem tyX7_ok : ∀ k, k < 2 → parseFieldDescriptor (TX7 k).2.2.1 = some (tyX7 k) := by decide +kernel
abbrev cX7_init : ByteArray := prog_9_method_1_code
def yX7_init : MethodName := ⟨RX7, "<init>", "()V"⟩
abbrev cX7_put : ByteArray := prog_9_method_2_code
def yX7_put : MethodName := ⟨RX7, "put", "(LKnifeDesk$Point;LKnifeDesk$Point;)V"⟩
abbrev cX7_copy : ByteArray := prog_9_method_3_code
def yX7_copy : MethodName := ⟨RX7, "copy", "(LKnifeDesk$Span;)V"⟩
abbrev cX7_isEmpty : ByteArray := prog_9_method_4_code
def yX7_isEmpty : MethodName := ⟨RX7, "isEmpty", "()Z"⟩
abbrev cX7_part : ByteArray := prog_9_method_5_code
def yX7_part : MethodName := ⟨RX7, "part", "(I)J"⟩
def RX8 : String := "KnifeDesk$Tape"
def TX8 : u_T := fun k => match k with
  | 0 => ("KnifeDesk$Tape", "length", "I", false)
  | 1 => ("KnifeDesk$Tape", "at", "I", false)
  | 2 => ("KnifeDesk$Tape", "bytes", "[B", true)
  | 3 => ("KnifeDesk$Tape", "below", "LKnifeDesk$Point;", true)
  | _ => ("KnifeDesk$Tape", "span", "LKnifeDesk$Span;", true)
def tyX8 : Nat → FieldType := fun k => match k with
  | 0 => .int
  | 1 => .int
  | 2 => .array .byte
  | 3 => .object "KnifeDesk$Point"
  | _ => .object "KnifeDesk$Span"
theorem nmX8 : ∀ a, a < 5 → ∀ b, b < 5 → a ≠ b → (TX8 a).2.1 ≠ (TX8 b).2.1 := by decide +kernel
theorem tyX8_ok : ∀ k, k < 5 → parseFieldDescriptor (TX8 k).2.2.1 = some (tyX8 k) := by decide +kernel
abbrev cX8_init : ByteArray := prog_10_method_1_code
def yX8_init : MethodName := ⟨RX8, "<init>", "()V"⟩
abbrev cX8_add : ByteArray := prog_10_method_2_code
def yX8_add : MethodName := ⟨RX8, "add", "(I)Z"⟩
abbrev cX8_read : ByteArray := prog_10_method_3_code
def yX8_read : MethodName := ⟨RX8, "read", "(ZLKnifeDesk$Cake;LKnifeDesk$Division;)I"⟩
abbrev cX8_skips : ByteArray := prog_10_method_4_code
def yX8_skips : MethodName := ⟨RX8, "skips", "(I)Z"⟩
abbrev cX8_figure : ByteArray := prog_10_method_5_code
def yX8_figure : MethodName := ⟨RX8, "figure", "()I"⟩
abbrev cX8_readWorths : ByteArray := prog_10_method_6_code
def yX8_readWorths : MethodName := ⟨RX8, "readWorths", "(LKnifeDesk$Cake;)Z"⟩
abbrev cX8_readShare : ByteArray := prog_10_method_7_code
def yX8_readShare : MethodName := ⟨RX8, "readShare", "(LKnifeDesk$Cake;LKnifeDesk$Division;)Z"⟩
abbrev cX8_readSpan : ByteArray := prog_10_method_8_code
def yX8_readSpan : MethodName := ⟨RX8, "readSpan", "(IILKnifeDesk$Division;)Z"⟩
abbrev cX8_readPoint : ByteArray := prog_10_method_9_code
def yX8_readPoint : MethodName := ⟨RX8, "readPoint", "(LKnifeDesk$Point;I)Z"⟩
abbrev cX8_readNumber : ByteArray := prog_10_method_10_code
def yX8_readNumber : MethodName := ⟨RX8, "readNumber", "(I)I"⟩
def RX9 : String := "KnifeDesk"
def TX9 : u_T := fun k => match k with
  | 0 => ("KnifeDesk", "cake", "LKnifeDesk$Cake;", true)
  | 1 => ("KnifeDesk", "draft", "LKnifeDesk$Cake;", true)
  | 2 => ("KnifeDesk", "keptCake", "LKnifeDesk$Cake;", true)
  | 3 => ("KnifeDesk", "division", "LKnifeDesk$Division;", true)
  | 4 => ("KnifeDesk", "trial", "LKnifeDesk$Division;", true)
  | 5 => ("KnifeDesk", "keptDivision", "LKnifeDesk$Division;", true)
  | 6 => ("KnifeDesk", "kept", "Z", false)
  | 7 => ("KnifeDesk", "sharer", "LKnifeDesk$Sharer;", true)
  | 8 => ("KnifeDesk", "tape", "LKnifeDesk$Tape;", true)
  | 9 => ("KnifeDesk", "sheet", "LKnifeDesk$Sheet;", true)
  | 10 => ("KnifeDesk", "rows", "LKnifeDesk$Rows;", true)
  | 11 => ("KnifeDesk", "answer", "LKnifeDesk$Point;", true)
  | 12 => ("KnifeDesk", "most", "LKnifeDesk$Point;", true)
  | _ => ("KnifeDesk", "half", "LKnifeDesk$Span;", true)
def tyX9 : Nat → FieldType := fun k => match k with
  | 0 => .object "KnifeDesk$Cake"
  | 1 => .object "KnifeDesk$Cake"
  | 2 => .object "KnifeDesk$Cake"
  | 3 => .object "KnifeDesk$Division"
  | 4 => .object "KnifeDesk$Division"
  | 5 => .object "KnifeDesk$Division"
  | 6 => .boolean
  | 7 => .object "KnifeDesk$Sharer"
  | 8 => .object "KnifeDesk$Tape"
  | 9 => .object "KnifeDesk$Sheet"
  | 10 => .object "KnifeDesk$Rows"
  | 11 => .object "KnifeDesk$Point"
  | 12 => .object "KnifeDesk$Point"
  | _ => .object "KnifeDesk$Span"
theorem nmX9 : ∀ a, a < 14 → ∀ b, b < 14 → a ≠ b → (TX9 a).2.1 ≠ (TX9 b).2.1 := by decide +kernel
theorem tyX9_ok : ∀ k, k < 14 → parseFieldDescriptor (TX9 k).2.2.1 = some (tyX9 k) := by decide +kernel
abbrev cX9_init : ByteArray := prog_1_method_1_code
def yX9_init : MethodName := ⟨RX9, "<init>", "()V"⟩
abbrev cX9_begin : ByteArray := prog_1_method_2_code
def yX9_begin : MethodName := ⟨RX9, "begin", "(II)I"⟩
abbrev cX9_worth : ByteArray := prog_1_method_3_code
def yX9_worth : MethodName := ⟨RX9, "worth", "(III)I"⟩
abbrev cX9_tells : ByteArray := prog_1_method_4_code
def yX9_tells : MethodName := ⟨RX9, "tells", "(III)I"⟩
abbrev cX9_honest : ByteArray := prog_1_method_5_code
def yX9_honest : MethodName := ⟨RX9, "honest", "(I)I"⟩
abbrev cX9_strip : ByteArray := prog_1_method_6_code
def yX9_strip : MethodName := ⟨RX9, "strip", "(III)I"⟩
abbrev cX9_span : ByteArray := prog_1_method_7_code
def yX9_span : MethodName := ⟨RX9, "span", "(IIIIIII)J"⟩
abbrev cX9_mark : ByteArray := prog_1_method_8_code
def yX9_mark : MethodName := ⟨RX9, "mark", "(IIIIII)J"⟩
abbrev cX9_exact : ByteArray := prog_1_method_9_code
def yX9_exact : MethodName := ⟨RX9, "exact", "(III)J"⟩
abbrev cX9_feed : ByteArray := prog_1_method_10_code
def yX9_feed : MethodName := ⟨RX9, "feed", "(I)I"⟩
abbrev cX9_worths : ByteArray := prog_1_method_11_code
def yX9_worths : MethodName := ⟨RX9, "worths", "()I"⟩
abbrev cX9_divides : ByteArray := prog_1_method_12_code
def yX9_divides : MethodName := ⟨RX9, "divides", "()I"⟩
abbrev cX9_prints : ByteArray := prog_1_method_13_code
def yX9_prints : MethodName := ⟨RX9, "prints", "()I"⟩
abbrev cX9_paper : ByteArray := prog_1_method_14_code
def yX9_paper : MethodName := ⟨RX9, "paper", "(I)I"⟩
abbrev cX9_shares : ByteArray := prog_1_method_15_code
def yX9_shares : MethodName := ⟨RX9, "shares", "(II)I"⟩
abbrev cX9_event : ByteArray := prog_1_method_16_code
def yX9_event : MethodName := ⟨RX9, "event", "(II)J"⟩
abbrev cX9_share : ByteArray := prog_1_method_17_code
def yX9_share : MethodName := ⟨RX9, "share", "(III)J"⟩
abbrev cX9_gets : ByteArray := prog_1_method_18_code
def yX9_gets : MethodName := ⟨RX9, "gets", "(IIII)J"⟩
abbrev cX9_envies : ByteArray := prog_1_method_19_code
def yX9_envies : MethodName := ⟨RX9, "envies", "(II)I"⟩
abbrev cX9_fair : ByteArray := prog_1_method_20_code
def yX9_fair : MethodName := ⟨RX9, "fair", "(I)I"⟩
abbrev cX9_exchange : ByteArray := prog_1_method_21_code
def yX9_exchange : MethodName := ⟨RX9, "exchange", "()I"⟩
abbrev cX9_cuts : ByteArray := prog_1_method_22_code
def yX9_cuts : MethodName := ⟨RX9, "cuts", "()I"⟩
abbrev cX9_off : ByteArray := prog_1_method_23_code
def yX9_off : MethodName := ⟨RX9, "off", "(III)J"⟩
abbrev cX9_would : ByteArray := prog_1_method_24_code
def yX9_would : MethodName := ⟨RX9, "would", "(IIII)J"⟩
abbrev cX9_lie : ByteArray := prog_1_method_25_code
def yX9_lie : MethodName := ⟨RX9, "lie", "(IIII)J"⟩
abbrev cX9_best : ByteArray := prog_1_method_26_code
def yX9_best : MethodName := ⟨RX9, "best", "(II)I"⟩
abbrev cX9_list : ByteArray := prog_1_method_27_code
def yX9_list : MethodName := ⟨RX9, "list", "(II)I"⟩
abbrev cX9_set : ByteArray := prog_1_method_28_code
def yX9_set : MethodName := ⟨RX9, "set", "(III)I"⟩
abbrev cX9_get : ByteArray := prog_1_method_29_code
def yX9_get : MethodName := ⟨RX9, "get", "(II)J"⟩
abbrev cX9_into : ByteArray := prog_1_method_30_code
def yX9_into : MethodName := ⟨RX9, "into", "(III)I"⟩
abbrev cX9_from : ByteArray := prog_1_method_31_code
def yX9_from : MethodName := ⟨RX9, "from", "(III)I"⟩
abbrev cX9_image : ByteArray := prog_1_method_32_code
def yX9_image : MethodName := ⟨RX9, "image", "()I"⟩
abbrev cX9_back : ByteArray := prog_1_method_33_code
def yX9_back : MethodName := ⟨RX9, "back", "()I"⟩
abbrev cX9_count : ByteArray := prog_1_method_34_code
def yX9_count : MethodName := ⟨RX9, "count", "(I)I"⟩
abbrev cX9_isWorth : ByteArray := prog_1_method_35_code
def yX9_isWorth : MethodName := ⟨RX9, "isWorth", "(I)Z"⟩
abbrev cX9_isFlag : ByteArray := prog_1_method_36_code
def yX9_isFlag : MethodName := ⟨RX9, "isFlag", "(I)Z"⟩
abbrev cX9_isWay : ByteArray := prog_1_method_37_code
def yX9_isWay : MethodName := ⟨RX9, "isWay", "(I)Z"⟩
abbrev cX9_isAllowed : ByteArray := prog_1_method_38_code
def yX9_isAllowed : MethodName := ⟨RX9, "isAllowed", "(I)Z"⟩
abbrev cX9_isPoint : ByteArray := prog_1_method_39_code
def yX9_isPoint : MethodName := ⟨RX9, "isPoint", "(II)Z"⟩
abbrev cX9_refusal : ByteArray := prog_1_method_40_code
def yX9_refusal : MethodName := ⟨RX9, "refusal", "(III)I"⟩
abbrev cX9_bringsMore : ByteArray := prog_1_method_41_code
def yX9_bringsMore : MethodName := ⟨RX9, "bringsMore", "(I)Z"⟩
abbrev cX9_tell : ByteArray := prog_1_method_42_code
def yX9_tell : MethodName := ⟨RX9, "tell", "(JJI)J"⟩
def RX10 : String := "KnifeDeskModel"
def TX10 : u_T := fun k => match k with
  | 0 => ("KnifeDeskModel", "now", "[J", true)
  | 1 => ("KnifeDeskModel", "kept", "[J", true)
  | 2 => ("KnifeDeskModel", "imaged", "[J", true)
  | 3 => ("KnifeDeskModel", "hasImage", "Z", false)
  | 4 => ("KnifeDeskModel", "above", "J", false)
  | 5 => ("KnifeDeskModel", "below", "J", false)
  | 6 => ("KnifeDeskModel", "tape", "[I", true)
  | 7 => ("KnifeDeskModel", "size", "I", false)
  | 8 => ("KnifeDeskModel", "place", "I", false)
  | 9 => ("KnifeDeskModel", "isBad", "Z", false)
  | 10 => ("KnifeDeskModel", "toldOnes", "I", false)
  | 11 => ("KnifeDeskModel", "isFull", "Z", false)
  | 12 => ("KnifeDeskModel", "first", "I", false)
  | 13 => ("KnifeDeskModel", "pointUp", "[J", true)
  | 14 => ("KnifeDeskModel", "pointDown", "[J", true)
  | 15 => ("KnifeDeskModel", "shrunkBy", "I", false)
  | 16 => ("KnifeDeskModel", "waits", "[I", true)
  | 17 => ("KnifeDeskModel", "waitSpan", "[J", true)
  | 18 => ("KnifeDeskModel", "waitMany", "I", false)
  | 19 => ("KnifeDeskModel", "piece", "[J", true)
  | 20 => ("KnifeDeskModel", "paper", "[I", true)
  | 21 => ("KnifeDeskModel", "paperMany", "I", false)
  | 22 => ("KnifeDeskModel", "figures", "[I", true)
  | 23 => ("KnifeDeskModel", "table", "[J", true)
  | 24 => ("KnifeDeskModel", "cutAt", "[J", true)
  | 25 => ("KnifeDeskModel", "ahead", "[J", true)
  | 26 => ("KnifeDeskModel", "listMany", "[I", true)
  | _ => ("KnifeDeskModel", "lists", "[I", true)
def tyX10 : Nat → FieldType := fun k => match k with
  | 0 => .array .long
  | 1 => .array .long
  | 2 => .array .long
  | 3 => .boolean
  | 4 => .long
  | 5 => .long
  | 6 => .array .int
  | 7 => .int
  | 8 => .int
  | 9 => .boolean
  | 10 => .int
  | 11 => .boolean
  | 12 => .int
  | 13 => .array .long
  | 14 => .array .long
  | 15 => .int
  | 16 => .array .int
  | 17 => .array .long
  | 18 => .int
  | 19 => .array .long
  | 20 => .array .int
  | 21 => .int
  | 22 => .array .int
  | 23 => .array .long
  | 24 => .array .long
  | 25 => .array .long
  | 26 => .array .int
  | _ => .array .int
theorem nmX10 : ∀ a, a < 28 → ∀ b, b < 28 → a ≠ b → (TX10 a).2.1 ≠ (TX10 b).2.1 := by decide +kernel
theorem tyX10_ok : ∀ k, k < 28 → parseFieldDescriptor (TX10 k).2.2.1 = some (tyX10 k) := by decide +kernel
abbrev cX10_init : ByteArray := prog_12_method_1_code
def yX10_init : MethodName := ⟨RX10, "<init>", "()V"⟩
abbrev cX10_fresh : ByteArray := prog_12_method_2_code
def yX10_fresh : MethodName := ⟨RX10, "fresh", "(II)V"⟩
abbrev cX10_copies : ByteArray := prog_12_method_3_code
def yX10_copies : MethodName := ⟨RX10, "copies", "([J[J)V"⟩
abbrev cX10_in : ByteArray := prog_12_method_4_code
def yX10_in : MethodName := ⟨RX10, "in", "(JJJ)Z"⟩
abbrev cX10_strips : ByteArray := prog_12_method_5_code
def yX10_strips : MethodName := ⟨RX10, "strips", "()I"⟩
abbrev cX10_agents : ByteArray := prog_12_method_6_code
def yX10_agents : MethodName := ⟨RX10, "agents", "()I"⟩
abbrev cX10_isAgent : ByteArray := prog_12_method_7_code
def yX10_isAgent : MethodName := ⟨RX10, "isAgent", "(I)Z"⟩
abbrev cX10_isStrip : ByteArray := prog_12_method_8_code
def yX10_isStrip : MethodName := ⟨RX10, "isStrip", "(I)Z"⟩
abbrev cX10_worthOf : ByteArray := prog_12_method_9_code
def yX10_worthOf : MethodName := ⟨RX10, "worthOf", "(III)J"⟩
abbrev cX10_begin : ByteArray := prog_12_method_10_code
def yX10_begin : MethodName := ⟨RX10, "begin", "(II)I"⟩
abbrev cX10_worth : ByteArray := prog_12_method_11_code
def yX10_worth : MethodName := ⟨RX10, "worth", "(III)I"⟩
abbrev cX10_tells : ByteArray := prog_12_method_12_code
def yX10_tells : MethodName := ⟨RX10, "tells", "(III)I"⟩
abbrev cX10_honest : ByteArray := prog_12_method_13_code
def yX10_honest : MethodName := ⟨RX10, "honest", "(I)I"⟩
abbrev cX10_strip : ByteArray := prog_12_method_14_code
def yX10_strip : MethodName := ⟨RX10, "strip", "(III)I"⟩
abbrev cX10_divisor : ByteArray := prog_12_method_15_code
def yX10_divisor : MethodName := ⟨RX10, "divisor", "(JJ)J"⟩
abbrev cX10_becomes : ByteArray := prog_12_method_16_code
def yX10_becomes : MethodName := ⟨RX10, "becomes", "(JJ)V"⟩
abbrev cX10_partOf : ByteArray := prog_12_method_17_code
def yX10_partOf : MethodName := ⟨RX10, "partOf", "(I)J"⟩
abbrev cX10_isLess : ByteArray := prog_12_method_18_code
def yX10_isLess : MethodName := ⟨RX10, "isLess", "(JJJJ)Z"⟩
abbrev cX10_aheadOf : ByteArray := prog_12_method_19_code
def yX10_aheadOf : MethodName := ⟨RX10, "aheadOf", "(IIJJ)J"⟩
abbrev cX10_allOf : ByteArray := prog_12_method_20_code
def yX10_allOf : MethodName := ⟨RX10, "allOf", "(II)J"⟩
abbrev cX10_worthBetween : ByteArray := prog_12_method_21_code
def yX10_worthBetween : MethodName := ⟨RX10, "worthBetween", "(IIJJJJ)V"⟩
abbrev cX10_span : ByteArray := prog_12_method_22_code
def yX10_span : MethodName := ⟨RX10, "span", "(IIIIIII)J"⟩
abbrev cX10_marks : ByteArray := prog_12_method_23_code
def yX10_marks : MethodName := ⟨RX10, "marks", "(IJJJJ)Z"⟩
abbrev cX10_mark : ByteArray := prog_12_method_24_code
def yX10_mark : MethodName := ⟨RX10, "mark", "(IIIIII)J"⟩
abbrev cX10_exact : ByteArray := prog_12_method_25_code
def yX10_exact : MethodName := ⟨RX10, "exact", "(III)J"⟩
abbrev cX10_pairOf : ByteArray := prog_12_method_26_code
def yX10_pairOf : MethodName := ⟨RX10, "pairOf", "(JJJJI)J"⟩
abbrev cX10_feed : ByteArray := prog_12_method_27_code
def yX10_feed : MethodName := ⟨RX10, "feed", "(I)I"⟩
abbrev cX10_here : ByteArray := prog_12_method_28_code
def yX10_here : MethodName := ⟨RX10, "here", "()I"⟩
abbrev cX10_goesOn : ByteArray := prog_12_method_29_code
def yX10_goesOn : MethodName := ⟨RX10, "goesOn", "(I)Z"⟩
abbrev cX10_wants : ByteArray := prog_12_method_30_code
def yX10_wants : MethodName := ⟨RX10, "wants", "(I)V"⟩
abbrev cX10_isFigure : ByteArray := prog_12_method_31_code
def yX10_isFigure : MethodName := ⟨RX10, "isFigure", "()Z"⟩
abbrev cX10_number : ByteArray := prog_12_method_32_code
def yX10_number : MethodName := ⟨RX10, "number", "(I)I"⟩
abbrev cX10_badAt : ByteArray := prog_12_method_33_code
def yX10_badAt : MethodName := ⟨RX10, "badAt", "(I)V"⟩
abbrev cX10_agentHere : ByteArray := prog_12_method_34_code
def yX10_agentHere : MethodName := ⟨RX10, "agentHere", "()I"⟩
abbrev cX10_readWorths : ByteArray := prog_12_method_35_code
def yX10_readWorths : MethodName := ⟨RX10, "readWorths", "()V"⟩
abbrev cX10_endsText : ByteArray := prog_12_method_36_code
def yX10_endsText : MethodName := ⟨RX10, "endsText", "(I)I"⟩
abbrev cX10_worths : ByteArray := prog_12_method_37_code
def yX10_worths : MethodName := ⟨RX10, "worths", "()I"⟩
abbrev cX10_readPoint : ByteArray := prog_12_method_38_code
def yX10_readPoint : MethodName := ⟨RX10, "readPoint", "()V"⟩
abbrev cX10_areApart : ByteArray := prog_12_method_39_code
def yX10_areApart : MethodName := ⟨RX10, "areApart", "(JJJJ)Z"⟩
abbrev cX10_readSpan : ByteArray := prog_12_method_40_code
def yX10_readSpan : MethodName := ⟨RX10, "readSpan", "(I)V"⟩
abbrev cX10_adds : ByteArray := prog_12_method_41_code
def yX10_adds : MethodName := ⟨RX10, "adds", "(IJJJJ)V"⟩
abbrev cX10_undivided : ByteArray := prog_12_method_42_code
def yX10_undivided : MethodName := ⟨RX10, "undivided", "()V"⟩
abbrev cX10_readShare : ByteArray := prog_12_method_43_code
def yX10_readShare : MethodName := ⟨RX10, "readShare", "()V"⟩
abbrev cX10_unites : ByteArray := prog_12_method_44_code
def yX10_unites : MethodName := ⟨RX10, "unites", "(J)V"⟩
abbrev cX10_divides : ByteArray := prog_12_method_45_code
def yX10_divides : MethodName := ⟨RX10, "divides", "()I"⟩
abbrev cX10_ordered : ByteArray := prog_12_method_46_code
def yX10_ordered : MethodName := ⟨RX10, "ordered", "(I)I"⟩
abbrev cX10_happens : ByteArray := prog_12_method_47_code
def yX10_happens : MethodName := ⟨RX10, "happens", "(IIJJJJ)V"⟩
abbrev cX10_marksPoint : ByteArray := prog_12_method_48_code
def yX10_marksPoint : MethodName := ⟨RX10, "marksPoint", "(IJJJJZ)V"⟩
abbrev cX10_takes : ByteArray := prog_12_method_49_code
def yX10_takes : MethodName := ⟨RX10, "takes", "(IJJJJ)V"⟩
abbrev cX10_ends : ByteArray := prog_12_method_50_code
def yX10_ends : MethodName := ⟨RX10, "ends", "()J"⟩
abbrev cX10_chooses : ByteArray := prog_12_method_51_code
def yX10_chooses : MethodName := ⟨RX10, "chooses", "()V"⟩
abbrev cX10_lastOf : ByteArray := prog_12_method_52_code
def yX10_lastOf : MethodName := ⟨RX10, "lastOf", "(I)I"⟩
abbrev cX10_knife : ByteArray := prog_12_method_53_code
def yX10_knife : MethodName := ⟨RX10, "knife", "()V"⟩
abbrev cX10_looks : ByteArray := prog_12_method_54_code
def yX10_looks : MethodName := ⟨RX10, "looks", "(IIJJI)V"⟩
abbrev cX10_diminish : ByteArray := prog_12_method_55_code
def yX10_diminish : MethodName := ⟨RX10, "diminish", "()V"⟩
abbrev cX10_lays : ByteArray := prog_12_method_56_code
def yX10_lays : MethodName := ⟨RX10, "lays", "(IJJJJ)V"⟩
abbrev cX10_countOf : ByteArray := prog_12_method_57_code
def yX10_countOf : MethodName := ⟨RX10, "countOf", "(I)I"⟩
abbrev cX10_leastOf : ByteArray := prog_12_method_58_code
def yX10_leastOf : MethodName := ⟨RX10, "leastOf", "(I)I"⟩
abbrev cX10_parts : ByteArray := prog_12_method_59_code
def yX10_parts : MethodName := ⟨RX10, "parts", "(IJJJJ)V"⟩
abbrev cX10_halves : ByteArray := prog_12_method_60_code
def yX10_halves : MethodName := ⟨RX10, "halves", "()V"⟩
abbrev cX10_pieces : ByteArray := prog_12_method_61_code
def yX10_pieces : MethodName := ⟨RX10, "pieces", "(IJJJJ)V"⟩
abbrev cX10_worthOfPiece : ByteArray := prog_12_method_62_code
def yX10_worthOfPiece : MethodName := ⟨RX10, "worthOfPiece", "(II)V"⟩
abbrev cX10_mostFor : ByteArray := prog_12_method_63_code
def yX10_mostFor : MethodName := ⟨RX10, "mostFor", "(II)I"⟩
abbrev cX10_takesPiece : ByteArray := prog_12_method_64_code
def yX10_takesPiece : MethodName := ⟨RX10, "takesPiece", "(II)V"⟩
abbrev cX10_thirds : ByteArray := prog_12_method_65_code
def yX10_thirds : MethodName := ⟨RX10, "thirds", "(IJJJJ)V"⟩
abbrev cX10_trims : ByteArray := prog_12_method_66_code
def yX10_trims : MethodName := ⟨RX10, "trims", "()V"⟩
abbrev cX10_sharesTrimmings : ByteArray := prog_12_method_67_code
def yX10_sharesTrimmings : MethodName := ⟨RX10, "sharesTrimmings", "(IIIJJJJ)V"⟩
abbrev cX10_mayWay : ByteArray := prog_12_method_68_code
def yX10_mayWay : MethodName := ⟨RX10, "mayWay", "(II)I"⟩
abbrev cX10_goes : ByteArray := prog_12_method_69_code
def yX10_goes : MethodName := ⟨RX10, "goes", "(II)Z"⟩
abbrev cX10_shares : ByteArray := prog_12_method_70_code
def yX10_shares : MethodName := ⟨RX10, "shares", "(II)I"⟩
abbrev cX10_isDivided : ByteArray := prog_12_method_71_code
def yX10_isDivided : MethodName := ⟨RX10, "isDivided", "()Z"⟩
abbrev cX10_event : ByteArray := prog_12_method_72_code
def yX10_event : MethodName := ⟨RX10, "event", "(II)J"⟩
abbrev cX10_share : ByteArray := prog_12_method_73_code
def yX10_share : MethodName := ⟨RX10, "share", "(III)J"⟩
abbrev cX10_prints : ByteArray := prog_12_method_74_code
def yX10_prints : MethodName := ⟨RX10, "prints", "(I)V"⟩
abbrev cX10_printsNumber : ByteArray := prog_12_method_75_code
def yX10_printsNumber : MethodName := ⟨RX10, "printsNumber", "(J)V"⟩
abbrev cX10_printsPoint : ByteArray := prog_12_method_76_code
def yX10_printsPoint : MethodName := ⟨RX10, "printsPoint", "(I)V"⟩
abbrev cX10_prints_ : ByteArray := prog_12_method_77_code
def yX10_prints_ : MethodName := ⟨RX10, "prints", "()I"⟩
abbrev cX10_paper : ByteArray := prog_12_method_78_code
def yX10_paper : MethodName := ⟨RX10, "paper", "(I)I"⟩
abbrev cX10_scaled : ByteArray := prog_12_method_79_code
def yX10_scaled : MethodName := ⟨RX10, "scaled", "(III)J"⟩
abbrev cX10_worthOfShare : ByteArray := prog_12_method_80_code
def yX10_worthOfShare : MethodName := ⟨RX10, "worthOfShare", "(III)J"⟩
abbrev cX10_gets : ByteArray := prog_12_method_81_code
def yX10_gets : MethodName := ⟨RX10, "gets", "(IIII)J"⟩
abbrev cX10_envies : ByteArray := prog_12_method_82_code
def yX10_envies : MethodName := ⟨RX10, "envies", "(II)I"⟩
abbrev cX10_fair : ByteArray := prog_12_method_83_code
def yX10_fair : MethodName := ⟨RX10, "fair", "(I)I"⟩
abbrev cX10_byFigures : ByteArray := prog_12_method_84_code
def yX10_byFigures : MethodName := ⟨RX10, "byFigures", "(I)J"⟩
abbrev cX10_exchange : ByteArray := prog_12_method_85_code
def yX10_exchange : MethodName := ⟨RX10, "exchange", "()I"⟩
abbrev cX10_cuts : ByteArray := prog_12_method_86_code
def yX10_cuts : MethodName := ⟨RX10, "cuts", "()I"⟩
abbrev cX10_off : ByteArray := prog_12_method_87_code
def yX10_off : MethodName := ⟨RX10, "off", "(III)J"⟩
abbrev cX10_wouldBring : ByteArray := prog_12_method_88_code
def yX10_wouldBring : MethodName := ⟨RX10, "wouldBring", "(III)Z"⟩
abbrev cX10_would : ByteArray := prog_12_method_89_code
def yX10_would : MethodName := ⟨RX10, "would", "(IIII)J"⟩
abbrev cX10_tellsMore : ByteArray := prog_12_method_90_code
def yX10_tellsMore : MethodName := ⟨RX10, "tellsMore", "(III)V"⟩
abbrev cX10_mayLie : ByteArray := prog_12_method_91_code
def yX10_mayLie : MethodName := ⟨RX10, "mayLie", "(III)Z"⟩
abbrev cX10_lie : ByteArray := prog_12_method_92_code
def yX10_lie : MethodName := ⟨RX10, "lie", "(IIII)J"⟩
abbrev cX10_best : ByteArray := prog_12_method_93_code
def yX10_best : MethodName := ⟨RX10, "best", "(II)I"⟩
abbrev cX10_isList : ByteArray := prog_12_method_94_code
def yX10_isList : MethodName := ⟨RX10, "isList", "(I)Z"⟩
abbrev cX10_list : ByteArray := prog_12_method_95_code
def yX10_list : MethodName := ⟨RX10, "list", "(II)I"⟩
abbrev cX10_set : ByteArray := prog_12_method_96_code
def yX10_set : MethodName := ⟨RX10, "set", "(III)I"⟩
abbrev cX10_get : ByteArray := prog_12_method_97_code
def yX10_get : MethodName := ⟨RX10, "get", "(II)J"⟩
abbrev cX10_mayRow : ByteArray := prog_12_method_98_code
def yX10_mayRow : MethodName := ⟨RX10, "mayRow", "(III)I"⟩
abbrev cX10_into : ByteArray := prog_12_method_99_code
def yX10_into : MethodName := ⟨RX10, "into", "(III)I"⟩
abbrev cX10_from : ByteArray := prog_12_method_100_code
def yX10_from : MethodName := ⟨RX10, "from", "(III)I"⟩
abbrev cX10_image : ByteArray := prog_12_method_101_code
def yX10_image : MethodName := ⟨RX10, "image", "()I"⟩
abbrev cX10_back : ByteArray := prog_12_method_102_code
def yX10_back : MethodName := ⟨RX10, "back", "()I"⟩
abbrev cX10_count : ByteArray := prog_12_method_103_code
def yX10_count : MethodName := ⟨RX10, "count", "(I)I"⟩
def RJ6 : String := "java/lang/Integer"
def TJ6 : u_T := fun k => match k with
  | _ => ("", "", "", false)
def tyJ6 : Nat → FieldType := fun k => match k with
  | _ => .int
abbrev wsJ60 : List Cond := u_ws RJ6 TJ6 0
theorem nmJ6 : ∀ a, a < 0 → ∀ b, b < 0 → a ≠ b → (TJ6 a).2.1 ≠ (TJ6 b).2.1 := by decide +kernel
theorem tyJ6_ok : ∀ k, k < 0 → parseFieldDescriptor (TJ6 k).2.2.1 = some (tyJ6 k) := by decide +kernel
abbrev cJ6_bitCount_0f7a4 : ByteArray := prog_13_method_49_code
def yJ6_bitCount_0f7a4 : MethodName := ⟨RJ6, "bitCount", "(I)I"⟩
def RJ9 : String := "java/lang/Math"
def TJ9 : u_T := fun k => match k with
  | _ => ("", "", "", false)
def tyJ9 : Nat → FieldType := fun k => match k with
  | _ => .int
abbrev wsJ90 : List Cond := u_ws RJ9 TJ9 0
theorem nmJ9 : ∀ a, a < 0 → ∀ b, b < 0 → a ≠ b → (TJ9 a).2.1 ≠ (TJ9 b).2.1 := by decide +kernel
theorem tyJ9_ok : ∀ k, k < 0 → parseFieldDescriptor (TJ9 k).2.2.1 = some (tyJ9 k) := by decide +kernel
abbrev cJ9_abs_067f4 : ByteArray := prog_14_method_61_code
def yJ9_abs_067f4 : MethodName := ⟨RJ9, "abs", "(J)J"⟩
abbrev cJ9_max_7cf53 : ByteArray := prog_14_method_65_code
def yJ9_max_7cf53 : MethodName := ⟨RJ9, "max", "(II)I"⟩
abbrev cJ9_max_f86c9 : ByteArray := prog_14_method_66_code
def yJ9_max_f86c9 : MethodName := ⟨RJ9, "max", "(JJ)J"⟩
abbrev cJ9_min_f86c9 : ByteArray := prog_14_method_70_code
def yJ9_min_f86c9 : MethodName := ⟨RJ9, "min", "(JJ)J"⟩
def RL : String := "KnifeDeskLaw"
abbrev cL_law : ByteArray := code
def yL_law : MethodName := ⟨RL, "law", "([I)Z"⟩
def cT : Nat → u_T := fun ci => match ci with
  | 0 => TX0
  | 1 => TX1
  | 2 => TX2
  | 3 => TX3
  | 4 => TX4
  | 5 => TX5
  | 6 => TX6
  | 7 => TX7
  | 8 => TX8
  | 9 => TX9
  | _ => TX10
def cR : Nat → String := fun ci => match ci with
  | 0 => RX0
  | 1 => RX1
  | 2 => RX2
  | 3 => RX3
  | 4 => RX4
  | 5 => RX5
  | 6 => RX6
  | 7 => RX7
  | 8 => RX8
  | 9 => RX9
  | _ => RX10
def cN : Nat → Nat := fun ci => match ci with
  | 0 => 4
  | 1 => 10
  | 2 => 3
  | 3 => 2
  | 4 => 2
  | 5 => 13
  | 6 => 2
  | 7 => 2
  | 8 => 5
  | 9 => 14
  | _ => 28
def cty : Nat → Nat → FieldType := fun ci => match ci with
  | 0 => tyX0
  | 1 => tyX1
  | 2 => tyX2
  | 3 => tyX3
  | 4 => tyX4
  | 5 => tyX5
  | 6 => tyX6
  | 7 => tyX7
  | 8 => tyX8
  | 9 => tyX9
  | _ => tyX10
def clsL : List vw_C := [(RX0, TX0, 4), (RX1, TX1, 10), (RX2, TX2, 3), (RX3, TX3, 2), (RX4, TX4, 2), (RX5, TX5, 13), (RX6, TX6, 2), (RX7, TX7, 2), (RX8, TX8, 5), (RX9, TX9, 14), (RX10, TX10, 28)]
theorem clsL_at (ci : Nat) (h : ci < 11) : clsL[ci]? = some (cR ci, cT ci, cN ci) := by
  rcases (show ci = 0 ∨ ci = 1 ∨ ci = 2 ∨ ci = 3 ∨ ci = 4 ∨ ci = 5 ∨ ci = 6 ∨ ci = 7 ∨ ci = 8 ∨ ci = 9 ∨ ci = 10 by omega) with rfl | rfl | rfl | rfl | rfl | rfl | rfl | rfl | rfl | rfl | rfl <;> rfl
theorem cnm_ok (ci : Nat) (h : ci < 11) : ∀ a, a < cN ci → ∀ b, b < cN ci → a ≠ b → (cT ci a).2.1 ≠ (cT ci b).2.1 := by
  rcases (show ci = 0 ∨ ci = 1 ∨ ci = 2 ∨ ci = 3 ∨ ci = 4 ∨ ci = 5 ∨ ci = 6 ∨ ci = 7 ∨ ci = 8 ∨ ci = 9 ∨ ci = 10 by omega) with rfl | rfl | rfl | rfl | rfl | rfl | rfl | rfl | rfl | rfl | rfl
  · exact nmX0
  · exact nmX1
  · exact nmX2
  · exact nmX3
  · exact nmX4
  · exact nmX5
  · exact nmX6
  · exact nmX7
  · exact nmX8
  · exact nmX9
  · exact nmX10
theorem cty_ok (ci : Nat) (h : ci < 11) : ∀ k, k < cN ci → parseFieldDescriptor (cT ci k).2.2.1 = some (cty ci k) := by
  rcases (show ci = 0 ∨ ci = 1 ∨ ci = 2 ∨ ci = 3 ∨ ci = 4 ∨ ci = 5 ∨ ci = 6 ∨ ci = 7 ∨ ci = 8 ∨ ci = 9 ∨ ci = 10 by omega) with rfl | rfl | rfl | rfl | rfl | rfl | rfl | rfl | rfl | rfl | rfl
  · exact tyX0_ok
  · exact tyX1_ok
  · exact tyX2_ok
  · exact tyX3_ok
  · exact tyX4_ok
  · exact tyX5_ok
  · exact tyX6_ok
  · exact tyX7_ok
  · exact tyX8_ok
  · exact tyX9_ok
  · exact tyX10_ok
/-- a method: its name, its code, its locals, its answer's type -/
abbrev MI : Type := MethodName × ByteArray × Nat × Option FieldType
def mJ6_bitCount_0f7a4 : MI := (yJ6_bitCount_0f7a4, cJ6_bitCount_0f7a4, 1, (Option.some Jvm.ClassFile.FieldType.int))
def mJ9_abs_067f4 : MI := (yJ9_abs_067f4, cJ9_abs_067f4, 2, (Option.some Jvm.ClassFile.FieldType.long))
def mJ9_max_7cf53 : MI := (yJ9_max_7cf53, cJ9_max_7cf53, 2, (Option.some Jvm.ClassFile.FieldType.int))
def mJ9_max_f86c9 : MI := (yJ9_max_f86c9, cJ9_max_f86c9, 4, (Option.some Jvm.ClassFile.FieldType.long))
def mJ9_min_f86c9 : MI := (yJ9_min_f86c9, cJ9_min_f86c9, 4, (Option.some Jvm.ClassFile.FieldType.long))
def mX0_between : MI := (yX0_between, cX0_between, 6, (Option.some Jvm.ClassFile.FieldType.long))
def mX0_copy : MI := (yX0_copy, cX0_copy, 4, (Option.none : Option Jvm.ClassFile.FieldType))
def mX0_excess : MI := (yX0_excess, cX0_excess, 6, (Option.some Jvm.ClassFile.FieldType.long))
def mX0_halfForBoth : MI := (yX0_halfForBoth, cX0_halfForBoth, 23, (Option.some Jvm.ClassFile.FieldType.boolean))
def mX0_hasAgent : MI := (yX0_hasAgent, cX0_hasAgent, 2, (Option.some Jvm.ClassFile.FieldType.boolean))
def mX0_hasNoZero : MI := (yX0_hasNoZero, cX0_hasNoZero, 3, (Option.some Jvm.ClassFile.FieldType.boolean))
def mX0_hasStrip : MI := (yX0_hasStrip, cX0_hasStrip, 2, (Option.some Jvm.ClassFile.FieldType.boolean))
def mX0_init : MI := (yX0_init, cX0_init, 1, (Option.none : Option Jvm.ClassFile.FieldType))
def mX0_lay : MI := (yX0_lay, cX0_lay, 5, (Option.none : Option Jvm.ClassFile.FieldType))
def mX0_moveTold : MI := (yX0_moveTold, cX0_moveTold, 5, (Option.some Jvm.ClassFile.FieldType.boolean))
def mX0_reach : MI := (yX0_reach, cX0_reach, 20, (Option.some Jvm.ClassFile.FieldType.boolean))
def mX0_row : MI := (yX0_row, cX0_row, 3, (Option.some (Jvm.ClassFile.FieldType.array Jvm.ClassFile.FieldType.int)))
def mX0_total : MI := (yX0_total, cX0_total, 4, (Option.some Jvm.ClassFile.FieldType.int))
def mX0_upTo : MI := (yX0_upTo, cX0_upTo, 13, (Option.some Jvm.ClassFile.FieldType.long))
def mX10_adds : MI := (yX10_adds, cX10_adds, 11, (Option.none : Option Jvm.ClassFile.FieldType))
def mX10_agentHere : MI := (yX10_agentHere, cX10_agentHere, 3, (Option.some Jvm.ClassFile.FieldType.int))
def mX10_agents : MI := (yX10_agents, cX10_agents, 1, (Option.some Jvm.ClassFile.FieldType.int))
def mX10_aheadOf : MI := (yX10_aheadOf, cX10_aheadOf, 11, (Option.some Jvm.ClassFile.FieldType.long))
def mX10_allOf : MI := (yX10_allOf, cX10_allOf, 3, (Option.some Jvm.ClassFile.FieldType.long))
def mX10_areApart : MI := (yX10_areApart, cX10_areApart, 14, (Option.some Jvm.ClassFile.FieldType.boolean))
def mX10_back : MI := (yX10_back, cX10_back, 1, (Option.some Jvm.ClassFile.FieldType.int))
def mX10_badAt : MI := (yX10_badAt, cX10_badAt, 2, (Option.none : Option Jvm.ClassFile.FieldType))
def mX10_becomes : MI := (yX10_becomes, cX10_becomes, 7, (Option.none : Option Jvm.ClassFile.FieldType))
def mX10_begin : MI := (yX10_begin, cX10_begin, 4, (Option.some Jvm.ClassFile.FieldType.int))
def mX10_best : MI := (yX10_best, cX10_best, 10, (Option.some Jvm.ClassFile.FieldType.int))
def mX10_byFigures : MI := (yX10_byFigures, cX10_byFigures, 8, (Option.some Jvm.ClassFile.FieldType.long))
def mX10_chooses : MI := (yX10_chooses, cX10_chooses, 12, (Option.none : Option Jvm.ClassFile.FieldType))
def mX10_copies : MI := (yX10_copies, cX10_copies, 3, (Option.none : Option Jvm.ClassFile.FieldType))
def mX10_count : MI := (yX10_count, cX10_count, 2, (Option.some Jvm.ClassFile.FieldType.int))
def mX10_countOf : MI := (yX10_countOf, cX10_countOf, 3, (Option.some Jvm.ClassFile.FieldType.int))
def mX10_cuts : MI := (yX10_cuts, cX10_cuts, 11, (Option.some Jvm.ClassFile.FieldType.int))
def mX10_diminish : MI := (yX10_diminish, cX10_diminish, 10, (Option.none : Option Jvm.ClassFile.FieldType))
def mX10_divides : MI := (yX10_divides, cX10_divides, 5, (Option.some Jvm.ClassFile.FieldType.int))
def mX10_divisor : MI := (yX10_divisor, cX10_divisor, 10, (Option.some Jvm.ClassFile.FieldType.long))
def mX10_ends : MI := (yX10_ends, cX10_ends, 1, (Option.some Jvm.ClassFile.FieldType.long))
def mX10_endsText : MI := (yX10_endsText, cX10_endsText, 2, (Option.some Jvm.ClassFile.FieldType.int))
def mX10_envies : MI := (yX10_envies, cX10_envies, 7, (Option.some Jvm.ClassFile.FieldType.int))
def mX10_event : MI := (yX10_event, cX10_event, 3, (Option.some Jvm.ClassFile.FieldType.long))
def mX10_exact : MI := (yX10_exact, cX10_exact, 28, (Option.some Jvm.ClassFile.FieldType.long))
def mX10_exchange : MI := (yX10_exchange, cX10_exchange, 8, (Option.some Jvm.ClassFile.FieldType.int))
def mX10_fair : MI := (yX10_fair, cX10_fair, 4, (Option.some Jvm.ClassFile.FieldType.int))
def mX10_feed : MI := (yX10_feed, cX10_feed, 2, (Option.some Jvm.ClassFile.FieldType.int))
def mX10_fresh : MI := (yX10_fresh, cX10_fresh, 4, (Option.none : Option Jvm.ClassFile.FieldType))
def mX10_from : MI := (yX10_from, cX10_from, 6, (Option.some Jvm.ClassFile.FieldType.int))
def mX10_get : MI := (yX10_get, cX10_get, 3, (Option.some Jvm.ClassFile.FieldType.long))
def mX10_gets : MI := (yX10_gets, cX10_gets, 5, (Option.some Jvm.ClassFile.FieldType.long))
def mX10_goes : MI := (yX10_goes, cX10_goes, 3, (Option.some Jvm.ClassFile.FieldType.boolean))
def mX10_goesOn : MI := (yX10_goesOn, cX10_goesOn, 3, (Option.some Jvm.ClassFile.FieldType.boolean))
def mX10_halves : MI := (yX10_halves, cX10_halves, 10, (Option.none : Option Jvm.ClassFile.FieldType))
def mX10_happens : MI := (yX10_happens, cX10_happens, 12, (Option.none : Option Jvm.ClassFile.FieldType))
def mX10_here : MI := (yX10_here, cX10_here, 1, (Option.some Jvm.ClassFile.FieldType.int))
def mX10_honest : MI := (yX10_honest, cX10_honest, 4, (Option.some Jvm.ClassFile.FieldType.int))
def mX10_image : MI := (yX10_image, cX10_image, 1, (Option.some Jvm.ClassFile.FieldType.int))
def mX10_in : MI := (yX10_in, cX10_in, 6, (Option.some Jvm.ClassFile.FieldType.boolean))
def mX10_init : MI := (yX10_init, cX10_init, 1, (Option.none : Option Jvm.ClassFile.FieldType))
def mX10_into : MI := (yX10_into, cX10_into, 6, (Option.some Jvm.ClassFile.FieldType.int))
def mX10_isAgent : MI := (yX10_isAgent, cX10_isAgent, 2, (Option.some Jvm.ClassFile.FieldType.boolean))
def mX10_isDivided : MI := (yX10_isDivided, cX10_isDivided, 1, (Option.some Jvm.ClassFile.FieldType.boolean))
def mX10_isFigure : MI := (yX10_isFigure, cX10_isFigure, 1, (Option.some Jvm.ClassFile.FieldType.boolean))
def mX10_isLess : MI := (yX10_isLess, cX10_isLess, 8, (Option.some Jvm.ClassFile.FieldType.boolean))
def mX10_isList : MI := (yX10_isList, cX10_isList, 1, (Option.some Jvm.ClassFile.FieldType.boolean))
def mX10_isStrip : MI := (yX10_isStrip, cX10_isStrip, 2, (Option.some Jvm.ClassFile.FieldType.boolean))
def mX10_knife : MI := (yX10_knife, cX10_knife, 10, (Option.none : Option Jvm.ClassFile.FieldType))
def mX10_lastOf : MI := (yX10_lastOf, cX10_lastOf, 4, (Option.some Jvm.ClassFile.FieldType.int))
def mX10_lays : MI := (yX10_lays, cX10_lays, 10, (Option.none : Option Jvm.ClassFile.FieldType))
def mX10_leastOf : MI := (yX10_leastOf, cX10_leastOf, 6, (Option.some Jvm.ClassFile.FieldType.int))
def mX10_lie : MI := (yX10_lie, cX10_lie, 14, (Option.some Jvm.ClassFile.FieldType.long))
def mX10_list : MI := (yX10_list, cX10_list, 4, (Option.some Jvm.ClassFile.FieldType.int))
def mX10_looks : MI := (yX10_looks, cX10_looks, 12, (Option.none : Option Jvm.ClassFile.FieldType))
def mX10_mark : MI := (yX10_mark, cX10_mark, 7, (Option.some Jvm.ClassFile.FieldType.long))
def mX10_marks : MI := (yX10_marks, cX10_marks, 19, (Option.some Jvm.ClassFile.FieldType.boolean))
def mX10_marksPoint : MI := (yX10_marksPoint, cX10_marksPoint, 11, (Option.none : Option Jvm.ClassFile.FieldType))
def mX10_mayLie : MI := (yX10_mayLie, cX10_mayLie, 4, (Option.some Jvm.ClassFile.FieldType.boolean))
def mX10_mayRow : MI := (yX10_mayRow, cX10_mayRow, 4, (Option.some Jvm.ClassFile.FieldType.int))
def mX10_mayWay : MI := (yX10_mayWay, cX10_mayWay, 3, (Option.some Jvm.ClassFile.FieldType.int))
def mX10_mostFor : MI := (yX10_mostFor, cX10_mostFor, 9, (Option.some Jvm.ClassFile.FieldType.int))
def mX10_number : MI := (yX10_number, cX10_number, 4, (Option.some Jvm.ClassFile.FieldType.int))
def mX10_off : MI := (yX10_off, cX10_off, 7, (Option.some Jvm.ClassFile.FieldType.long))
def mX10_ordered : MI := (yX10_ordered, cX10_ordered, 2, (Option.some Jvm.ClassFile.FieldType.int))
def mX10_pairOf : MI := (yX10_pairOf, cX10_pairOf, 10, (Option.some Jvm.ClassFile.FieldType.long))
def mX10_paper : MI := (yX10_paper, cX10_paper, 2, (Option.some Jvm.ClassFile.FieldType.int))
def mX10_partOf : MI := (yX10_partOf, cX10_partOf, 2, (Option.some Jvm.ClassFile.FieldType.long))
def mX10_parts : MI := (yX10_parts, cX10_parts, 14, (Option.none : Option Jvm.ClassFile.FieldType))
def mX10_pieces : MI := (yX10_pieces, cX10_pieces, 10, (Option.none : Option Jvm.ClassFile.FieldType))
def mX10_prints : MI := (yX10_prints, cX10_prints, 2, (Option.none : Option Jvm.ClassFile.FieldType))
def mX10_printsNumber : MI := (yX10_printsNumber, cX10_printsNumber, 6, (Option.none : Option Jvm.ClassFile.FieldType))
def mX10_printsPoint : MI := (yX10_printsPoint, cX10_printsPoint, 2, (Option.none : Option Jvm.ClassFile.FieldType))
def mX10_prints_ : MI := (yX10_prints_, cX10_prints_, 4, (Option.some Jvm.ClassFile.FieldType.int))
def mX10_readPoint : MI := (yX10_readPoint, cX10_readPoint, 7, (Option.none : Option Jvm.ClassFile.FieldType))
def mX10_readShare : MI := (yX10_readShare, cX10_readShare, 3, (Option.none : Option Jvm.ClassFile.FieldType))
def mX10_readSpan : MI := (yX10_readSpan, cX10_readSpan, 9, (Option.none : Option Jvm.ClassFile.FieldType))
def mX10_readWorths : MI := (yX10_readWorths, cX10_readWorths, 6, (Option.none : Option Jvm.ClassFile.FieldType))
def mX10_scaled : MI := (yX10_scaled, cX10_scaled, 4, (Option.some Jvm.ClassFile.FieldType.long))
def mX10_set : MI := (yX10_set, cX10_set, 4, (Option.some Jvm.ClassFile.FieldType.int))
def mX10_share : MI := (yX10_share, cX10_share, 4, (Option.some Jvm.ClassFile.FieldType.long))
def mX10_shares : MI := (yX10_shares, cX10_shares, 4, (Option.some Jvm.ClassFile.FieldType.int))
def mX10_sharesTrimmings : MI := (yX10_sharesTrimmings, cX10_sharesTrimmings, 14, (Option.none : Option Jvm.ClassFile.FieldType))
def mX10_span : MI := (yX10_span, cX10_span, 8, (Option.some Jvm.ClassFile.FieldType.long))
def mX10_strip : MI := (yX10_strip, cX10_strip, 4, (Option.some Jvm.ClassFile.FieldType.int))
def mX10_strips : MI := (yX10_strips, cX10_strips, 1, (Option.some Jvm.ClassFile.FieldType.int))
def mX10_takes : MI := (yX10_takes, cX10_takes, 10, (Option.none : Option Jvm.ClassFile.FieldType))
def mX10_takesPiece : MI := (yX10_takesPiece, cX10_takesPiece, 3, (Option.none : Option Jvm.ClassFile.FieldType))
def mX10_tells : MI := (yX10_tells, cX10_tells, 5, (Option.some Jvm.ClassFile.FieldType.int))
def mX10_tellsMore : MI := (yX10_tellsMore, cX10_tellsMore, 4, (Option.none : Option Jvm.ClassFile.FieldType))
def mX10_thirds : MI := (yX10_thirds, cX10_thirds, 18, (Option.none : Option Jvm.ClassFile.FieldType))
def mX10_trims : MI := (yX10_trims, cX10_trims, 18, (Option.none : Option Jvm.ClassFile.FieldType))
def mX10_undivided : MI := (yX10_undivided, cX10_undivided, 2, (Option.none : Option Jvm.ClassFile.FieldType))
def mX10_unites : MI := (yX10_unites, cX10_unites, 5, (Option.none : Option Jvm.ClassFile.FieldType))
def mX10_wants : MI := (yX10_wants, cX10_wants, 2, (Option.none : Option Jvm.ClassFile.FieldType))
def mX10_worth : MI := (yX10_worth, cX10_worth, 5, (Option.some Jvm.ClassFile.FieldType.int))
def mX10_worthBetween : MI := (yX10_worthBetween, cX10_worthBetween, 13, (Option.none : Option Jvm.ClassFile.FieldType))
def mX10_worthOf : MI := (yX10_worthOf, cX10_worthOf, 4, (Option.some Jvm.ClassFile.FieldType.long))
def mX10_worthOfPiece : MI := (yX10_worthOfPiece, cX10_worthOfPiece, 3, (Option.none : Option Jvm.ClassFile.FieldType))
def mX10_worthOfShare : MI := (yX10_worthOfShare, cX10_worthOfShare, 7, (Option.some Jvm.ClassFile.FieldType.long))
def mX10_worths : MI := (yX10_worths, cX10_worths, 2, (Option.some Jvm.ClassFile.FieldType.int))
def mX10_would : MI := (yX10_would, cX10_would, 6, (Option.some Jvm.ClassFile.FieldType.long))
def mX10_wouldBring : MI := (yX10_wouldBring, cX10_wouldBring, 5, (Option.some Jvm.ClassFile.FieldType.boolean))
def mX1_bestExchange : MI := (yX1_bestExchange, cX1_bestExchange, 10, (Option.some Jvm.ClassFile.FieldType.int))
def mX1_clear : MI := (yX1_clear, cX1_clear, 2, (Option.none : Option Jvm.ClassFile.FieldType))
def mX1_copy : MI := (yX1_copy, cX1_copy, 4, (Option.none : Option Jvm.ClassFile.FieldType))
def mX1_countCuts : MI := (yX1_countCuts, cX1_countCuts, 6, (Option.some Jvm.ClassFile.FieldType.int))
def mX1_figures : MI := (yX1_figures, cX1_figures, 6, (Option.some Jvm.ClassFile.FieldType.int))
def mX1_give : MI := (yX1_give, cX1_give, 4, (Option.none : Option Jvm.ClassFile.FieldType))
def mX1_held : MI := (yX1_held, cX1_held, 3, (Option.some (Jvm.ClassFile.FieldType.object "KnifeDesk$Span")))
def mX1_holds : MI := (yX1_holds, cX1_holds, 8, (Option.some Jvm.ClassFile.FieldType.long))
def mX1_init : MI := (yX1_init, cX1_init, 2, (Option.none : Option Jvm.ClassFile.FieldType))
def mX1_leftOver : MI := (yX1_leftOver, cX1_leftOver, 6, (Option.some Jvm.ClassFile.FieldType.long))
def mX1_note : MI := (yX1_note, cX1_note, 6, (Option.none : Option Jvm.ClassFile.FieldType))
def mX1_overlaps : MI := (yX1_overlaps, cX1_overlaps, 5, (Option.some Jvm.ClassFile.FieldType.boolean))
def mX1_see : MI := (yX1_see, cX1_see, 5, (Option.some Jvm.ClassFile.FieldType.int))
def mX1_takesIn : MI := (yX1_takesIn, cX1_takesIn, 4, (Option.some Jvm.ClassFile.FieldType.boolean))
def mX1_together : MI := (yX1_together, cX1_together, 9, (Option.some Jvm.ClassFile.FieldType.long))
def mX1_trimmedOff : MI := (yX1_trimmedOff, cX1_trimmedOff, 6, (Option.some Jvm.ClassFile.FieldType.long))
def mX2_copy : MI := (yX2_copy, cX2_copy, 2, (Option.none : Option Jvm.ClassFile.FieldType))
def mX2_init : MI := (yX2_init, cX2_init, 1, (Option.none : Option Jvm.ClassFile.FieldType))
def mX2_part : MI := (yX2_part, cX2_part, 2, (Option.some Jvm.ClassFile.FieldType.long))
def mX3_copy : MI := (yX3_copy, cX3_copy, 2, (Option.none : Option Jvm.ClassFile.FieldType))
def mX3_init : MI := (yX3_init, cX3_init, 1, (Option.none : Option Jvm.ClassFile.FieldType))
def mX3_isAt : MI := (yX3_isAt, cX3_isAt, 5, (Option.some Jvm.ClassFile.FieldType.boolean))
def mX3_isBelow : MI := (yX3_isBelow, cX3_isBelow, 6, (Option.some Jvm.ClassFile.FieldType.boolean))
def mX3_part : MI := (yX3_part, cX3_part, 2, (Option.some Jvm.ClassFile.FieldType.long))
def mX3_parts : MI := (yX3_parts, cX3_parts, 3, (Option.some Jvm.ClassFile.FieldType.long))
def mX3_put : MI := (yX3_put, cX3_put, 12, (Option.none : Option Jvm.ClassFile.FieldType))
def mX4_hasPlace : MI := (yX4_hasPlace, cX4_hasPlace, 3, (Option.some Jvm.ClassFile.FieldType.boolean))
def mX4_init : MI := (yX4_init, cX4_init, 2, (Option.none : Option Jvm.ClassFile.FieldType))
def mX4_isLaid : MI := (yX4_isLaid, cX4_isLaid, 2, (Option.some Jvm.ClassFile.FieldType.boolean))
def mX4_isRow : MI := (yX4_isRow, cX4_isRow, 2, (Option.some Jvm.ClassFile.FieldType.boolean))
def mX4_lay : MI := (yX4_lay, cX4_lay, 4, (Option.none : Option Jvm.ClassFile.FieldType))
def mX5_agentAt : MI := (yX5_agentAt, cX5_agentAt, 3, (Option.some Jvm.ClassFile.FieldType.int))
def mX5_cutAndChoose : MI := (yX5_cutAndChoose, cX5_cutAndChoose, 5, (Option.some Jvm.ClassFile.FieldType.boolean))
def mX5_cutAndTrim : MI := (yX5_cutAndTrim, cX5_cutAndTrim, 4, (Option.some Jvm.ClassFile.FieldType.boolean))
def mX5_cutInThree : MI := (yX5_cutInThree, cX5_cutInThree, 3, (Option.some Jvm.ClassFile.FieldType.boolean))
def mX5_diminish : MI := (yX5_diminish, cX5_diminish, 6, (Option.some Jvm.ClassFile.FieldType.boolean))
def mX5_everyone : MI := (yX5_everyone, cX5_everyone, 1, (Option.some Jvm.ClassFile.FieldType.int))
def mX5_firstOf : MI := (yX5_firstOf, cX5_firstOf, 3, (Option.some Jvm.ClassFile.FieldType.int))
def mX5_halve : MI := (yX5_halve, cX5_halve, 5, (Option.some Jvm.ClassFile.FieldType.boolean))
def mX5_has : MI := (yX5_has, cX5_has, 3, (Option.some Jvm.ClassFile.FieldType.long))
def mX5_init : MI := (yX5_init, cX5_init, 4, (Option.none : Option Jvm.ClassFile.FieldType))
def mX5_isIn : MI := (yX5_isIn, cX5_isIn, 2, (Option.some Jvm.ClassFile.FieldType.boolean))
def mX5_leastMark : MI := (yX5_leastMark, cX5_leastMark, 4, (Option.some Jvm.ClassFile.FieldType.int))
def mX5_markAll : MI := (yX5_markAll, cX5_markAll, 7, (Option.some Jvm.ClassFile.FieldType.boolean))
def mX5_mostOf : MI := (yX5_mostOf, cX5_mostOf, 5, (Option.some Jvm.ClassFile.FieldType.int))
def mX5_moveKnife : MI := (yX5_moveKnife, cX5_moveKnife, 4, (Option.some Jvm.ClassFile.FieldType.boolean))
def mX5_othersBehind : MI := (yX5_othersBehind, cX5_othersBehind, 7, (Option.some Jvm.ClassFile.FieldType.int))
def mX5_partTrimmings : MI := (yX5_partTrimmings, cX5_partTrimmings, 4, (Option.some Jvm.ClassFile.FieldType.boolean))
def mX5_putMark : MI := (yX5_putMark, cX5_putMark, 10, (Option.some Jvm.ClassFile.FieldType.boolean))
def mX5_run : MI := (yX5_run, cX5_run, 3, (Option.some Jvm.ClassFile.FieldType.boolean))
def mX5_takePiece : MI := (yX5_takePiece, cX5_takePiece, 5, (Option.none : Option Jvm.ClassFile.FieldType))
def mX5_takePieces : MI := (yX5_takePieces, cX5_takePieces, 3, (Option.some Jvm.ClassFile.FieldType.boolean))
def mX5_takeRestTo : MI := (yX5_takeRestTo, cX5_takeRestTo, 4, (Option.none : Option Jvm.ClassFile.FieldType))
def mX5_trimOrPass : MI := (yX5_trimOrPass, cX5_trimOrPass, 7, (Option.some Jvm.ClassFile.FieldType.int))
def mX6_add : MI := (yX6_add, cX6_add, 2, (Option.none : Option Jvm.ClassFile.FieldType))
def mX6_addEvent : MI := (yX6_addEvent, cX6_addEvent, 2, (Option.none : Option Jvm.ClassFile.FieldType))
def mX6_addNumber : MI := (yX6_addNumber, cX6_addNumber, 6, (Option.none : Option Jvm.ClassFile.FieldType))
def mX6_addPoint : MI := (yX6_addPoint, cX6_addPoint, 2, (Option.none : Option Jvm.ClassFile.FieldType))
def mX6_init : MI := (yX6_init, cX6_init, 1, (Option.none : Option Jvm.ClassFile.FieldType))
def mX6_letterOf : MI := (yX6_letterOf, cX6_letterOf, 1, (Option.some Jvm.ClassFile.FieldType.int))
def mX7_copy : MI := (yX7_copy, cX7_copy, 2, (Option.none : Option Jvm.ClassFile.FieldType))
def mX7_init : MI := (yX7_init, cX7_init, 1, (Option.none : Option Jvm.ClassFile.FieldType))
def mX7_isEmpty : MI := (yX7_isEmpty, cX7_isEmpty, 1, (Option.some Jvm.ClassFile.FieldType.boolean))
def mX7_part : MI := (yX7_part, cX7_part, 2, (Option.some Jvm.ClassFile.FieldType.long))
def mX7_put : MI := (yX7_put, cX7_put, 3, (Option.none : Option Jvm.ClassFile.FieldType))
def mX8_add : MI := (yX8_add, cX8_add, 2, (Option.some Jvm.ClassFile.FieldType.boolean))
def mX8_figure : MI := (yX8_figure, cX8_figure, 1, (Option.some Jvm.ClassFile.FieldType.int))
def mX8_init : MI := (yX8_init, cX8_init, 1, (Option.none : Option Jvm.ClassFile.FieldType))
def mX8_read : MI := (yX8_read, cX8_read, 6, (Option.some Jvm.ClassFile.FieldType.int))
def mX8_readNumber : MI := (yX8_readNumber, cX8_readNumber, 4, (Option.some Jvm.ClassFile.FieldType.int))
def mX8_readPoint : MI := (yX8_readPoint, cX8_readPoint, 7, (Option.some Jvm.ClassFile.FieldType.boolean))
def mX8_readShare : MI := (yX8_readShare, cX8_readShare, 4, (Option.some Jvm.ClassFile.FieldType.boolean))
def mX8_readSpan : MI := (yX8_readSpan, cX8_readSpan, 6, (Option.some Jvm.ClassFile.FieldType.boolean))
def mX8_readWorths : MI := (yX8_readWorths, cX8_readWorths, 6, (Option.some Jvm.ClassFile.FieldType.boolean))
def mX8_skips : MI := (yX8_skips, cX8_skips, 2, (Option.some Jvm.ClassFile.FieldType.boolean))
def mX9_back : MI := (yX9_back, cX9_back, 1, (Option.some Jvm.ClassFile.FieldType.int))
def mX9_begin : MI := (yX9_begin, cX9_begin, 4, (Option.some Jvm.ClassFile.FieldType.int))
def mX9_best : MI := (yX9_best, cX9_best, 5, (Option.some Jvm.ClassFile.FieldType.int))
def mX9_bringsMore : MI := (yX9_bringsMore, cX9_bringsMore, 2, (Option.some Jvm.ClassFile.FieldType.boolean))
def mX9_count : MI := (yX9_count, cX9_count, 2, (Option.some Jvm.ClassFile.FieldType.int))
def mX9_cuts : MI := (yX9_cuts, cX9_cuts, 1, (Option.some Jvm.ClassFile.FieldType.int))
def mX9_divides : MI := (yX9_divides, cX9_divides, 2, (Option.some Jvm.ClassFile.FieldType.int))
def mX9_envies : MI := (yX9_envies, cX9_envies, 8, (Option.some Jvm.ClassFile.FieldType.int))
def mX9_event : MI := (yX9_event, cX9_event, 3, (Option.some Jvm.ClassFile.FieldType.long))
def mX9_exact : MI := (yX9_exact, cX9_exact, 4, (Option.some Jvm.ClassFile.FieldType.long))
def mX9_exchange : MI := (yX9_exchange, cX9_exchange, 1, (Option.some Jvm.ClassFile.FieldType.int))
def mX9_fair : MI := (yX9_fair, cX9_fair, 5, (Option.some Jvm.ClassFile.FieldType.int))
def mX9_feed : MI := (yX9_feed, cX9_feed, 2, (Option.some Jvm.ClassFile.FieldType.int))
def mX9_from : MI := (yX9_from, cX9_from, 6, (Option.some Jvm.ClassFile.FieldType.int))
def mX9_get : MI := (yX9_get, cX9_get, 3, (Option.some Jvm.ClassFile.FieldType.long))
def mX9_gets : MI := (yX9_gets, cX9_gets, 5, (Option.some Jvm.ClassFile.FieldType.long))
def mX9_honest : MI := (yX9_honest, cX9_honest, 4, (Option.some Jvm.ClassFile.FieldType.int))
def mX9_image : MI := (yX9_image, cX9_image, 1, (Option.some Jvm.ClassFile.FieldType.int))
def mX9_init : MI := (yX9_init, cX9_init, 1, (Option.none : Option Jvm.ClassFile.FieldType))
def mX9_into : MI := (yX9_into, cX9_into, 6, (Option.some Jvm.ClassFile.FieldType.int))
def mX9_isAllowed : MI := (yX9_isAllowed, cX9_isAllowed, 2, (Option.some Jvm.ClassFile.FieldType.boolean))
def mX9_isFlag : MI := (yX9_isFlag, cX9_isFlag, 1, (Option.some Jvm.ClassFile.FieldType.boolean))
def mX9_isPoint : MI := (yX9_isPoint, cX9_isPoint, 3, (Option.some Jvm.ClassFile.FieldType.boolean))
def mX9_isWay : MI := (yX9_isWay, cX9_isWay, 1, (Option.some Jvm.ClassFile.FieldType.boolean))
def mX9_isWorth : MI := (yX9_isWorth, cX9_isWorth, 1, (Option.some Jvm.ClassFile.FieldType.boolean))
def mX9_lie : MI := (yX9_lie, cX9_lie, 8, (Option.some Jvm.ClassFile.FieldType.long))
def mX9_list : MI := (yX9_list, cX9_list, 3, (Option.some Jvm.ClassFile.FieldType.int))
def mX9_mark : MI := (yX9_mark, cX9_mark, 10, (Option.some Jvm.ClassFile.FieldType.long))
def mX9_off : MI := (yX9_off, cX9_off, 7, (Option.some Jvm.ClassFile.FieldType.long))
def mX9_paper : MI := (yX9_paper, cX9_paper, 2, (Option.some Jvm.ClassFile.FieldType.int))
def mX9_prints : MI := (yX9_prints, cX9_prints, 2, (Option.some Jvm.ClassFile.FieldType.int))
def mX9_refusal : MI := (yX9_refusal, cX9_refusal, 4, (Option.some Jvm.ClassFile.FieldType.int))
def mX9_set : MI := (yX9_set, cX9_set, 4, (Option.some Jvm.ClassFile.FieldType.int))
def mX9_share : MI := (yX9_share, cX9_share, 4, (Option.some Jvm.ClassFile.FieldType.long))
def mX9_shares : MI := (yX9_shares, cX9_shares, 3, (Option.some Jvm.ClassFile.FieldType.int))
def mX9_span : MI := (yX9_span, cX9_span, 15, (Option.some Jvm.ClassFile.FieldType.long))
def mX9_strip : MI := (yX9_strip, cX9_strip, 4, (Option.some Jvm.ClassFile.FieldType.int))
def mX9_tell : MI := (yX9_tell, cX9_tell, 6, (Option.some Jvm.ClassFile.FieldType.long))
def mX9_tells : MI := (yX9_tells, cX9_tells, 5, (Option.some Jvm.ClassFile.FieldType.int))
def mX9_worth : MI := (yX9_worth, cX9_worth, 5, (Option.some Jvm.ClassFile.FieldType.int))
def mX9_worths : MI := (yX9_worths, cX9_worths, 2, (Option.some Jvm.ClassFile.FieldType.int))
def mX9_would : MI := (yX9_would, cX9_would, 5, (Option.some Jvm.ClassFile.FieldType.long))
def mL_law : MI := (x, code, 4, ret)
def GW : List Cond := lw_tbl.filter goodWord
theorem gw (i : Nat) {w : Cond} (h : lw_tbl[i]? = some w) (hg : goodWord w = true) : w ∈ GW := List.mem_filter.mpr ⟨List.mem_of_getElem? h, hg⟩
def FL (own : String) (idx ci k : Nat) : Prop := Cond.fieldLink own idx (cT ci k).1 (cT ci k).2.1 (cT ci k).2.2.1 ∈ GW
theorem wF_X9_12 : FL RX9 12 9 0 := gw 396 (by decide +kernel) (by decide +kernel)
theorem wF_X9_18 : FL RX9 18 9 1 := gw 397 (by decide +kernel) (by decide +kernel)
theorem wF_X9_21 : FL RX9 21 9 2 := gw 398 (by decide +kernel) (by decide +kernel)
theorem wF_X9_27 : FL RX9 27 9 3 := gw 399 (by decide +kernel) (by decide +kernel)
theorem wF_X9_31 : FL RX9 31 9 4 := gw 400 (by decide +kernel) (by decide +kernel)
theorem wF_X9_34 : FL RX9 34 9 5 := gw 401 (by decide +kernel) (by decide +kernel)
theorem wF_X9_42 : FL RX9 42 9 7 := gw 403 (by decide +kernel) (by decide +kernel)
theorem wF_X9_49 : FL RX9 49 9 8 := gw 404 (by decide +kernel) (by decide +kernel)
theorem wF_X9_56 : FL RX9 56 9 9 := gw 405 (by decide +kernel) (by decide +kernel)
theorem wF_X9_63 : FL RX9 63 9 10 := gw 406 (by decide +kernel) (by decide +kernel)
theorem wF_X9_70 : FL RX9 70 9 11 := gw 407 (by decide +kernel) (by decide +kernel)
theorem wF_X9_74 : FL RX9 74 9 12 := gw 408 (by decide +kernel) (by decide +kernel)
theorem wF_X9_80 : FL RX9 80 9 13 := gw 409 (by decide +kernel) (by decide +kernel)
theorem wF_X9_84 : FL RX9 84 0 1 := gw 141 (by decide +kernel) (by decide +kernel)
theorem wF_X9_105 : FL RX9 105 0 2 := gw 145 (by decide +kernel) (by decide +kernel)
theorem wF_X9_109 : FL RX9 109 0 3 := gw 149 (by decide +kernel) (by decide +kernel)
theorem wF_X9_112 : FL RX9 112 0 0 := gw 138 (by decide +kernel) (by decide +kernel)
theorem wF_X9_144 : FL RX9 144 3 0 := gw 182 (by decide +kernel) (by decide +kernel)
theorem wF_X9_148 : FL RX9 148 3 1 := gw 186 (by decide +kernel) (by decide +kernel)
theorem wF_X9_162 : FL RX9 162 8 0 := gw 345 (by decide +kernel) (by decide +kernel)
theorem wF_X9_173 : FL RX9 173 1 1 := gw 248 (by decide +kernel) (by decide +kernel)
theorem wF_X9_177 : FL RX9 177 1 0 := gw 246 (by decide +kernel) (by decide +kernel)
theorem wF_X9_183 : FL RX9 183 6 0 := gw 369 (by decide +kernel) (by decide +kernel)
theorem wF_X9_184 : FL RX9 184 1 3 := gw 253 (by decide +kernel) (by decide +kernel)
theorem wF_X9_187 : FL RX9 187 1 4 := gw 255 (by decide +kernel) (by decide +kernel)
theorem wF_X9_195 : FL RX9 195 6 1 := gw 371 (by decide +kernel) (by decide +kernel)
theorem wF_X9_211 : FL RX9 211 1 5 := gw 258 (by decide +kernel) (by decide +kernel)
theorem wF_X9_223 : FL RX9 223 1 2 := gw 251 (by decide +kernel) (by decide +kernel)
theorem wF_X9_263 : FL RX9 263 4 0 := gw 385 (by decide +kernel) (by decide +kernel)
theorem wF_X9_270 : FL RX9 270 9 6 := gw 402 (by decide +kernel) (by decide +kernel)
theorem wF_X0_11 : FL RX0 11 0 2 := gw 144 (by decide +kernel) (by decide +kernel)
theorem wF_X0_16 : FL RX0 16 0 3 := gw 148 (by decide +kernel) (by decide +kernel)
theorem wF_X0_23 : FL RX0 23 0 0 := gw 136 (by decide +kernel) (by decide +kernel)
theorem wF_X0_27 : FL RX0 27 0 1 := gw 140 (by decide +kernel) (by decide +kernel)
theorem wF_X0_65 : FL RX0 65 7 1 := gw 217 (by decide +kernel) (by decide +kernel)
theorem wF_X0_85 : FL RX0 85 7 0 := gw 211 (by decide +kernel) (by decide +kernel)
theorem wF_X1_13 : FL RX1 13 1 4 := gw 254 (by decide +kernel) (by decide +kernel)
theorem wF_X1_17 : FL RX1 17 1 5 := gw 256 (by decide +kernel) (by decide +kernel)
theorem wF_X1_23 : FL RX1 23 1 6 := gw 259 (by decide +kernel) (by decide +kernel)
theorem wF_X1_29 : FL RX1 29 1 7 := gw 260 (by decide +kernel) (by decide +kernel)
theorem wF_X1_33 : FL RX1 33 1 8 := gw 261 (by decide +kernel) (by decide +kernel)
theorem wF_X1_38 : FL RX1 38 1 9 := gw 262 (by decide +kernel) (by decide +kernel)
theorem wF_X1_47 : FL RX1 47 1 0 := gw 244 (by decide +kernel) (by decide +kernel)
theorem wF_X1_51 : FL RX1 51 1 1 := gw 247 (by decide +kernel) (by decide +kernel)
theorem wF_X1_54 : FL RX1 54 1 2 := gw 249 (by decide +kernel) (by decide +kernel)
theorem wF_X1_58 : FL RX1 58 1 3 := gw 252 (by decide +kernel) (by decide +kernel)
theorem wF_X1_73 : FL RX1 73 3 1 := gw 185 (by decide +kernel) (by decide +kernel)
theorem wF_X1_82 : FL RX1 82 3 0 := gw 181 (by decide +kernel) (by decide +kernel)
theorem wF_X1_85 : FL RX1 85 2 0 := gw 225 (by decide +kernel) (by decide +kernel)
theorem wF_X1_88 : FL RX1 88 2 1 := gw 228 (by decide +kernel) (by decide +kernel)
theorem wF_X1_91 : FL RX1 91 2 2 := gw 231 (by decide +kernel) (by decide +kernel)
theorem wF_X1_102 : FL RX1 102 7 0 := gw 210 (by decide +kernel) (by decide +kernel)
theorem wF_X1_105 : FL RX1 105 7 1 := gw 216 (by decide +kernel) (by decide +kernel)
theorem wF_X1_137 : FL RX1 137 0 1 := gw 143 (by decide +kernel) (by decide +kernel)
theorem wF_X1_140 : FL RX1 140 0 2 := gw 147 (by decide +kernel) (by decide +kernel)
theorem wF_X2_10 : FL RX2 10 2 2 := gw 229 (by decide +kernel) (by decide +kernel)
theorem wF_X2_16 : FL RX2 16 2 0 := gw 223 (by decide +kernel) (by decide +kernel)
theorem wF_X2_20 : FL RX2 20 2 1 := gw 226 (by decide +kernel) (by decide +kernel)
theorem wF_X3_7 : FL RX3 7 3 1 := gw 183 (by decide +kernel) (by decide +kernel)
theorem wF_X3_19 : FL RX3 19 3 0 := gw 179 (by decide +kernel) (by decide +kernel)
theorem wF_X4_11 : FL RX4 11 4 0 := gw 384 (by decide +kernel) (by decide +kernel)
theorem wF_X4_14 : FL RX4 14 4 1 := gw 386 (by decide +kernel) (by decide +kernel)
theorem wF_X5_12 : FL RX5 12 5 3 := gw 297 (by decide +kernel) (by decide +kernel)
theorem wF_X5_18 : FL RX5 18 5 4 := gw 298 (by decide +kernel) (by decide +kernel)
theorem wF_X5_23 : FL RX5 23 5 5 := gw 299 (by decide +kernel) (by decide +kernel)
theorem wF_X5_27 : FL RX5 27 5 6 := gw 300 (by decide +kernel) (by decide +kernel)
theorem wF_X5_30 : FL RX5 30 5 7 := gw 301 (by decide +kernel) (by decide +kernel)
theorem wF_X5_34 : FL RX5 34 5 8 := gw 302 (by decide +kernel) (by decide +kernel)
theorem wF_X5_38 : FL RX5 38 5 9 := gw 303 (by decide +kernel) (by decide +kernel)
theorem wF_X5_41 : FL RX5 41 5 0 := gw 294 (by decide +kernel) (by decide +kernel)
theorem wF_X5_45 : FL RX5 45 5 1 := gw 295 (by decide +kernel) (by decide +kernel)
theorem wF_X5_50 : FL RX5 50 5 2 := gw 296 (by decide +kernel) (by decide +kernel)
theorem wF_X5_59 : FL RX5 59 7 1 := gw 213 (by decide +kernel) (by decide +kernel)
theorem wF_X5_63 : FL RX5 63 0 0 := gw 137 (by decide +kernel) (by decide +kernel)
theorem wF_X5_80 : FL RX5 80 1 0 := gw 245 (by decide +kernel) (by decide +kernel)
theorem wF_X5_102 : FL RX5 102 0 1 := gw 142 (by decide +kernel) (by decide +kernel)
theorem wF_X5_109 : FL RX5 109 0 3 := gw 151 (by decide +kernel) (by decide +kernel)
theorem wF_X5_113 : FL RX5 113 7 0 := gw 208 (by decide +kernel) (by decide +kernel)
theorem wF_X5_116 : FL RX5 116 1 2 := gw 250 (by decide +kernel) (by decide +kernel)
theorem wF_X5_213 : FL RX5 213 5 10 := gw 304 (by decide +kernel) (by decide +kernel)
theorem wF_X5_216 : FL RX5 216 5 11 := gw 305 (by decide +kernel) (by decide +kernel)
theorem wF_X5_219 : FL RX5 219 5 12 := gw 306 (by decide +kernel) (by decide +kernel)
theorem wF_X6_11 : FL RX6 11 6 1 := gw 370 (by decide +kernel) (by decide +kernel)
theorem wF_X6_15 : FL RX6 15 6 0 := gw 368 (by decide +kernel) (by decide +kernel)
theorem wF_X6_27 : FL RX6 27 3 0 := gw 180 (by decide +kernel) (by decide +kernel)
theorem wF_X6_37 : FL RX6 37 3 1 := gw 184 (by decide +kernel) (by decide +kernel)
theorem wF_X6_40 : FL RX6 40 2 0 := gw 224 (by decide +kernel) (by decide +kernel)
theorem wF_X6_49 : FL RX6 49 2 1 := gw 227 (by decide +kernel) (by decide +kernel)
theorem wF_X6_52 : FL RX6 52 2 2 := gw 230 (by decide +kernel) (by decide +kernel)
theorem wF_X6_56 : FL RX6 56 7 0 := gw 207 (by decide +kernel) (by decide +kernel)
theorem wF_X6_66 : FL RX6 66 7 1 := gw 214 (by decide +kernel) (by decide +kernel)
theorem wF_X7_10 : FL RX7 10 7 0 := gw 206 (by decide +kernel) (by decide +kernel)
theorem wF_X7_16 : FL RX7 16 7 1 := gw 212 (by decide +kernel) (by decide +kernel)
theorem wF_X8_11 : FL RX8 11 8 2 := gw 347 (by decide +kernel) (by decide +kernel)
theorem wF_X8_18 : FL RX8 18 8 3 := gw 348 (by decide +kernel) (by decide +kernel)
theorem wF_X8_25 : FL RX8 25 8 4 := gw 349 (by decide +kernel) (by decide +kernel)
theorem wF_X8_29 : FL RX8 29 8 0 := gw 344 (by decide +kernel) (by decide +kernel)
theorem wF_X8_33 : FL RX8 33 8 1 := gw 346 (by decide +kernel) (by decide +kernel)
theorem wF_X8_57 : FL RX8 57 0 0 := gw 139 (by decide +kernel) (by decide +kernel)
theorem wF_X8_60 : FL RX8 60 0 3 := gw 150 (by decide +kernel) (by decide +kernel)
theorem wF_X8_64 : FL RX8 64 0 2 := gw 146 (by decide +kernel) (by decide +kernel)
theorem wF_X8_67 : FL RX8 67 1 5 := gw 257 (by decide +kernel) (by decide +kernel)
theorem wF_X8_77 : FL RX8 77 7 0 := gw 209 (by decide +kernel) (by decide +kernel)
theorem wF_X8_84 : FL RX8 84 7 1 := gw 215 (by decide +kernel) (by decide +kernel)
theorem wF_X10_9 : FL RX10 9 10 0 := gw 978 (by decide +kernel) (by decide +kernel)
theorem wF_X10_15 : FL RX10 15 10 1 := gw 979 (by decide +kernel) (by decide +kernel)
theorem wF_X10_18 : FL RX10 18 10 2 := gw 980 (by decide +kernel) (by decide +kernel)
theorem wF_X10_21 : FL RX10 21 10 6 := gw 984 (by decide +kernel) (by decide +kernel)
theorem wF_X10_25 : FL RX10 25 10 13 := gw 991 (by decide +kernel) (by decide +kernel)
theorem wF_X10_28 : FL RX10 28 10 14 := gw 992 (by decide +kernel) (by decide +kernel)
theorem wF_X10_31 : FL RX10 31 10 16 := gw 994 (by decide +kernel) (by decide +kernel)
theorem wF_X10_34 : FL RX10 34 10 17 := gw 995 (by decide +kernel) (by decide +kernel)
theorem wF_X10_37 : FL RX10 37 10 19 := gw 997 (by decide +kernel) (by decide +kernel)
theorem wF_X10_40 : FL RX10 40 10 20 := gw 998 (by decide +kernel) (by decide +kernel)
theorem wF_X10_43 : FL RX10 43 10 22 := gw 1000 (by decide +kernel) (by decide +kernel)
theorem wF_X10_46 : FL RX10 46 10 23 := gw 1001 (by decide +kernel) (by decide +kernel)
theorem wF_X10_49 : FL RX10 49 10 24 := gw 1002 (by decide +kernel) (by decide +kernel)
theorem wF_X10_52 : FL RX10 52 10 25 := gw 1003 (by decide +kernel) (by decide +kernel)
theorem wF_X10_55 : FL RX10 55 10 26 := gw 1004 (by decide +kernel) (by decide +kernel)
theorem wF_X10_58 : FL RX10 58 10 27 := gw 1005 (by decide +kernel) (by decide +kernel)
theorem wF_X10_99 : FL RX10 99 10 4 := gw 982 (by decide +kernel) (by decide +kernel)
theorem wF_X10_103 : FL RX10 103 10 5 := gw 983 (by decide +kernel) (by decide +kernel)
theorem wF_X10_150 : FL RX10 150 10 7 := gw 985 (by decide +kernel) (by decide +kernel)
theorem wF_X10_154 : FL RX10 154 10 8 := gw 986 (by decide +kernel) (by decide +kernel)
theorem wF_X10_157 : FL RX10 157 10 9 := gw 987 (by decide +kernel) (by decide +kernel)
theorem wF_X10_213 : FL RX10 213 10 10 := gw 988 (by decide +kernel) (by decide +kernel)
theorem wF_X10_219 : FL RX10 219 10 11 := gw 989 (by decide +kernel) (by decide +kernel)
theorem wF_X10_236 : FL RX10 236 10 12 := gw 990 (by decide +kernel) (by decide +kernel)
theorem wF_X10_259 : FL RX10 259 10 15 := gw 993 (by decide +kernel) (by decide +kernel)
theorem wF_X10_266 : FL RX10 266 10 18 := gw 996 (by decide +kernel) (by decide +kernel)
theorem wF_X10_328 : FL RX10 328 10 21 := gw 999 (by decide +kernel) (by decide +kernel)
theorem wF_X10_369 : FL RX10 369 10 3 := gw 981 (by decide +kernel) (by decide +kernel)
theorem wU_X0 : ∀ w ∈ u_ws (cR 0) (cT 0) (cN 0), w ∈ GW := by
  intro w hw
  obtain ⟨k, hk, rfl⟩ := List.mem_map.mp hw
  have hk := List.mem_range.mp hk
  rcases (show k = 0 ∨ k = 1 ∨ k = 2 ∨ k = 3 by simp only [cN] at hk; omega) with rfl | rfl | rfl | rfl
  · exact gw 152 (by decide +kernel) (by decide +kernel)
  · exact gw 154 (by decide +kernel) (by decide +kernel)
  · exact gw 156 (by decide +kernel) (by decide +kernel)
  · exact gw 158 (by decide +kernel) (by decide +kernel)
theorem wU_X1 : ∀ w ∈ u_ws (cR 1) (cT 1) (cN 1), w ∈ GW := by
  intro w hw
  obtain ⟨k, hk, rfl⟩ := List.mem_map.mp hw
  have hk := List.mem_range.mp hk
  rcases (show k = 0 ∨ k = 1 ∨ k = 2 ∨ k = 3 ∨ k = 4 ∨ k = 5 ∨ k = 6 ∨ k = 7 ∨ k = 8 ∨ k = 9 by simp only [cN] at hk; omega) with rfl | rfl | rfl | rfl | rfl | rfl | rfl | rfl | rfl | rfl
  · exact gw 263 (by decide +kernel) (by decide +kernel)
  · exact gw 265 (by decide +kernel) (by decide +kernel)
  · exact gw 267 (by decide +kernel) (by decide +kernel)
  · exact gw 269 (by decide +kernel) (by decide +kernel)
  · exact gw 271 (by decide +kernel) (by decide +kernel)
  · exact gw 273 (by decide +kernel) (by decide +kernel)
  · exact gw 275 (by decide +kernel) (by decide +kernel)
  · exact gw 277 (by decide +kernel) (by decide +kernel)
  · exact gw 279 (by decide +kernel) (by decide +kernel)
  · exact gw 281 (by decide +kernel) (by decide +kernel)
theorem wU_X2 : ∀ w ∈ u_ws (cR 2) (cT 2) (cN 2), w ∈ GW := by
  intro w hw
  obtain ⟨k, hk, rfl⟩ := List.mem_map.mp hw
  have hk := List.mem_range.mp hk
  rcases (show k = 0 ∨ k = 1 ∨ k = 2 by simp only [cN] at hk; omega) with rfl | rfl | rfl
  · exact gw 232 (by decide +kernel) (by decide +kernel)
  · exact gw 234 (by decide +kernel) (by decide +kernel)
  · exact gw 236 (by decide +kernel) (by decide +kernel)
theorem wU_X3 : ∀ w ∈ u_ws (cR 3) (cT 3) (cN 3), w ∈ GW := by
  intro w hw
  obtain ⟨k, hk, rfl⟩ := List.mem_map.mp hw
  have hk := List.mem_range.mp hk
  rcases (show k = 0 ∨ k = 1 by simp only [cN] at hk; omega) with rfl | rfl
  · exact gw 187 (by decide +kernel) (by decide +kernel)
  · exact gw 189 (by decide +kernel) (by decide +kernel)
theorem wU_X4 : ∀ w ∈ u_ws (cR 4) (cT 4) (cN 4), w ∈ GW := by
  intro w hw
  obtain ⟨k, hk, rfl⟩ := List.mem_map.mp hw
  have hk := List.mem_range.mp hk
  rcases (show k = 0 ∨ k = 1 by simp only [cN] at hk; omega) with rfl | rfl
  · exact gw 387 (by decide +kernel) (by decide +kernel)
  · exact gw 389 (by decide +kernel) (by decide +kernel)
theorem wU_X5 : ∀ w ∈ u_ws (cR 5) (cT 5) (cN 5), w ∈ GW := by
  intro w hw
  obtain ⟨k, hk, rfl⟩ := List.mem_map.mp hw
  have hk := List.mem_range.mp hk
  rcases (show k = 0 ∨ k = 1 ∨ k = 2 ∨ k = 3 ∨ k = 4 ∨ k = 5 ∨ k = 6 ∨ k = 7 ∨ k = 8 ∨ k = 9 ∨ k = 10 ∨ k = 11 ∨ k = 12 by simp only [cN] at hk; omega) with rfl | rfl | rfl | rfl | rfl | rfl | rfl | rfl | rfl | rfl | rfl | rfl | rfl
  · exact gw 307 (by decide +kernel) (by decide +kernel)
  · exact gw 309 (by decide +kernel) (by decide +kernel)
  · exact gw 311 (by decide +kernel) (by decide +kernel)
  · exact gw 313 (by decide +kernel) (by decide +kernel)
  · exact gw 315 (by decide +kernel) (by decide +kernel)
  · exact gw 317 (by decide +kernel) (by decide +kernel)
  · exact gw 319 (by decide +kernel) (by decide +kernel)
  · exact gw 321 (by decide +kernel) (by decide +kernel)
  · exact gw 323 (by decide +kernel) (by decide +kernel)
  · exact gw 325 (by decide +kernel) (by decide +kernel)
  · exact gw 327 (by decide +kernel) (by decide +kernel)
  · exact gw 329 (by decide +kernel) (by decide +kernel)
  · exact gw 331 (by decide +kernel) (by decide +kernel)
theorem wU_X6 : ∀ w ∈ u_ws (cR 6) (cT 6) (cN 6), w ∈ GW := by
  intro w hw
  obtain ⟨k, hk, rfl⟩ := List.mem_map.mp hw
  have hk := List.mem_range.mp hk
  rcases (show k = 0 ∨ k = 1 by simp only [cN] at hk; omega) with rfl | rfl
  · exact gw 372 (by decide +kernel) (by decide +kernel)
  · exact gw 374 (by decide +kernel) (by decide +kernel)
theorem wU_X7 : ∀ w ∈ u_ws (cR 7) (cT 7) (cN 7), w ∈ GW := by
  intro w hw
  obtain ⟨k, hk, rfl⟩ := List.mem_map.mp hw
  have hk := List.mem_range.mp hk
  rcases (show k = 0 ∨ k = 1 by simp only [cN] at hk; omega) with rfl | rfl
  · exact gw 218 (by decide +kernel) (by decide +kernel)
  · exact gw 220 (by decide +kernel) (by decide +kernel)
theorem wU_X8 : ∀ w ∈ u_ws (cR 8) (cT 8) (cN 8), w ∈ GW := by
  intro w hw
  obtain ⟨k, hk, rfl⟩ := List.mem_map.mp hw
  have hk := List.mem_range.mp hk
  rcases (show k = 0 ∨ k = 1 ∨ k = 2 ∨ k = 3 ∨ k = 4 by simp only [cN] at hk; omega) with rfl | rfl | rfl | rfl | rfl
  · exact gw 350 (by decide +kernel) (by decide +kernel)
  · exact gw 352 (by decide +kernel) (by decide +kernel)
  · exact gw 354 (by decide +kernel) (by decide +kernel)
  · exact gw 356 (by decide +kernel) (by decide +kernel)
  · exact gw 358 (by decide +kernel) (by decide +kernel)
theorem wU_X9 : ∀ w ∈ u_ws (cR 9) (cT 9) (cN 9), w ∈ GW := by
  intro w hw
  obtain ⟨k, hk, rfl⟩ := List.mem_map.mp hw
  have hk := List.mem_range.mp hk
  rcases (show k = 0 ∨ k = 1 ∨ k = 2 ∨ k = 3 ∨ k = 4 ∨ k = 5 ∨ k = 6 ∨ k = 7 ∨ k = 8 ∨ k = 9 ∨ k = 10 ∨ k = 11 ∨ k = 12 ∨ k = 13 by simp only [cN] at hk; omega) with rfl | rfl | rfl | rfl | rfl | rfl | rfl | rfl | rfl | rfl | rfl | rfl | rfl | rfl
  · exact gw 410 (by decide +kernel) (by decide +kernel)
  · exact gw 412 (by decide +kernel) (by decide +kernel)
  · exact gw 414 (by decide +kernel) (by decide +kernel)
  · exact gw 416 (by decide +kernel) (by decide +kernel)
  · exact gw 418 (by decide +kernel) (by decide +kernel)
  · exact gw 420 (by decide +kernel) (by decide +kernel)
  · exact gw 422 (by decide +kernel) (by decide +kernel)
  · exact gw 424 (by decide +kernel) (by decide +kernel)
  · exact gw 426 (by decide +kernel) (by decide +kernel)
  · exact gw 428 (by decide +kernel) (by decide +kernel)
  · exact gw 430 (by decide +kernel) (by decide +kernel)
  · exact gw 432 (by decide +kernel) (by decide +kernel)
  · exact gw 434 (by decide +kernel) (by decide +kernel)
  · exact gw 436 (by decide +kernel) (by decide +kernel)
theorem wU_X10 : ∀ w ∈ u_ws (cR 10) (cT 10) (cN 10), w ∈ GW := by
  intro w hw
  obtain ⟨k, hk, rfl⟩ := List.mem_map.mp hw
  have hk := List.mem_range.mp hk
  rcases (show k = 0 ∨ k = 1 ∨ k = 2 ∨ k = 3 ∨ k = 4 ∨ k = 5 ∨ k = 6 ∨ k = 7 ∨ k = 8 ∨ k = 9 ∨ k = 10 ∨ k = 11 ∨ k = 12 ∨ k = 13 ∨ k = 14 ∨ k = 15 ∨ k = 16 ∨ k = 17 ∨ k = 18 ∨ k = 19 ∨ k = 20 ∨ k = 21 ∨ k = 22 ∨ k = 23 ∨ k = 24 ∨ k = 25 ∨ k = 26 ∨ k = 27 by simp only [cN] at hk; omega) with rfl | rfl | rfl | rfl | rfl | rfl | rfl | rfl | rfl | rfl | rfl | rfl | rfl | rfl | rfl | rfl | rfl | rfl | rfl | rfl | rfl | rfl | rfl | rfl | rfl | rfl | rfl | rfl
  · exact gw 1006 (by decide +kernel) (by decide +kernel)
  · exact gw 1008 (by decide +kernel) (by decide +kernel)
  · exact gw 1010 (by decide +kernel) (by decide +kernel)
  · exact gw 1012 (by decide +kernel) (by decide +kernel)
  · exact gw 1014 (by decide +kernel) (by decide +kernel)
  · exact gw 1016 (by decide +kernel) (by decide +kernel)
  · exact gw 1018 (by decide +kernel) (by decide +kernel)
  · exact gw 1020 (by decide +kernel) (by decide +kernel)
  · exact gw 1022 (by decide +kernel) (by decide +kernel)
  · exact gw 1024 (by decide +kernel) (by decide +kernel)
  · exact gw 1026 (by decide +kernel) (by decide +kernel)
  · exact gw 1028 (by decide +kernel) (by decide +kernel)
  · exact gw 1030 (by decide +kernel) (by decide +kernel)
  · exact gw 1032 (by decide +kernel) (by decide +kernel)
  · exact gw 1034 (by decide +kernel) (by decide +kernel)
  · exact gw 1036 (by decide +kernel) (by decide +kernel)
  · exact gw 1038 (by decide +kernel) (by decide +kernel)
  · exact gw 1040 (by decide +kernel) (by decide +kernel)
  · exact gw 1042 (by decide +kernel) (by decide +kernel)
  · exact gw 1044 (by decide +kernel) (by decide +kernel)
  · exact gw 1046 (by decide +kernel) (by decide +kernel)
  · exact gw 1048 (by decide +kernel) (by decide +kernel)
  · exact gw 1050 (by decide +kernel) (by decide +kernel)
  · exact gw 1052 (by decide +kernel) (by decide +kernel)
  · exact gw 1054 (by decide +kernel) (by decide +kernel)
  · exact gw 1056 (by decide +kernel) (by decide +kernel)
  · exact gw 1058 (by decide +kernel) (by decide +kernel)
  · exact gw 1060 (by decide +kernel) (by decide +kernel)
theorem wU (ci : Nat) (h : ci < 11) : ∀ w ∈ u_ws (cR ci) (cT ci) (cN ci), w ∈ GW := by
  rcases (show ci = 0 ∨ ci = 1 ∨ ci = 2 ∨ ci = 3 ∨ ci = 4 ∨ ci = 5 ∨ ci = 6 ∨ ci = 7 ∨ ci = 8 ∨ ci = 9 ∨ ci = 10 by omega) with rfl | rfl | rfl | rfl | rfl | rfl | rfl | rfl | rfl | rfl | rfl
  · exact wU_X0
  · exact wU_X1
  · exact wU_X2
  · exact wU_X3
  · exact wU_X4
  · exact wU_X5
  · exact wU_X6
  · exact wU_X7
  · exact wU_X8
  · exact wU_X9
  · exact wU_X10
theorem wZ_X9 : Cond.initialized RX9 ∈ GW := gw 103 (by decide +kernel) (by decide +kernel)
theorem wI_X9 : Cond.instantiable RX9 14 ∈ GW := gw 117 (by decide +kernel) (by decide +kernel)
theorem wZ_X0 : Cond.initialized RX0 ∈ GW := gw 104 (by decide +kernel) (by decide +kernel)
theorem wI_X0 : Cond.instantiable RX0 4 ∈ GW := gw 125 (by decide +kernel) (by decide +kernel)
theorem wZ_X1 : Cond.initialized RX1 ∈ GW := gw 105 (by decide +kernel) (by decide +kernel)
theorem wI_X1 : Cond.instantiable RX1 10 ∈ GW := gw 163 (by decide +kernel) (by decide +kernel)
theorem wZ_X2 : Cond.initialized RX2 ∈ GW := gw 107 (by decide +kernel) (by decide +kernel)
theorem wI_X2 : Cond.instantiable RX2 3 ∈ GW := gw 193 (by decide +kernel) (by decide +kernel)
theorem wZ_X3 : Cond.initialized RX3 ∈ GW := gw 106 (by decide +kernel) (by decide +kernel)
theorem wI_X3 : Cond.instantiable RX3 2 ∈ GW := gw 174 (by decide +kernel) (by decide +kernel)
theorem wZ_X4 : Cond.initialized RX4 ∈ GW := gw 112 (by decide +kernel) (by decide +kernel)
theorem wI_X4 : Cond.instantiable RX4 2 ∈ GW := gw 378 (by decide +kernel) (by decide +kernel)
theorem wZ_X5 : Cond.initialized RX5 ∈ GW := gw 109 (by decide +kernel) (by decide +kernel)
theorem wI_X5 : Cond.instantiable RX5 13 ∈ GW := gw 285 (by decide +kernel) (by decide +kernel)
theorem wZ_X6 : Cond.initialized RX6 ∈ GW := gw 111 (by decide +kernel) (by decide +kernel)
theorem wI_X6 : Cond.instantiable RX6 2 ∈ GW := gw 363 (by decide +kernel) (by decide +kernel)
theorem wZ_X7 : Cond.initialized RX7 ∈ GW := gw 108 (by decide +kernel) (by decide +kernel)
theorem wI_X7 : Cond.instantiable RX7 2 ∈ GW := gw 199 (by decide +kernel) (by decide +kernel)
theorem wZ_X8 : Cond.initialized RX8 ∈ GW := gw 110 (by decide +kernel) (by decide +kernel)
theorem wI_X8 : Cond.instantiable RX8 5 ∈ GW := gw 335 (by decide +kernel) (by decide +kernel)
theorem wZ_L : Cond.initialized RL ∈ GW := gw 102 (by decide +kernel) (by decide +kernel)
theorem wZ_X10 : Cond.initialized RX10 ∈ GW := gw 113 (by decide +kernel) (by decide +kernel)
theorem wI_X10 : Cond.instantiable RX10 28 ∈ GW := gw 969 (by decide +kernel) (by decide +kernel)
theorem wZ_J6 : Cond.initialized RJ6 ∈ GW := gw 115 (by decide +kernel) (by decide +kernel)
theorem wZ_J9 : Cond.initialized RJ9 ∈ GW := gw 114 (by decide +kernel) (by decide +kernel)
theorem wC_L_7 : Cond.classLink RL 7 RX9 ∈ GW := gw 116 (by decide +kernel) (by decide +kernel)
theorem wM_L_9 : Cond.methodLink RL 9 yX9_init ∈ GW := gw 118 (by decide +kernel) (by decide +kernel)
theorem wM_X9_3 : Cond.methodLink RX9 3 Lib.objectInit ∈ GW := gw 121 (by decide +kernel) (by decide +kernel)
theorem wC_X9_9 : Cond.classLink RX9 9 RX0 ∈ GW := gw 124 (by decide +kernel) (by decide +kernel)
theorem wM_X9_11 : Cond.methodLink RX9 11 yX0_init ∈ GW := gw 126 (by decide +kernel) (by decide +kernel)
theorem wM_X0_3 : Cond.methodLink RX0 3 Lib.objectInit ∈ GW := gw 129 (by decide +kernel) (by decide +kernel)
theorem wC_X0_9 : Cond.classLink RX0 9 "[[I" ∈ GW := gw 130 (by decide +kernel) (by decide +kernel)
theorem wM_X0_19 : Cond.methodLink RX0 19 yX0_lay ∈ GW := gw 132 (by decide +kernel) (by decide +kernel)
theorem wC_X9_24 : Cond.classLink RX9 24 RX1 ∈ GW := gw 162 (by decide +kernel) (by decide +kernel)
theorem wM_X9_26 : Cond.methodLink RX9 26 yX1_init ∈ GW := gw 164 (by decide +kernel) (by decide +kernel)
theorem wM_X1_3 : Cond.methodLink RX1 3 Lib.objectInit ∈ GW := gw 167 (by decide +kernel) (by decide +kernel)
theorem wC_X1_11 : Cond.classLink RX1 11 RX2 ∈ GW := gw 168 (by decide +kernel) (by decide +kernel)
theorem wC_X1_21 : Cond.classLink RX1 21 RX7 ∈ GW := gw 170 (by decide +kernel) (by decide +kernel)
theorem wC_X1_27 : Cond.classLink RX1 27 RX3 ∈ GW := gw 172 (by decide +kernel) (by decide +kernel)
theorem wM_X3_1 : Cond.methodLink RX3 1 Lib.objectInit ∈ GW := gw 178 (by decide +kernel) (by decide +kernel)
theorem wM_X2_1 : Cond.methodLink RX2 1 Lib.objectInit ∈ GW := gw 197 (by decide +kernel) (by decide +kernel)
theorem wC_X2_7 : Cond.classLink RX2 7 RX7 ∈ GW := gw 198 (by decide +kernel) (by decide +kernel)
theorem wM_X7_1 : Cond.methodLink RX7 1 Lib.objectInit ∈ GW := gw 203 (by decide +kernel) (by decide +kernel)
theorem wC_X7_7 : Cond.classLink RX7 7 RX3 ∈ GW := gw 204 (by decide +kernel) (by decide +kernel)
theorem wM_X1_44 : Cond.methodLink RX1 44 yX1_clear ∈ GW := gw 240 (by decide +kernel) (by decide +kernel)
theorem wC_X9_37 : Cond.classLink RX9 37 RX5 ∈ GW := gw 284 (by decide +kernel) (by decide +kernel)
theorem wM_X9_39 : Cond.methodLink RX9 39 yX5_init ∈ GW := gw 286 (by decide +kernel) (by decide +kernel)
theorem wM_X5_3 : Cond.methodLink RX5 3 Lib.objectInit ∈ GW := gw 289 (by decide +kernel) (by decide +kernel)
theorem wC_X5_9 : Cond.classLink RX5 9 RX7 ∈ GW := gw 290 (by decide +kernel) (by decide +kernel)
theorem wC_X5_21 : Cond.classLink RX5 21 RX3 ∈ GW := gw 292 (by decide +kernel) (by decide +kernel)
theorem wC_X9_46 : Cond.classLink RX9 46 RX8 ∈ GW := gw 334 (by decide +kernel) (by decide +kernel)
theorem wM_X8_3 : Cond.methodLink RX8 3 Lib.objectInit ∈ GW := gw 339 (by decide +kernel) (by decide +kernel)
theorem wC_X8_15 : Cond.classLink RX8 15 RX3 ∈ GW := gw 340 (by decide +kernel) (by decide +kernel)
theorem wC_X8_22 : Cond.classLink RX8 22 RX7 ∈ GW := gw 342 (by decide +kernel) (by decide +kernel)
theorem wC_X9_53 : Cond.classLink RX9 53 RX6 ∈ GW := gw 362 (by decide +kernel) (by decide +kernel)
theorem wM_X6_3 : Cond.methodLink RX6 3 Lib.objectInit ∈ GW := gw 367 (by decide +kernel) (by decide +kernel)
theorem wC_X9_60 : Cond.classLink RX9 60 RX4 ∈ GW := gw 377 (by decide +kernel) (by decide +kernel)
theorem wM_X9_62 : Cond.methodLink RX9 62 yX4_init ∈ GW := gw 379 (by decide +kernel) (by decide +kernel)
theorem wM_X4_1 : Cond.methodLink RX4 1 Lib.objectInit ∈ GW := gw 382 (by decide +kernel) (by decide +kernel)
theorem wC_X4_9 : Cond.classLink RX4 9 "[[I" ∈ GW := gw 383 (by decide +kernel) (by decide +kernel)
theorem wC_X9_67 : Cond.classLink RX9 67 RX3 ∈ GW := gw 392 (by decide +kernel) (by decide +kernel)
theorem wC_X9_77 : Cond.classLink RX9 77 RX7 ∈ GW := gw 394 (by decide +kernel) (by decide +kernel)
theorem wM_L_13 : Cond.methodLink RL 13 yX9_begin ∈ GW := gw 439 (by decide +kernel) (by decide +kernel)
theorem wM_X9_88 : Cond.methodLink RX9 88 yX0_lay ∈ GW := gw 443 (by decide +kernel) (by decide +kernel)
theorem wM_X9_92 : Cond.methodLink RX9 92 yX1_clear ∈ GW := gw 444 (by decide +kernel) (by decide +kernel)
theorem wM_L_18 : Cond.methodLink RL 18 yX9_worth ∈ GW := gw 445 (by decide +kernel) (by decide +kernel)
theorem wM_X9_95 : Cond.methodLink RX9 95 yX0_hasAgent ∈ GW := gw 449 (by decide +kernel) (by decide +kernel)
theorem wM_X9_99 : Cond.methodLink RX9 99 yX0_hasStrip ∈ GW := gw 453 (by decide +kernel) (by decide +kernel)
theorem wM_X9_102 : Cond.methodLink RX9 102 yX9_isWorth ∈ GW := gw 457 (by decide +kernel) (by decide +kernel)
theorem wM_L_23 : Cond.methodLink RL 23 yX9_tells ∈ GW := gw 460 (by decide +kernel) (by decide +kernel)
theorem wM_L_27 : Cond.methodLink RL 27 yX9_honest ∈ GW := gw 464 (by decide +kernel) (by decide +kernel)
theorem wM_L_32 : Cond.methodLink RL 32 yX9_strip ∈ GW := gw 468 (by decide +kernel) (by decide +kernel)
theorem wM_X9_115 : Cond.methodLink RX9 115 yX9_isFlag ∈ GW := gw 472 (by decide +kernel) (by decide +kernel)
theorem wM_X9_118 : Cond.methodLink RX9 118 yX0_row ∈ GW := gw 475 (by decide +kernel) (by decide +kernel)
theorem wM_L_36 : Cond.methodLink RL 36 yX9_span ∈ GW := gw 479 (by decide +kernel) (by decide +kernel)
theorem wM_X9_122 : Cond.methodLink RX9 122 yX9_isPoint ∈ GW := gw 483 (by decide +kernel) (by decide +kernel)
theorem wJ_X9_126 : Cond.constantLong RX9 126 (-9223372036854775808) ∈ GW := gw 487 (by decide +kernel) (by decide +kernel)
theorem wM_X9_128 : Cond.methodLink RX9 128 yX0_upTo ∈ GW := gw 488 (by decide +kernel) (by decide +kernel)
theorem wM_X0_30 : Cond.methodLink RX0 30 yJ9_min_f86c9 ∈ GW := gw 492 (by decide +kernel) (by decide +kernel)
theorem wM_X9_132 : Cond.methodLink RX9 132 yX9_tell ∈ GW := gw 495 (by decide +kernel) (by decide +kernel)
theorem wM_X9_241 : Cond.methodLink RX9 241 yX3_put ∈ GW := gw 499 (by decide +kernel) (by decide +kernel)
theorem wM_X3_13 : Cond.methodLink RX3 13 yJ9_max_f86c9 ∈ GW := gw 503 (by decide +kernel) (by decide +kernel)
theorem wM_X9_252 : Cond.methodLink RX9 252 yX3_part ∈ GW := gw 506 (by decide +kernel) (by decide +kernel)
theorem wM_L_41 : Cond.methodLink RL 41 yX9_mark ∈ GW := gw 510 (by decide +kernel) (by decide +kernel)
theorem wM_X9_136 : Cond.methodLink RX9 136 yX0_total ∈ GW := gw 514 (by decide +kernel) (by decide +kernel)
theorem wM_X9_140 : Cond.methodLink RX9 140 yX0_reach ∈ GW := gw 518 (by decide +kernel) (by decide +kernel)
theorem wM_X0_46 : Cond.methodLink RX0 46 yX3_put ∈ GW := gw 522 (by decide +kernel) (by decide +kernel)
theorem wM_X0_50 : Cond.methodLink RX0 50 yJ9_max_f86c9 ∈ GW := gw 523 (by decide +kernel) (by decide +kernel)
theorem wM_L_46 : Cond.methodLink RL 46 yX9_exact ∈ GW := gw 524 (by decide +kernel) (by decide +kernel)
theorem wM_X9_151 : Cond.methodLink RX9 151 yX0_halfForBoth ∈ GW := gw 528 (by decide +kernel) (by decide +kernel)
theorem wM_X0_61 : Cond.methodLink RX0 61 yX0_hasNoZero ∈ GW := gw 532 (by decide +kernel) (by decide +kernel)
theorem wJ_X0_55 : Cond.constantLong RX0 55 (5040) ∈ GW := gw 536 (by decide +kernel) (by decide +kernel)
theorem wM_X0_57 : Cond.methodLink RX0 57 yX0_total ∈ GW := gw 537 (by decide +kernel) (by decide +kernel)
theorem wJ_X0_53 : Cond.constantLong RX0 53 (2) ∈ GW := gw 538 (by decide +kernel) (by decide +kernel)
theorem wM_X0_71 : Cond.methodLink RX0 71 yX0_reach ∈ GW := gw 539 (by decide +kernel) (by decide +kernel)
theorem wM_X0_36 : Cond.methodLink RX0 36 yX3_parts ∈ GW := gw 540 (by decide +kernel) (by decide +kernel)
theorem wM_X0_75 : Cond.methodLink RX0 75 yX0_excess ∈ GW := gw 544 (by decide +kernel) (by decide +kernel)
theorem wM_X0_42 : Cond.methodLink RX0 42 yX0_upTo ∈ GW := gw 548 (by decide +kernel) (by decide +kernel)
theorem wM_X0_78 : Cond.methodLink RX0 78 yX0_hasStrip ∈ GW := gw 549 (by decide +kernel) (by decide +kernel)
theorem wM_X0_82 : Cond.methodLink RX0 82 yJ9_abs_067f4 ∈ GW := gw 550 (by decide +kernel) (by decide +kernel)
theorem wM_X9_155 : Cond.methodLink RX9 155 yX7_part ∈ GW := gw 553 (by decide +kernel) (by decide +kernel)
theorem wM_X7_31 : Cond.methodLink RX7 31 yX3_part ∈ GW := gw 557 (by decide +kernel) (by decide +kernel)
theorem wM_L_51 : Cond.methodLink RL 51 yX9_feed ∈ GW := gw 558 (by decide +kernel) (by decide +kernel)
theorem wM_X9_159 : Cond.methodLink RX9 159 yX8_add ∈ GW := gw 562 (by decide +kernel) (by decide +kernel)
theorem wM_L_55 : Cond.methodLink RL 55 yX9_worths ∈ GW := gw 566 (by decide +kernel) (by decide +kernel)
theorem wM_X9_165 : Cond.methodLink RX9 165 yX0_copy ∈ GW := gw 570 (by decide +kernel) (by decide +kernel)
theorem wM_X9_169 : Cond.methodLink RX9 169 yX8_read ∈ GW := gw 574 (by decide +kernel) (by decide +kernel)
theorem wM_X8_36 : Cond.methodLink RX8 36 yX8_readWorths ∈ GW := gw 578 (by decide +kernel) (by decide +kernel)
theorem wM_X8_44 : Cond.methodLink RX8 44 yX8_skips ∈ GW := gw 582 (by decide +kernel) (by decide +kernel)
theorem wM_X8_48 : Cond.methodLink RX8 48 yX8_figure ∈ GW := gw 586 (by decide +kernel) (by decide +kernel)
theorem wM_X8_52 : Cond.methodLink RX8 52 yX0_hasAgent ∈ GW := gw 590 (by decide +kernel) (by decide +kernel)
theorem wM_X8_40 : Cond.methodLink RX8 40 yX8_readShare ∈ GW := gw 591 (by decide +kernel) (by decide +kernel)
theorem wM_X8_73 : Cond.methodLink RX8 73 yX8_readSpan ∈ GW := gw 595 (by decide +kernel) (by decide +kernel)
theorem wM_X8_80 : Cond.methodLink RX8 80 yX8_readPoint ∈ GW := gw 599 (by decide +kernel) (by decide +kernel)
theorem wM_X8_102 : Cond.methodLink RX8 102 yX8_readNumber ∈ GW := gw 603 (by decide +kernel) (by decide +kernel)
theorem wM_X8_106 : Cond.methodLink RX8 106 yX3_put ∈ GW := gw 607 (by decide +kernel) (by decide +kernel)
theorem wM_X8_87 : Cond.methodLink RX8 87 yX3_isBelow ∈ GW := gw 608 (by decide +kernel) (by decide +kernel)
theorem wM_X8_91 : Cond.methodLink RX8 91 yX1_overlaps ∈ GW := gw 612 (by decide +kernel) (by decide +kernel)
theorem wM_X1_98 : Cond.methodLink RX1 98 yX7_isEmpty ∈ GW := gw 616 (by decide +kernel) (by decide +kernel)
theorem wM_X7_27 : Cond.methodLink RX7 27 yX3_isBelow ∈ GW := gw 620 (by decide +kernel) (by decide +kernel)
theorem wM_X1_66 : Cond.methodLink RX1 66 yX1_held ∈ GW := gw 621 (by decide +kernel) (by decide +kernel)
theorem wM_X1_108 : Cond.methodLink RX1 108 yX3_isBelow ∈ GW := gw 625 (by decide +kernel) (by decide +kernel)
theorem wM_X8_95 : Cond.methodLink RX8 95 yX1_takesIn ∈ GW := gw 626 (by decide +kernel) (by decide +kernel)
theorem wM_X1_76 : Cond.methodLink RX1 76 yX3_put ∈ GW := gw 630 (by decide +kernel) (by decide +kernel)
theorem wJ_X1_80 : Cond.constantLong RX1 80 (1000000000) ∈ GW := gw 631 (by decide +kernel) (by decide +kernel)
theorem wM_X8_98 : Cond.methodLink RX8 98 yX1_give ∈ GW := gw 632 (by decide +kernel) (by decide +kernel)
theorem wM_X1_95 : Cond.methodLink RX1 95 yX7_put ∈ GW := gw 636 (by decide +kernel) (by decide +kernel)
theorem wM_X7_19 : Cond.methodLink RX7 19 yX3_copy ∈ GW := gw 640 (by decide +kernel) (by decide +kernel)
theorem wM_L_60 : Cond.methodLink RL 60 yX9_divides ∈ GW := gw 644 (by decide +kernel) (by decide +kernel)
theorem wM_X9_180 : Cond.methodLink RX9 180 yX1_copy ∈ GW := gw 648 (by decide +kernel) (by decide +kernel)
theorem wM_X1_62 : Cond.methodLink RX1 62 yX2_copy ∈ GW := gw 652 (by decide +kernel) (by decide +kernel)
theorem wM_X2_23 : Cond.methodLink RX2 23 yX7_copy ∈ GW := gw 656 (by decide +kernel) (by decide +kernel)
theorem wM_X7_23 : Cond.methodLink RX7 23 yX7_put ∈ GW := gw 660 (by decide +kernel) (by decide +kernel)
theorem wM_X1_70 : Cond.methodLink RX1 70 yX7_copy ∈ GW := gw 661 (by decide +kernel) (by decide +kernel)
theorem wM_L_64 : Cond.methodLink RL 64 yX9_prints ∈ GW := gw 662 (by decide +kernel) (by decide +kernel)
theorem wM_X9_191 : Cond.methodLink RX9 191 yX6_addEvent ∈ GW := gw 666 (by decide +kernel) (by decide +kernel)
theorem wM_X6_45 : Cond.methodLink RX6 45 yX6_letterOf ∈ GW := gw 670 (by decide +kernel) (by decide +kernel)
theorem wM_X6_23 : Cond.methodLink RX6 23 yX6_add ∈ GW := gw 673 (by decide +kernel) (by decide +kernel)
theorem wM_X6_33 : Cond.methodLink RX6 33 yX6_addNumber ∈ GW := gw 677 (by decide +kernel) (by decide +kernel)
theorem wJ_X6_19 : Cond.constantLong RX6 19 (10) ∈ GW := gw 681 (by decide +kernel) (by decide +kernel)
theorem wJ_X6_21 : Cond.constantLong RX6 21 (48) ∈ GW := gw 682 (by decide +kernel) (by decide +kernel)
theorem wM_X6_62 : Cond.methodLink RX6 62 yX6_addPoint ∈ GW := gw 683 (by decide +kernel) (by decide +kernel)
theorem wM_L_68 : Cond.methodLink RL 68 yX9_paper ∈ GW := gw 687 (by decide +kernel) (by decide +kernel)
theorem wM_L_72 : Cond.methodLink RL 72 yX9_shares ∈ GW := gw 691 (by decide +kernel) (by decide +kernel)
theorem wM_X9_199 : Cond.methodLink RX9 199 yX9_isWay ∈ GW := gw 695 (by decide +kernel) (by decide +kernel)
theorem wM_X9_202 : Cond.methodLink RX9 202 yX9_isAllowed ∈ GW := gw 698 (by decide +kernel) (by decide +kernel)
theorem wM_X9_205 : Cond.methodLink RX9 205 yX5_run ∈ GW := gw 702 (by decide +kernel) (by decide +kernel)
theorem wM_X5_54 : Cond.methodLink RX5 54 yX1_clear ∈ GW := gw 706 (by decide +kernel) (by decide +kernel)
theorem wM_X5_68 : Cond.methodLink RX5 68 yX3_put ∈ GW := gw 707 (by decide +kernel) (by decide +kernel)
theorem wM_X5_72 : Cond.methodLink RX5 72 yX7_copy ∈ GW := gw 708 (by decide +kernel) (by decide +kernel)
theorem wM_X5_76 : Cond.methodLink RX5 76 yX5_cutAndChoose ∈ GW := gw 709 (by decide +kernel) (by decide +kernel)
theorem wM_X5_136 : Cond.methodLink RX5 136 yX5_agentAt ∈ GW := gw 713 (by decide +kernel) (by decide +kernel)
theorem wM_X5_151 : Cond.methodLink RX5 151 yX5_putMark ∈ GW := gw 717 (by decide +kernel) (by decide +kernel)
theorem wM_X5_120 : Cond.methodLink RX5 120 yX0_between ∈ GW := gw 721 (by decide +kernel) (by decide +kernel)
theorem wM_X5_124 : Cond.methodLink RX5 124 yX3_parts ∈ GW := gw 725 (by decide +kernel) (by decide +kernel)
theorem wM_X5_128 : Cond.methodLink RX5 128 yX0_reach ∈ GW := gw 726 (by decide +kernel) (by decide +kernel)
theorem wM_X5_132 : Cond.methodLink RX5 132 yX1_takesIn ∈ GW := gw 727 (by decide +kernel) (by decide +kernel)
theorem wM_X5_140 : Cond.methodLink RX5 140 yX1_note ∈ GW := gw 728 (by decide +kernel) (by decide +kernel)
theorem wM_X5_155 : Cond.methodLink RX5 155 yX7_put ∈ GW := gw 732 (by decide +kernel) (by decide +kernel)
theorem wM_X5_158 : Cond.methodLink RX5 158 yX5_has ∈ GW := gw 733 (by decide +kernel) (by decide +kernel)
theorem wM_X5_162 : Cond.methodLink RX5 162 yX5_takePiece ∈ GW := gw 737 (by decide +kernel) (by decide +kernel)
theorem wM_X5_144 : Cond.methodLink RX5 144 yX1_give ∈ GW := gw 741 (by decide +kernel) (by decide +kernel)
theorem wM_X5_84 : Cond.methodLink RX5 84 yX5_moveKnife ∈ GW := gw 742 (by decide +kernel) (by decide +kernel)
theorem wM_X5_166 : Cond.methodLink RX5 166 yX5_everyone ∈ GW := gw 746 (by decide +kernel) (by decide +kernel)
theorem wM_X5_170 : Cond.methodLink RX5 170 yX5_markAll ∈ GW := gw 750 (by decide +kernel) (by decide +kernel)
theorem wM_X5_105 : Cond.methodLink RX5 105 yX5_isIn ∈ GW := gw 754 (by decide +kernel) (by decide +kernel)
theorem wM_X5_174 : Cond.methodLink RX5 174 yX5_leastMark ∈ GW := gw 757 (by decide +kernel) (by decide +kernel)
theorem wM_X5_181 : Cond.methodLink RX5 181 yX5_firstOf ∈ GW := gw 761 (by decide +kernel) (by decide +kernel)
theorem wM_X5_184 : Cond.methodLink RX5 184 yX3_isBelow ∈ GW := gw 765 (by decide +kernel) (by decide +kernel)
theorem wM_X5_177 : Cond.methodLink RX5 177 yX5_takeRestTo ∈ GW := gw 766 (by decide +kernel) (by decide +kernel)
theorem wM_X5_148 : Cond.methodLink RX5 148 yX3_copy ∈ GW := gw 770 (by decide +kernel) (by decide +kernel)
theorem wM_X5_87 : Cond.methodLink RX5 87 yX5_diminish ∈ GW := gw 771 (by decide +kernel) (by decide +kernel)
theorem wM_X5_187 : Cond.methodLink RX5 187 yX5_trimOrPass ∈ GW := gw 775 (by decide +kernel) (by decide +kernel)
theorem wM_X5_90 : Cond.methodLink RX5 90 yX5_halve ∈ GW := gw 779 (by decide +kernel) (by decide +kernel)
theorem wM_X5_191 : Cond.methodLink RX5 191 yJ6_bitCount_0f7a4 ∈ GW := gw 783 (by decide +kernel) (by decide +kernel)
theorem wK_J6_265 : Cond.constant RJ6 265 (1431655765) ∈ GW := gw 786 (by decide +kernel) (by decide +kernel)
theorem wK_J6_266 : Cond.constant RJ6 266 (858993459) ∈ GW := gw 787 (by decide +kernel) (by decide +kernel)
theorem wK_J6_267 : Cond.constant RJ6 267 (252645135) ∈ GW := gw 788 (by decide +kernel) (by decide +kernel)
theorem wM_X5_196 : Cond.methodLink RX5 196 yX5_othersBehind ∈ GW := gw 789 (by decide +kernel) (by decide +kernel)
theorem wM_X5_93 : Cond.methodLink RX5 93 yX5_cutAndTrim ∈ GW := gw 793 (by decide +kernel) (by decide +kernel)
theorem wM_X5_206 : Cond.methodLink RX5 206 yX5_cutInThree ∈ GW := gw 797 (by decide +kernel) (by decide +kernel)
theorem wM_X5_210 : Cond.methodLink RX5 210 yX5_mostOf ∈ GW := gw 801 (by decide +kernel) (by decide +kernel)
theorem wM_X5_200 : Cond.methodLink RX5 200 yJ9_max_7cf53 ∈ GW := gw 805 (by decide +kernel) (by decide +kernel)
theorem wM_X5_96 : Cond.methodLink RX5 96 yX5_takePieces ∈ GW := gw 808 (by decide +kernel) (by decide +kernel)
theorem wM_X5_99 : Cond.methodLink RX5 99 yX5_partTrimmings ∈ GW := gw 812 (by decide +kernel) (by decide +kernel)
theorem wM_L_76 : Cond.methodLink RL 76 yX9_event ∈ GW := gw 816 (by decide +kernel) (by decide +kernel)
theorem wM_X9_208 : Cond.methodLink RX9 208 yX2_part ∈ GW := gw 820 (by decide +kernel) (by decide +kernel)
theorem wM_X2_27 : Cond.methodLink RX2 27 yX7_part ∈ GW := gw 824 (by decide +kernel) (by decide +kernel)
theorem wM_L_81 : Cond.methodLink RL 81 yX9_share ∈ GW := gw 825 (by decide +kernel) (by decide +kernel)
theorem wM_X9_215 : Cond.methodLink RX9 215 yX1_held ∈ GW := gw 829 (by decide +kernel) (by decide +kernel)
theorem wM_L_85 : Cond.methodLink RL 85 yX9_gets ∈ GW := gw 830 (by decide +kernel) (by decide +kernel)
theorem wM_X9_219 : Cond.methodLink RX9 219 yX1_holds ∈ GW := gw 834 (by decide +kernel) (by decide +kernel)
theorem wM_X1_112 : Cond.methodLink RX1 112 yX0_between ∈ GW := gw 838 (by decide +kernel) (by decide +kernel)
theorem wM_L_90 : Cond.methodLink RL 90 yX9_envies ∈ GW := gw 839 (by decide +kernel) (by decide +kernel)
theorem wM_L_94 : Cond.methodLink RL 94 yX9_fair ∈ GW := gw 843 (by decide +kernel) (by decide +kernel)
theorem wM_L_98 : Cond.methodLink RL 98 yX9_exchange ∈ GW := gw 847 (by decide +kernel) (by decide +kernel)
theorem wM_X9_226 : Cond.methodLink RX9 226 yX1_bestExchange ∈ GW := gw 851 (by decide +kernel) (by decide +kernel)
theorem wM_X1_122 : Cond.methodLink RX1 122 yX1_holds ∈ GW := gw 855 (by decide +kernel) (by decide +kernel)
theorem wJ_X1_144 : Cond.constantLong RX1 144 (-1) ∈ GW := gw 856 (by decide +kernel) (by decide +kernel)
theorem wM_X1_146 : Cond.methodLink RX1 146 yX1_together ∈ GW := gw 857 (by decide +kernel) (by decide +kernel)
theorem wM_X1_150 : Cond.methodLink RX1 150 yX1_figures ∈ GW := gw 861 (by decide +kernel) (by decide +kernel)
theorem wM_L_102 : Cond.methodLink RL 102 yX9_cuts ∈ GW := gw 864 (by decide +kernel) (by decide +kernel)
theorem wM_X9_230 : Cond.methodLink RX9 230 yX1_countCuts ∈ GW := gw 868 (by decide +kernel) (by decide +kernel)
theorem wM_X1_126 : Cond.methodLink RX1 126 yX1_see ∈ GW := gw 872 (by decide +kernel) (by decide +kernel)
theorem wM_X1_130 : Cond.methodLink RX1 130 yX3_isAt ∈ GW := gw 876 (by decide +kernel) (by decide +kernel)
theorem wM_X1_134 : Cond.methodLink RX1 134 yX3_copy ∈ GW := gw 880 (by decide +kernel) (by decide +kernel)
theorem wM_L_106 : Cond.methodLink RL 106 yX9_off ∈ GW := gw 881 (by decide +kernel) (by decide +kernel)
theorem wM_X9_234 : Cond.methodLink RX9 234 yX1_trimmedOff ∈ GW := gw 885 (by decide +kernel) (by decide +kernel)
theorem wM_X9_238 : Cond.methodLink RX9 238 yX1_leftOver ∈ GW := gw 889 (by decide +kernel) (by decide +kernel)
theorem wM_X1_118 : Cond.methodLink RX1 118 yX0_total ∈ GW := gw 893 (by decide +kernel) (by decide +kernel)
theorem wM_L_110 : Cond.methodLink RL 110 yX9_would ∈ GW := gw 894 (by decide +kernel) (by decide +kernel)
theorem wM_L_114 : Cond.methodLink RL 114 yX9_lie ∈ GW := gw 898 (by decide +kernel) (by decide +kernel)
theorem wM_X9_245 : Cond.methodLink RX9 245 yX0_moveTold ∈ GW := gw 902 (by decide +kernel) (by decide +kernel)
theorem wM_X9_249 : Cond.methodLink RX9 249 yX9_bringsMore ∈ GW := gw 906 (by decide +kernel) (by decide +kernel)
theorem wM_X9_273 : Cond.methodLink RX9 273 yX3_isBelow ∈ GW := gw 910 (by decide +kernel) (by decide +kernel)
theorem wM_X9_277 : Cond.methodLink RX9 277 yX3_copy ∈ GW := gw 911 (by decide +kernel) (by decide +kernel)
theorem wM_L_118 : Cond.methodLink RL 118 yX9_best ∈ GW := gw 912 (by decide +kernel) (by decide +kernel)
theorem wM_L_122 : Cond.methodLink RL 122 yX9_list ∈ GW := gw 916 (by decide +kernel) (by decide +kernel)
theorem wM_X9_253 : Cond.methodLink RX9 253 yX4_isRow ∈ GW := gw 920 (by decide +kernel) (by decide +kernel)
theorem wM_X9_256 : Cond.methodLink RX9 256 yX4_lay ∈ GW := gw 924 (by decide +kernel) (by decide +kernel)
theorem wM_L_126 : Cond.methodLink RL 126 yX9_set ∈ GW := gw 928 (by decide +kernel) (by decide +kernel)
theorem wM_X9_257 : Cond.methodLink RX9 257 yX4_isLaid ∈ GW := gw 932 (by decide +kernel) (by decide +kernel)
theorem wM_X9_260 : Cond.methodLink RX9 260 yX4_hasPlace ∈ GW := gw 936 (by decide +kernel) (by decide +kernel)
theorem wM_L_130 : Cond.methodLink RL 130 yX9_get ∈ GW := gw 940 (by decide +kernel) (by decide +kernel)
theorem wM_L_134 : Cond.methodLink RL 134 yX9_into ∈ GW := gw 944 (by decide +kernel) (by decide +kernel)
theorem wM_X9_266 : Cond.methodLink RX9 266 yX9_refusal ∈ GW := gw 948 (by decide +kernel) (by decide +kernel)
theorem wM_L_138 : Cond.methodLink RL 138 yX9_from ∈ GW := gw 952 (by decide +kernel) (by decide +kernel)
theorem wM_L_142 : Cond.methodLink RL 142 yX9_image ∈ GW := gw 956 (by decide +kernel) (by decide +kernel)
theorem wM_L_146 : Cond.methodLink RL 146 yX9_back ∈ GW := gw 960 (by decide +kernel) (by decide +kernel)
theorem wM_L_150 : Cond.methodLink RL 150 yX9_count ∈ GW := gw 964 (by decide +kernel) (by decide +kernel)
theorem wC_L_10 : Cond.classLink RL 10 RX10 ∈ GW := gw 968 (by decide +kernel) (by decide +kernel)
theorem wM_L_12 : Cond.methodLink RL 12 yX10_init ∈ GW := gw 970 (by decide +kernel) (by decide +kernel)
theorem wM_X10_3 : Cond.methodLink RX10 3 Lib.objectInit ∈ GW := gw 973 (by decide +kernel) (by decide +kernel)
theorem wM_X10_61 : Cond.methodLink RX10 61 yX10_fresh ∈ GW := gw 974 (by decide +kernel) (by decide +kernel)
theorem wM_L_17 : Cond.methodLink RL 17 yX10_begin ∈ GW := gw 1063 (by decide +kernel) (by decide +kernel)
theorem wJ_X10_69 : Cond.constantLong RX10 69 (2) ∈ GW := gw 1067 (by decide +kernel) (by decide +kernel)
theorem wJ_X10_71 : Cond.constantLong RX10 71 (16) ∈ GW := gw 1068 (by decide +kernel) (by decide +kernel)
theorem wM_X10_65 : Cond.methodLink RX10 65 yX10_in ∈ GW := gw 1069 (by decide +kernel) (by decide +kernel)
theorem wJ_X10_73 : Cond.constantLong RX10 73 (5) ∈ GW := gw 1072 (by decide +kernel) (by decide +kernel)
theorem wM_X10_75 : Cond.methodLink RX10 75 yX10_agents ∈ GW := gw 1073 (by decide +kernel) (by decide +kernel)
theorem wM_L_22 : Cond.methodLink RL 22 yX10_worth ∈ GW := gw 1077 (by decide +kernel) (by decide +kernel)
theorem wM_X10_79 : Cond.methodLink RX10 79 yX10_isAgent ∈ GW := gw 1081 (by decide +kernel) (by decide +kernel)
theorem wM_X10_83 : Cond.methodLink RX10 83 yX10_isStrip ∈ GW := gw 1085 (by decide +kernel) (by decide +kernel)
theorem wJ_X10_86 : Cond.constantLong RX10 86 (9) ∈ GW := gw 1089 (by decide +kernel) (by decide +kernel)
theorem wM_X10_88 : Cond.methodLink RX10 88 yX10_worthOf ∈ GW := gw 1090 (by decide +kernel) (by decide +kernel)
theorem wM_L_26 : Cond.methodLink RL 26 yX10_tells ∈ GW := gw 1094 (by decide +kernel) (by decide +kernel)
theorem wM_L_31 : Cond.methodLink RL 31 yX10_honest ∈ GW := gw 1098 (by decide +kernel) (by decide +kernel)
theorem wM_X10_92 : Cond.methodLink RX10 92 yX10_strips ∈ GW := gw 1102 (by decide +kernel) (by decide +kernel)
theorem wM_L_35 : Cond.methodLink RL 35 yX10_strip ∈ GW := gw 1106 (by decide +kernel) (by decide +kernel)
theorem wM_L_40 : Cond.methodLink RL 40 yX10_span ∈ GW := gw 1110 (by decide +kernel) (by decide +kernel)
theorem wJ_X10_114 : Cond.constantLong RX10 114 (1000) ∈ GW := gw 1114 (by decide +kernel) (by decide +kernel)
theorem wJ_X10_116 : Cond.constantLong RX10 116 (-9223372036854775808) ∈ GW := gw 1115 (by decide +kernel) (by decide +kernel)
theorem wM_X10_118 : Cond.methodLink RX10 118 yX10_worthBetween ∈ GW := gw 1116 (by decide +kernel) (by decide +kernel)
theorem wM_X10_95 : Cond.methodLink RX10 95 yX10_divisor ∈ GW := gw 1120 (by decide +kernel) (by decide +kernel)
theorem wM_X10_106 : Cond.methodLink RX10 106 yX10_aheadOf ∈ GW := gw 1123 (by decide +kernel) (by decide +kernel)
theorem wM_X10_110 : Cond.methodLink RX10 110 yX10_becomes ∈ GW := gw 1127 (by decide +kernel) (by decide +kernel)
theorem wM_X10_122 : Cond.methodLink RX10 122 yX10_partOf ∈ GW := gw 1131 (by decide +kernel) (by decide +kernel)
theorem wM_L_45 : Cond.methodLink RL 45 yX10_mark ∈ GW := gw 1135 (by decide +kernel) (by decide +kernel)
theorem wJ_X10_126 : Cond.constantLong RX10 126 (20) ∈ GW := gw 1139 (by decide +kernel) (by decide +kernel)
theorem wM_X10_128 : Cond.methodLink RX10 128 yX10_allOf ∈ GW := gw 1140 (by decide +kernel) (by decide +kernel)
theorem wM_X10_132 : Cond.methodLink RX10 132 yX10_marks ∈ GW := gw 1144 (by decide +kernel) (by decide +kernel)
theorem wM_L_50 : Cond.methodLink RL 50 yX10_exact ∈ GW := gw 1148 (by decide +kernel) (by decide +kernel)
theorem wJ_X10_136 : Cond.constantLong RX10 136 (3) ∈ GW := gw 1152 (by decide +kernel) (by decide +kernel)
theorem wJ_X10_138 : Cond.constantLong RX10 138 (5040) ∈ GW := gw 1153 (by decide +kernel) (by decide +kernel)
theorem wJ_X10_140 : Cond.constantLong RX10 140 (2520) ∈ GW := gw 1154 (by decide +kernel) (by decide +kernel)
theorem wJ_X10_142 : Cond.constantLong RX10 142 (-1) ∈ GW := gw 1155 (by decide +kernel) (by decide +kernel)
theorem wM_X10_144 : Cond.methodLink RX10 144 yX10_pairOf ∈ GW := gw 1156 (by decide +kernel) (by decide +kernel)
theorem wM_L_54 : Cond.methodLink RL 54 yX10_feed ∈ GW := gw 1160 (by decide +kernel) (by decide +kernel)
theorem wJ_X10_148 : Cond.constantLong RX10 148 (127) ∈ GW := gw 1164 (by decide +kernel) (by decide +kernel)
theorem wM_L_59 : Cond.methodLink RL 59 yX10_worths ∈ GW := gw 1165 (by decide +kernel) (by decide +kernel)
theorem wM_X10_189 : Cond.methodLink RX10 189 yX10_copies ∈ GW := gw 1169 (by decide +kernel) (by decide +kernel)
theorem wM_X10_193 : Cond.methodLink RX10 193 yX10_readWorths ∈ GW := gw 1172 (by decide +kernel) (by decide +kernel)
theorem wM_X10_161 : Cond.methodLink RX10 161 yX10_here ∈ GW := gw 1176 (by decide +kernel) (by decide +kernel)
theorem wM_X10_176 : Cond.methodLink RX10 176 yX10_badAt ∈ GW := gw 1180 (by decide +kernel) (by decide +kernel)
theorem wM_X10_180 : Cond.methodLink RX10 180 yX10_agentHere ∈ GW := gw 1184 (by decide +kernel) (by decide +kernel)
theorem wM_X10_172 : Cond.methodLink RX10 172 yX10_number ∈ GW := gw 1188 (by decide +kernel) (by decide +kernel)
theorem wM_X10_168 : Cond.methodLink RX10 168 yX10_isFigure ∈ GW := gw 1192 (by decide +kernel) (by decide +kernel)
theorem wJ_X10_164 : Cond.constantLong RX10 164 (48) ∈ GW := gw 1196 (by decide +kernel) (by decide +kernel)
theorem wJ_X10_166 : Cond.constantLong RX10 166 (57) ∈ GW := gw 1197 (by decide +kernel) (by decide +kernel)
theorem wM_X10_183 : Cond.methodLink RX10 183 yX10_wants ∈ GW := gw 1198 (by decide +kernel) (by decide +kernel)
theorem wM_X10_186 : Cond.methodLink RX10 186 yX10_goesOn ∈ GW := gw 1202 (by decide +kernel) (by decide +kernel)
theorem wM_X10_196 : Cond.methodLink RX10 196 yX10_endsText ∈ GW := gw 1206 (by decide +kernel) (by decide +kernel)
theorem wM_L_63 : Cond.methodLink RL 63 yX10_divides ∈ GW := gw 1210 (by decide +kernel) (by decide +kernel)
theorem wM_X10_226 : Cond.methodLink RX10 226 yX10_undivided ∈ GW := gw 1214 (by decide +kernel) (by decide +kernel)
theorem wM_X10_229 : Cond.methodLink RX10 229 yX10_readShare ∈ GW := gw 1218 (by decide +kernel) (by decide +kernel)
theorem wM_X10_216 : Cond.methodLink RX10 216 yX10_readSpan ∈ GW := gw 1222 (by decide +kernel) (by decide +kernel)
theorem wM_X10_203 : Cond.methodLink RX10 203 yX10_readPoint ∈ GW := gw 1226 (by decide +kernel) (by decide +kernel)
theorem wM_X10_199 : Cond.methodLink RX10 199 yX10_isLess ∈ GW := gw 1230 (by decide +kernel) (by decide +kernel)
theorem wM_X10_206 : Cond.methodLink RX10 206 yX10_areApart ∈ GW := gw 1233 (by decide +kernel) (by decide +kernel)
theorem wM_X10_209 : Cond.methodLink RX10 209 yX10_adds ∈ GW := gw 1237 (by decide +kernel) (by decide +kernel)
theorem wM_X10_232 : Cond.methodLink RX10 232 yX10_unites ∈ GW := gw 1241 (by decide +kernel) (by decide +kernel)
theorem wJ_X10_222 : Cond.constantLong RX10 222 (1000000000) ∈ GW := gw 1245 (by decide +kernel) (by decide +kernel)
theorem wJ_X10_224 : Cond.constantLong RX10 224 (1000000001) ∈ GW := gw 1246 (by decide +kernel) (by decide +kernel)
theorem wM_L_75 : Cond.methodLink RL 75 yX10_shares ∈ GW := gw 1247 (by decide +kernel) (by decide +kernel)
theorem wM_X10_318 : Cond.methodLink RX10 318 yX10_mayWay ∈ GW := gw 1251 (by decide +kernel) (by decide +kernel)
theorem wJ_X10_301 : Cond.constantLong RX10 301 (4) ∈ GW := gw 1255 (by decide +kernel) (by decide +kernel)
theorem wM_X10_321 : Cond.methodLink RX10 321 yX10_goes ∈ GW := gw 1256 (by decide +kernel) (by decide +kernel)
theorem wM_X10_303 : Cond.methodLink RX10 303 yX10_chooses ∈ GW := gw 1260 (by decide +kernel) (by decide +kernel)
theorem wM_X10_242 : Cond.methodLink RX10 242 yX10_ordered ∈ GW := gw 1264 (by decide +kernel) (by decide +kernel)
theorem wM_X10_245 : Cond.methodLink RX10 245 yX10_marksPoint ∈ GW := gw 1268 (by decide +kernel) (by decide +kernel)
theorem wM_X10_239 : Cond.methodLink RX10 239 yX10_happens ∈ GW := gw 1272 (by decide +kernel) (by decide +kernel)
theorem wM_X10_249 : Cond.methodLink RX10 249 yX10_ends ∈ GW := gw 1276 (by decide +kernel) (by decide +kernel)
theorem wM_X10_253 : Cond.methodLink RX10 253 yX10_takes ∈ GW := gw 1280 (by decide +kernel) (by decide +kernel)
theorem wM_X10_306 : Cond.methodLink RX10 306 yX10_knife ∈ GW := gw 1284 (by decide +kernel) (by decide +kernel)
theorem wM_X10_256 : Cond.methodLink RX10 256 yX10_lastOf ∈ GW := gw 1288 (by decide +kernel) (by decide +kernel)
theorem wM_X10_309 : Cond.methodLink RX10 309 yX10_diminish ∈ GW := gw 1292 (by decide +kernel) (by decide +kernel)
theorem wM_X10_262 : Cond.methodLink RX10 262 yX10_looks ∈ GW := gw 1296 (by decide +kernel) (by decide +kernel)
theorem wM_X10_312 : Cond.methodLink RX10 312 yX10_halves ∈ GW := gw 1300 (by decide +kernel) (by decide +kernel)
theorem wM_X10_275 : Cond.methodLink RX10 275 yX10_lays ∈ GW := gw 1304 (by decide +kernel) (by decide +kernel)
theorem wM_X10_269 : Cond.methodLink RX10 269 yX10_countOf ∈ GW := gw 1308 (by decide +kernel) (by decide +kernel)
theorem wM_X10_278 : Cond.methodLink RX10 278 yX10_parts ∈ GW := gw 1311 (by decide +kernel) (by decide +kernel)
theorem wM_X10_272 : Cond.methodLink RX10 272 yX10_leastOf ∈ GW := gw 1315 (by decide +kernel) (by decide +kernel)
theorem wM_X10_315 : Cond.methodLink RX10 315 yX10_trims ∈ GW := gw 1319 (by decide +kernel) (by decide +kernel)
theorem wM_X10_287 : Cond.methodLink RX10 287 yX10_thirds ∈ GW := gw 1323 (by decide +kernel) (by decide +kernel)
theorem wM_X10_284 : Cond.methodLink RX10 284 yX10_pieces ∈ GW := gw 1327 (by decide +kernel) (by decide +kernel)
theorem wM_X10_290 : Cond.methodLink RX10 290 yX10_mostFor ∈ GW := gw 1331 (by decide +kernel) (by decide +kernel)
theorem wM_X10_281 : Cond.methodLink RX10 281 yX10_worthOfPiece ∈ GW := gw 1335 (by decide +kernel) (by decide +kernel)
theorem wM_X10_294 : Cond.methodLink RX10 294 yX10_takesPiece ∈ GW := gw 1339 (by decide +kernel) (by decide +kernel)
theorem wM_X10_297 : Cond.methodLink RX10 297 yX10_sharesTrimmings ∈ GW := gw 1343 (by decide +kernel) (by decide +kernel)
theorem wM_L_80 : Cond.methodLink RL 80 yX10_event ∈ GW := gw 1347 (by decide +kernel) (by decide +kernel)
theorem wM_X10_325 : Cond.methodLink RX10 325 yX10_isDivided ∈ GW := gw 1351 (by decide +kernel) (by decide +kernel)
theorem wM_L_84 : Cond.methodLink RL 84 yX10_share ∈ GW := gw 1355 (by decide +kernel) (by decide +kernel)
theorem wM_L_67 : Cond.methodLink RL 67 yX10_prints_ ∈ GW := gw 1359 (by decide +kernel) (by decide +kernel)
theorem wM_X10_333 : Cond.methodLink RX10 333 yX10_prints ∈ GW := gw 1363 (by decide +kernel) (by decide +kernel)
theorem wM_X10_336 : Cond.methodLink RX10 336 yX10_printsNumber ∈ GW := gw 1367 (by decide +kernel) (by decide +kernel)
theorem wJ_X10_331 : Cond.constantLong RX10 331 (10) ∈ GW := gw 1371 (by decide +kernel) (by decide +kernel)
theorem wM_X10_339 : Cond.methodLink RX10 339 yX10_printsPoint ∈ GW := gw 1372 (by decide +kernel) (by decide +kernel)
theorem wM_L_71 : Cond.methodLink RL 71 yX10_paper ∈ GW := gw 1376 (by decide +kernel) (by decide +kernel)
theorem wM_L_89 : Cond.methodLink RL 89 yX10_gets ∈ GW := gw 1380 (by decide +kernel) (by decide +kernel)
theorem wM_X10_345 : Cond.methodLink RX10 345 yX10_worthOfShare ∈ GW := gw 1384 (by decide +kernel) (by decide +kernel)
theorem wM_X10_342 : Cond.methodLink RX10 342 yX10_scaled ∈ GW := gw 1388 (by decide +kernel) (by decide +kernel)
theorem wM_L_93 : Cond.methodLink RL 93 yX10_envies ∈ GW := gw 1392 (by decide +kernel) (by decide +kernel)
theorem wM_L_97 : Cond.methodLink RL 97 yX10_fair ∈ GW := gw 1396 (by decide +kernel) (by decide +kernel)
theorem wM_L_101 : Cond.methodLink RL 101 yX10_exchange ∈ GW := gw 1400 (by decide +kernel) (by decide +kernel)
theorem wM_X10_348 : Cond.methodLink RX10 348 yX10_byFigures ∈ GW := gw 1404 (by decide +kernel) (by decide +kernel)
theorem wM_L_105 : Cond.methodLink RL 105 yX10_cuts ∈ GW := gw 1408 (by decide +kernel) (by decide +kernel)
theorem wM_L_109 : Cond.methodLink RL 109 yX10_off ∈ GW := gw 1412 (by decide +kernel) (by decide +kernel)
theorem wM_L_113 : Cond.methodLink RL 113 yX10_would ∈ GW := gw 1416 (by decide +kernel) (by decide +kernel)
theorem wM_X10_351 : Cond.methodLink RX10 351 yX10_wouldBring ∈ GW := gw 1420 (by decide +kernel) (by decide +kernel)
theorem wM_L_117 : Cond.methodLink RL 117 yX10_lie ∈ GW := gw 1424 (by decide +kernel) (by decide +kernel)
theorem wM_X10_355 : Cond.methodLink RX10 355 yX10_mayLie ∈ GW := gw 1428 (by decide +kernel) (by decide +kernel)
theorem wM_X10_358 : Cond.methodLink RX10 358 yX10_tellsMore ∈ GW := gw 1432 (by decide +kernel) (by decide +kernel)
theorem wM_L_121 : Cond.methodLink RL 121 yX10_best ∈ GW := gw 1436 (by decide +kernel) (by decide +kernel)
theorem wM_L_125 : Cond.methodLink RL 125 yX10_list ∈ GW := gw 1440 (by decide +kernel) (by decide +kernel)
theorem wM_X10_362 : Cond.methodLink RX10 362 yX10_isList ∈ GW := gw 1444 (by decide +kernel) (by decide +kernel)
theorem wM_L_129 : Cond.methodLink RL 129 yX10_set ∈ GW := gw 1447 (by decide +kernel) (by decide +kernel)
theorem wM_L_133 : Cond.methodLink RL 133 yX10_get ∈ GW := gw 1451 (by decide +kernel) (by decide +kernel)
theorem wM_L_137 : Cond.methodLink RL 137 yX10_into ∈ GW := gw 1455 (by decide +kernel) (by decide +kernel)
theorem wM_X10_365 : Cond.methodLink RX10 365 yX10_mayRow ∈ GW := gw 1459 (by decide +kernel) (by decide +kernel)
theorem wM_L_141 : Cond.methodLink RL 141 yX10_from ∈ GW := gw 1463 (by decide +kernel) (by decide +kernel)
theorem wM_L_145 : Cond.methodLink RL 145 yX10_image ∈ GW := gw 1467 (by decide +kernel) (by decide +kernel)
theorem wM_L_149 : Cond.methodLink RL 149 yX10_back ∈ GW := gw 1471 (by decide +kernel) (by decide +kernel)
theorem wM_L_153 : Cond.methodLink RL 153 yX10_count ∈ GW := gw 1475 (by decide +kernel) (by decide +kernel)
theorem wA_int : Cond.arrayClass .int ∈ GW := gw 161 (by decide +kernel) (by decide +kernel)
theorem wA_long : Cond.arrayClass .long ∈ GW := gw 192 (by decide +kernel) (by decide +kernel)
theorem wA_byte : Cond.arrayClass .byte ∈ GW := gw 361 (by decide +kernel) (by decide +kernel)
theorem wO_inst : Cond.instanceMethod Lib.objectInit ∈ GW := gw 122 (by decide +kernel) (by decide +kernel)
theorem wO_code : Cond.code Lib.objectInit ⟨#[0xb1]⟩ 1 none ∈ GW := gw 123 (by decide +kernel) (by decide +kernel)
def CB (Y : MI) (n : Nat) : Prop := Cond.code Y.1 Y.2.1 Y.2.2.1 Y.2.2.2 ∈ GW ∧ Cond.initialized Y.1.cls ∈ GW ∧ (Y.1.cls ≠ "java/lang/invoke/MethodHandle" ∧ Y.1.cls ≠ "java/lang/invoke/VarHandle" ∧ (parseMethodDescriptor Y.1.desc).map (fun d => d.parameters.length) = some n)
def CV (Y : MI) (n : Nat) : Prop := CB Y n ∧ Cond.instanceMethod Y.1 ∈ GW ∧ Cond.selects Y.1.cls Y.1 Y.1 ∈ GW
def CS (Y : MI) (n : Nat) : Prop := CB Y n ∧ Cond.static Y.1 ∈ GW
def CI (Y : MI) (n : Nat) : Prop := CB Y n ∧ Cond.instanceMethod Y.1 ∈ GW ∧ Y.1.name = "<init>"
theorem cvJ6_bitCount_0f7a4 : CS mJ6_bitCount_0f7a4 1 := ⟨⟨gw 785 (by decide +kernel) (by decide +kernel), wZ_J6, by decide +kernel, by decide +kernel, by decide +kernel⟩, gw 784 (by decide +kernel) (by decide +kernel)⟩
theorem cvJ9_abs_067f4 : CS mJ9_abs_067f4 1 := ⟨⟨gw 552 (by decide +kernel) (by decide +kernel), wZ_J9, by decide +kernel, by decide +kernel, by decide +kernel⟩, gw 551 (by decide +kernel) (by decide +kernel)⟩
theorem cvJ9_max_7cf53 : CS mJ9_max_7cf53 2 := ⟨⟨gw 807 (by decide +kernel) (by decide +kernel), wZ_J9, by decide +kernel, by decide +kernel, by decide +kernel⟩, gw 806 (by decide +kernel) (by decide +kernel)⟩
theorem cvJ9_max_f86c9 : CS mJ9_max_f86c9 2 := ⟨⟨gw 505 (by decide +kernel) (by decide +kernel), wZ_J9, by decide +kernel, by decide +kernel, by decide +kernel⟩, gw 504 (by decide +kernel) (by decide +kernel)⟩
theorem cvJ9_min_f86c9 : CS mJ9_min_f86c9 2 := ⟨⟨gw 494 (by decide +kernel) (by decide +kernel), wZ_J9, by decide +kernel, by decide +kernel, by decide +kernel⟩, gw 493 (by decide +kernel) (by decide +kernel)⟩
theorem cvX0_between : CV mX0_between 4 := ⟨⟨gw 724 (by decide +kernel) (by decide +kernel), wZ_X0, by decide +kernel, by decide +kernel, by decide +kernel⟩, gw 722 (by decide +kernel) (by decide +kernel), gw 723 (by decide +kernel) (by decide +kernel)⟩
theorem cvX0_copy : CV mX0_copy 1 := ⟨⟨gw 573 (by decide +kernel) (by decide +kernel), wZ_X0, by decide +kernel, by decide +kernel, by decide +kernel⟩, gw 571 (by decide +kernel) (by decide +kernel), gw 572 (by decide +kernel) (by decide +kernel)⟩
theorem cvX0_excess : CV mX0_excess 3 := ⟨⟨gw 547 (by decide +kernel) (by decide +kernel), wZ_X0, by decide +kernel, by decide +kernel, by decide +kernel⟩, gw 546 (by decide +kernel) (by decide +kernel), gw 3 (by decide +kernel) (by decide +kernel)⟩
theorem cvX0_halfForBoth : CV mX0_halfForBoth 3 := ⟨⟨gw 531 (by decide +kernel) (by decide +kernel), wZ_X0, by decide +kernel, by decide +kernel, by decide +kernel⟩, gw 529 (by decide +kernel) (by decide +kernel), gw 530 (by decide +kernel) (by decide +kernel)⟩
theorem cvX0_hasAgent : CV mX0_hasAgent 1 := ⟨⟨gw 452 (by decide +kernel) (by decide +kernel), wZ_X0, by decide +kernel, by decide +kernel, by decide +kernel⟩, gw 450 (by decide +kernel) (by decide +kernel), gw 451 (by decide +kernel) (by decide +kernel)⟩
theorem cvX0_hasNoZero : CV mX0_hasNoZero 1 := ⟨⟨gw 535 (by decide +kernel) (by decide +kernel), wZ_X0, by decide +kernel, by decide +kernel, by decide +kernel⟩, gw 534 (by decide +kernel) (by decide +kernel), gw 2 (by decide +kernel) (by decide +kernel)⟩
theorem cvX0_hasStrip : CV mX0_hasStrip 1 := ⟨⟨gw 456 (by decide +kernel) (by decide +kernel), wZ_X0, by decide +kernel, by decide +kernel, by decide +kernel⟩, gw 454 (by decide +kernel) (by decide +kernel), gw 455 (by decide +kernel) (by decide +kernel)⟩
theorem cvX0_init : CI mX0_init 0 := ⟨⟨gw 128 (by decide +kernel) (by decide +kernel), wZ_X0, by decide +kernel, by decide +kernel, by decide +kernel⟩, gw 127 (by decide +kernel) (by decide +kernel), rfl⟩
theorem cvX0_lay : CV mX0_lay 2 := ⟨⟨gw 135 (by decide +kernel) (by decide +kernel), wZ_X0, by decide +kernel, by decide +kernel, by decide +kernel⟩, gw 133 (by decide +kernel) (by decide +kernel), gw 134 (by decide +kernel) (by decide +kernel)⟩
theorem cvX0_moveTold : CV mX0_moveTold 3 := ⟨⟨gw 905 (by decide +kernel) (by decide +kernel), wZ_X0, by decide +kernel, by decide +kernel, by decide +kernel⟩, gw 903 (by decide +kernel) (by decide +kernel), gw 904 (by decide +kernel) (by decide +kernel)⟩
theorem cvX0_reach : CV mX0_reach 6 := ⟨⟨gw 521 (by decide +kernel) (by decide +kernel), wZ_X0, by decide +kernel, by decide +kernel, by decide +kernel⟩, gw 519 (by decide +kernel) (by decide +kernel), gw 520 (by decide +kernel) (by decide +kernel)⟩
theorem cvX0_row : CV mX0_row 2 := ⟨⟨gw 478 (by decide +kernel) (by decide +kernel), wZ_X0, by decide +kernel, by decide +kernel, by decide +kernel⟩, gw 476 (by decide +kernel) (by decide +kernel), gw 477 (by decide +kernel) (by decide +kernel)⟩
theorem cvX0_total : CV mX0_total 1 := ⟨⟨gw 517 (by decide +kernel) (by decide +kernel), wZ_X0, by decide +kernel, by decide +kernel, by decide +kernel⟩, gw 515 (by decide +kernel) (by decide +kernel), gw 516 (by decide +kernel) (by decide +kernel)⟩
theorem cvX0_upTo : CV mX0_upTo 3 := ⟨⟨gw 491 (by decide +kernel) (by decide +kernel), wZ_X0, by decide +kernel, by decide +kernel, by decide +kernel⟩, gw 489 (by decide +kernel) (by decide +kernel), gw 490 (by decide +kernel) (by decide +kernel)⟩
theorem cvX10_adds : CV mX10_adds 5 := ⟨⟨gw 1240 (by decide +kernel) (by decide +kernel), wZ_X10, by decide +kernel, by decide +kernel, by decide +kernel⟩, gw 1239 (by decide +kernel) (by decide +kernel), gw 66 (by decide +kernel) (by decide +kernel)⟩
theorem cvX10_agentHere : CV mX10_agentHere 0 := ⟨⟨gw 1187 (by decide +kernel) (by decide +kernel), wZ_X10, by decide +kernel, by decide +kernel, by decide +kernel⟩, gw 1186 (by decide +kernel) (by decide +kernel), gw 55 (by decide +kernel) (by decide +kernel)⟩
theorem cvX10_agents : CV mX10_agents 0 := ⟨⟨gw 1076 (by decide +kernel) (by decide +kernel), wZ_X10, by decide +kernel, by decide +kernel, by decide +kernel⟩, gw 1075 (by decide +kernel) (by decide +kernel), gw 40 (by decide +kernel) (by decide +kernel)⟩
theorem cvX10_aheadOf : CV mX10_aheadOf 4 := ⟨⟨gw 1126 (by decide +kernel) (by decide +kernel), wZ_X10, by decide +kernel, by decide +kernel, by decide +kernel⟩, gw 1125 (by decide +kernel) (by decide +kernel), gw 46 (by decide +kernel) (by decide +kernel)⟩
theorem cvX10_allOf : CV mX10_allOf 2 := ⟨⟨gw 1143 (by decide +kernel) (by decide +kernel), wZ_X10, by decide +kernel, by decide +kernel, by decide +kernel⟩, gw 1142 (by decide +kernel) (by decide +kernel), gw 49 (by decide +kernel) (by decide +kernel)⟩
theorem cvX10_areApart : CV mX10_areApart 4 := ⟨⟨gw 1236 (by decide +kernel) (by decide +kernel), wZ_X10, by decide +kernel, by decide +kernel, by decide +kernel⟩, gw 1235 (by decide +kernel) (by decide +kernel), gw 65 (by decide +kernel) (by decide +kernel)⟩
theorem cvX10_back : CV mX10_back 0 := ⟨⟨gw 1474 (by decide +kernel) (by decide +kernel), wZ_X10, by decide +kernel, by decide +kernel, by decide +kernel⟩, gw 1472 (by decide +kernel) (by decide +kernel), gw 1473 (by decide +kernel) (by decide +kernel)⟩
theorem cvX10_badAt : CV mX10_badAt 1 := ⟨⟨gw 1183 (by decide +kernel) (by decide +kernel), wZ_X10, by decide +kernel, by decide +kernel, by decide +kernel⟩, gw 1182 (by decide +kernel) (by decide +kernel), gw 54 (by decide +kernel) (by decide +kernel)⟩
theorem cvX10_becomes : CV mX10_becomes 2 := ⟨⟨gw 1130 (by decide +kernel) (by decide +kernel), wZ_X10, by decide +kernel, by decide +kernel, by decide +kernel⟩, gw 1129 (by decide +kernel) (by decide +kernel), gw 47 (by decide +kernel) (by decide +kernel)⟩
theorem cvX10_begin : CV mX10_begin 2 := ⟨⟨gw 1066 (by decide +kernel) (by decide +kernel), wZ_X10, by decide +kernel, by decide +kernel, by decide +kernel⟩, gw 1064 (by decide +kernel) (by decide +kernel), gw 1065 (by decide +kernel) (by decide +kernel)⟩
theorem cvX10_best : CV mX10_best 2 := ⟨⟨gw 1439 (by decide +kernel) (by decide +kernel), wZ_X10, by decide +kernel, by decide +kernel, by decide +kernel⟩, gw 1437 (by decide +kernel) (by decide +kernel), gw 1438 (by decide +kernel) (by decide +kernel)⟩
theorem cvX10_byFigures : CV mX10_byFigures 1 := ⟨⟨gw 1407 (by decide +kernel) (by decide +kernel), wZ_X10, by decide +kernel, by decide +kernel, by decide +kernel⟩, gw 1406 (by decide +kernel) (by decide +kernel), gw 97 (by decide +kernel) (by decide +kernel)⟩
theorem cvX10_chooses : CV mX10_chooses 0 := ⟨⟨gw 1263 (by decide +kernel) (by decide +kernel), wZ_X10, by decide +kernel, by decide +kernel, by decide +kernel⟩, gw 1262 (by decide +kernel) (by decide +kernel), gw 70 (by decide +kernel) (by decide +kernel)⟩
theorem cvX10_copies : CS mX10_copies 2 := ⟨⟨gw 1171 (by decide +kernel) (by decide +kernel), wZ_X10, by decide +kernel, by decide +kernel, by decide +kernel⟩, gw 1170 (by decide +kernel) (by decide +kernel)⟩
theorem cvX10_count : CV mX10_count 1 := ⟨⟨gw 1478 (by decide +kernel) (by decide +kernel), wZ_X10, by decide +kernel, by decide +kernel, by decide +kernel⟩, gw 1476 (by decide +kernel) (by decide +kernel), gw 1477 (by decide +kernel) (by decide +kernel)⟩
theorem cvX10_countOf : CS mX10_countOf 1 := ⟨⟨gw 1310 (by decide +kernel) (by decide +kernel), wZ_X10, by decide +kernel, by decide +kernel, by decide +kernel⟩, gw 1309 (by decide +kernel) (by decide +kernel)⟩
theorem cvX10_cuts : CV mX10_cuts 0 := ⟨⟨gw 1411 (by decide +kernel) (by decide +kernel), wZ_X10, by decide +kernel, by decide +kernel, by decide +kernel⟩, gw 1409 (by decide +kernel) (by decide +kernel), gw 1410 (by decide +kernel) (by decide +kernel)⟩
theorem cvX10_diminish : CV mX10_diminish 0 := ⟨⟨gw 1295 (by decide +kernel) (by decide +kernel), wZ_X10, by decide +kernel, by decide +kernel, by decide +kernel⟩, gw 1294 (by decide +kernel) (by decide +kernel), gw 78 (by decide +kernel) (by decide +kernel)⟩
theorem cvX10_divides : CV mX10_divides 0 := ⟨⟨gw 1213 (by decide +kernel) (by decide +kernel), wZ_X10, by decide +kernel, by decide +kernel, by decide +kernel⟩, gw 1211 (by decide +kernel) (by decide +kernel), gw 1212 (by decide +kernel) (by decide +kernel)⟩
theorem cvX10_divisor : CS mX10_divisor 2 := ⟨⟨gw 1122 (by decide +kernel) (by decide +kernel), wZ_X10, by decide +kernel, by decide +kernel, by decide +kernel⟩, gw 1121 (by decide +kernel) (by decide +kernel)⟩
theorem cvX10_ends : CV mX10_ends 0 := ⟨⟨gw 1279 (by decide +kernel) (by decide +kernel), wZ_X10, by decide +kernel, by decide +kernel, by decide +kernel⟩, gw 1278 (by decide +kernel) (by decide +kernel), gw 74 (by decide +kernel) (by decide +kernel)⟩
theorem cvX10_endsText : CV mX10_endsText 1 := ⟨⟨gw 1209 (by decide +kernel) (by decide +kernel), wZ_X10, by decide +kernel, by decide +kernel, by decide +kernel⟩, gw 1208 (by decide +kernel) (by decide +kernel), gw 60 (by decide +kernel) (by decide +kernel)⟩
theorem cvX10_envies : CV mX10_envies 2 := ⟨⟨gw 1395 (by decide +kernel) (by decide +kernel), wZ_X10, by decide +kernel, by decide +kernel, by decide +kernel⟩, gw 1393 (by decide +kernel) (by decide +kernel), gw 1394 (by decide +kernel) (by decide +kernel)⟩
theorem cvX10_event : CV mX10_event 2 := ⟨⟨gw 1350 (by decide +kernel) (by decide +kernel), wZ_X10, by decide +kernel, by decide +kernel, by decide +kernel⟩, gw 1348 (by decide +kernel) (by decide +kernel), gw 1349 (by decide +kernel) (by decide +kernel)⟩
theorem cvX10_exact : CV mX10_exact 3 := ⟨⟨gw 1151 (by decide +kernel) (by decide +kernel), wZ_X10, by decide +kernel, by decide +kernel, by decide +kernel⟩, gw 1149 (by decide +kernel) (by decide +kernel), gw 1150 (by decide +kernel) (by decide +kernel)⟩
theorem cvX10_exchange : CV mX10_exchange 0 := ⟨⟨gw 1403 (by decide +kernel) (by decide +kernel), wZ_X10, by decide +kernel, by decide +kernel, by decide +kernel⟩, gw 1401 (by decide +kernel) (by decide +kernel), gw 1402 (by decide +kernel) (by decide +kernel)⟩
theorem cvX10_fair : CV mX10_fair 1 := ⟨⟨gw 1399 (by decide +kernel) (by decide +kernel), wZ_X10, by decide +kernel, by decide +kernel, by decide +kernel⟩, gw 1397 (by decide +kernel) (by decide +kernel), gw 1398 (by decide +kernel) (by decide +kernel)⟩
theorem cvX10_feed : CV mX10_feed 1 := ⟨⟨gw 1163 (by decide +kernel) (by decide +kernel), wZ_X10, by decide +kernel, by decide +kernel, by decide +kernel⟩, gw 1161 (by decide +kernel) (by decide +kernel), gw 1162 (by decide +kernel) (by decide +kernel)⟩
theorem cvX10_fresh : CV mX10_fresh 2 := ⟨⟨gw 977 (by decide +kernel) (by decide +kernel), wZ_X10, by decide +kernel, by decide +kernel, by decide +kernel⟩, gw 976 (by decide +kernel) (by decide +kernel), gw 39 (by decide +kernel) (by decide +kernel)⟩
theorem cvX10_from : CV mX10_from 3 := ⟨⟨gw 1466 (by decide +kernel) (by decide +kernel), wZ_X10, by decide +kernel, by decide +kernel, by decide +kernel⟩, gw 1464 (by decide +kernel) (by decide +kernel), gw 1465 (by decide +kernel) (by decide +kernel)⟩
theorem cvX10_get : CV mX10_get 2 := ⟨⟨gw 1454 (by decide +kernel) (by decide +kernel), wZ_X10, by decide +kernel, by decide +kernel, by decide +kernel⟩, gw 1452 (by decide +kernel) (by decide +kernel), gw 1453 (by decide +kernel) (by decide +kernel)⟩
theorem cvX10_gets : CV mX10_gets 4 := ⟨⟨gw 1383 (by decide +kernel) (by decide +kernel), wZ_X10, by decide +kernel, by decide +kernel, by decide +kernel⟩, gw 1381 (by decide +kernel) (by decide +kernel), gw 1382 (by decide +kernel) (by decide +kernel)⟩
theorem cvX10_goes : CV mX10_goes 2 := ⟨⟨gw 1259 (by decide +kernel) (by decide +kernel), wZ_X10, by decide +kernel, by decide +kernel, by decide +kernel⟩, gw 1258 (by decide +kernel) (by decide +kernel), gw 69 (by decide +kernel) (by decide +kernel)⟩
theorem cvX10_goesOn : CV mX10_goesOn 1 := ⟨⟨gw 1205 (by decide +kernel) (by decide +kernel), wZ_X10, by decide +kernel, by decide +kernel, by decide +kernel⟩, gw 1204 (by decide +kernel) (by decide +kernel), gw 59 (by decide +kernel) (by decide +kernel)⟩
theorem cvX10_halves : CV mX10_halves 0 := ⟨⟨gw 1303 (by decide +kernel) (by decide +kernel), wZ_X10, by decide +kernel, by decide +kernel, by decide +kernel⟩, gw 1302 (by decide +kernel) (by decide +kernel), gw 80 (by decide +kernel) (by decide +kernel)⟩
theorem cvX10_happens : CV mX10_happens 6 := ⟨⟨gw 1275 (by decide +kernel) (by decide +kernel), wZ_X10, by decide +kernel, by decide +kernel, by decide +kernel⟩, gw 1274 (by decide +kernel) (by decide +kernel), gw 73 (by decide +kernel) (by decide +kernel)⟩
theorem cvX10_here : CV mX10_here 0 := ⟨⟨gw 1179 (by decide +kernel) (by decide +kernel), wZ_X10, by decide +kernel, by decide +kernel, by decide +kernel⟩, gw 1178 (by decide +kernel) (by decide +kernel), gw 53 (by decide +kernel) (by decide +kernel)⟩
theorem cvX10_honest : CV mX10_honest 1 := ⟨⟨gw 1101 (by decide +kernel) (by decide +kernel), wZ_X10, by decide +kernel, by decide +kernel, by decide +kernel⟩, gw 1099 (by decide +kernel) (by decide +kernel), gw 1100 (by decide +kernel) (by decide +kernel)⟩
theorem cvX10_image : CV mX10_image 0 := ⟨⟨gw 1470 (by decide +kernel) (by decide +kernel), wZ_X10, by decide +kernel, by decide +kernel, by decide +kernel⟩, gw 1468 (by decide +kernel) (by decide +kernel), gw 1469 (by decide +kernel) (by decide +kernel)⟩
theorem cvX10_in : CS mX10_in 3 := ⟨⟨gw 1071 (by decide +kernel) (by decide +kernel), wZ_X10, by decide +kernel, by decide +kernel, by decide +kernel⟩, gw 1070 (by decide +kernel) (by decide +kernel)⟩
theorem cvX10_init : CI mX10_init 0 := ⟨⟨gw 972 (by decide +kernel) (by decide +kernel), wZ_X10, by decide +kernel, by decide +kernel, by decide +kernel⟩, gw 971 (by decide +kernel) (by decide +kernel), rfl⟩
theorem cvX10_into : CV mX10_into 3 := ⟨⟨gw 1458 (by decide +kernel) (by decide +kernel), wZ_X10, by decide +kernel, by decide +kernel, by decide +kernel⟩, gw 1456 (by decide +kernel) (by decide +kernel), gw 1457 (by decide +kernel) (by decide +kernel)⟩
theorem cvX10_isAgent : CV mX10_isAgent 1 := ⟨⟨gw 1084 (by decide +kernel) (by decide +kernel), wZ_X10, by decide +kernel, by decide +kernel, by decide +kernel⟩, gw 1083 (by decide +kernel) (by decide +kernel), gw 41 (by decide +kernel) (by decide +kernel)⟩
theorem cvX10_isDivided : CV mX10_isDivided 0 := ⟨⟨gw 1354 (by decide +kernel) (by decide +kernel), wZ_X10, by decide +kernel, by decide +kernel, by decide +kernel⟩, gw 1353 (by decide +kernel) (by decide +kernel), gw 91 (by decide +kernel) (by decide +kernel)⟩
theorem cvX10_isFigure : CV mX10_isFigure 0 := ⟨⟨gw 1195 (by decide +kernel) (by decide +kernel), wZ_X10, by decide +kernel, by decide +kernel, by decide +kernel⟩, gw 1194 (by decide +kernel) (by decide +kernel), gw 57 (by decide +kernel) (by decide +kernel)⟩
theorem cvX10_isLess : CS mX10_isLess 4 := ⟨⟨gw 1232 (by decide +kernel) (by decide +kernel), wZ_X10, by decide +kernel, by decide +kernel, by decide +kernel⟩, gw 1231 (by decide +kernel) (by decide +kernel)⟩
theorem cvX10_isList : CS mX10_isList 1 := ⟨⟨gw 1446 (by decide +kernel) (by decide +kernel), wZ_X10, by decide +kernel, by decide +kernel, by decide +kernel⟩, gw 1445 (by decide +kernel) (by decide +kernel)⟩
theorem cvX10_isStrip : CV mX10_isStrip 1 := ⟨⟨gw 1088 (by decide +kernel) (by decide +kernel), wZ_X10, by decide +kernel, by decide +kernel, by decide +kernel⟩, gw 1087 (by decide +kernel) (by decide +kernel), gw 42 (by decide +kernel) (by decide +kernel)⟩
theorem cvX10_knife : CV mX10_knife 0 := ⟨⟨gw 1287 (by decide +kernel) (by decide +kernel), wZ_X10, by decide +kernel, by decide +kernel, by decide +kernel⟩, gw 1286 (by decide +kernel) (by decide +kernel), gw 76 (by decide +kernel) (by decide +kernel)⟩
theorem cvX10_lastOf : CV mX10_lastOf 1 := ⟨⟨gw 1291 (by decide +kernel) (by decide +kernel), wZ_X10, by decide +kernel, by decide +kernel, by decide +kernel⟩, gw 1290 (by decide +kernel) (by decide +kernel), gw 77 (by decide +kernel) (by decide +kernel)⟩
theorem cvX10_lays : CV mX10_lays 5 := ⟨⟨gw 1307 (by decide +kernel) (by decide +kernel), wZ_X10, by decide +kernel, by decide +kernel, by decide +kernel⟩, gw 1306 (by decide +kernel) (by decide +kernel), gw 81 (by decide +kernel) (by decide +kernel)⟩
theorem cvX10_leastOf : CV mX10_leastOf 1 := ⟨⟨gw 1318 (by decide +kernel) (by decide +kernel), wZ_X10, by decide +kernel, by decide +kernel, by decide +kernel⟩, gw 1317 (by decide +kernel) (by decide +kernel), gw 83 (by decide +kernel) (by decide +kernel)⟩
theorem cvX10_lie : CV mX10_lie 4 := ⟨⟨gw 1427 (by decide +kernel) (by decide +kernel), wZ_X10, by decide +kernel, by decide +kernel, by decide +kernel⟩, gw 1425 (by decide +kernel) (by decide +kernel), gw 1426 (by decide +kernel) (by decide +kernel)⟩
theorem cvX10_list : CV mX10_list 2 := ⟨⟨gw 1443 (by decide +kernel) (by decide +kernel), wZ_X10, by decide +kernel, by decide +kernel, by decide +kernel⟩, gw 1441 (by decide +kernel) (by decide +kernel), gw 1442 (by decide +kernel) (by decide +kernel)⟩
theorem cvX10_looks : CV mX10_looks 5 := ⟨⟨gw 1299 (by decide +kernel) (by decide +kernel), wZ_X10, by decide +kernel, by decide +kernel, by decide +kernel⟩, gw 1298 (by decide +kernel) (by decide +kernel), gw 79 (by decide +kernel) (by decide +kernel)⟩
theorem cvX10_mark : CV mX10_mark 6 := ⟨⟨gw 1138 (by decide +kernel) (by decide +kernel), wZ_X10, by decide +kernel, by decide +kernel, by decide +kernel⟩, gw 1136 (by decide +kernel) (by decide +kernel), gw 1137 (by decide +kernel) (by decide +kernel)⟩
theorem cvX10_marks : CV mX10_marks 5 := ⟨⟨gw 1147 (by decide +kernel) (by decide +kernel), wZ_X10, by decide +kernel, by decide +kernel, by decide +kernel⟩, gw 1146 (by decide +kernel) (by decide +kernel), gw 50 (by decide +kernel) (by decide +kernel)⟩
theorem cvX10_marksPoint : CV mX10_marksPoint 6 := ⟨⟨gw 1271 (by decide +kernel) (by decide +kernel), wZ_X10, by decide +kernel, by decide +kernel, by decide +kernel⟩, gw 1270 (by decide +kernel) (by decide +kernel), gw 72 (by decide +kernel) (by decide +kernel)⟩
theorem cvX10_mayLie : CV mX10_mayLie 3 := ⟨⟨gw 1431 (by decide +kernel) (by decide +kernel), wZ_X10, by decide +kernel, by decide +kernel, by decide +kernel⟩, gw 1430 (by decide +kernel) (by decide +kernel), gw 99 (by decide +kernel) (by decide +kernel)⟩
theorem cvX10_mayRow : CV mX10_mayRow 3 := ⟨⟨gw 1462 (by decide +kernel) (by decide +kernel), wZ_X10, by decide +kernel, by decide +kernel, by decide +kernel⟩, gw 1461 (by decide +kernel) (by decide +kernel), gw 101 (by decide +kernel) (by decide +kernel)⟩
theorem cvX10_mayWay : CV mX10_mayWay 2 := ⟨⟨gw 1254 (by decide +kernel) (by decide +kernel), wZ_X10, by decide +kernel, by decide +kernel, by decide +kernel⟩, gw 1253 (by decide +kernel) (by decide +kernel), gw 68 (by decide +kernel) (by decide +kernel)⟩
theorem cvX10_mostFor : CV mX10_mostFor 2 := ⟨⟨gw 1334 (by decide +kernel) (by decide +kernel), wZ_X10, by decide +kernel, by decide +kernel, by decide +kernel⟩, gw 1333 (by decide +kernel) (by decide +kernel), gw 87 (by decide +kernel) (by decide +kernel)⟩
theorem cvX10_number : CV mX10_number 1 := ⟨⟨gw 1191 (by decide +kernel) (by decide +kernel), wZ_X10, by decide +kernel, by decide +kernel, by decide +kernel⟩, gw 1190 (by decide +kernel) (by decide +kernel), gw 56 (by decide +kernel) (by decide +kernel)⟩
theorem cvX10_off : CV mX10_off 3 := ⟨⟨gw 1415 (by decide +kernel) (by decide +kernel), wZ_X10, by decide +kernel, by decide +kernel, by decide +kernel⟩, gw 1413 (by decide +kernel) (by decide +kernel), gw 1414 (by decide +kernel) (by decide +kernel)⟩
theorem cvX10_ordered : CV mX10_ordered 1 := ⟨⟨gw 1267 (by decide +kernel) (by decide +kernel), wZ_X10, by decide +kernel, by decide +kernel, by decide +kernel⟩, gw 1266 (by decide +kernel) (by decide +kernel), gw 71 (by decide +kernel) (by decide +kernel)⟩
theorem cvX10_pairOf : CV mX10_pairOf 5 := ⟨⟨gw 1159 (by decide +kernel) (by decide +kernel), wZ_X10, by decide +kernel, by decide +kernel, by decide +kernel⟩, gw 1158 (by decide +kernel) (by decide +kernel), gw 51 (by decide +kernel) (by decide +kernel)⟩
theorem cvX10_paper : CV mX10_paper 1 := ⟨⟨gw 1379 (by decide +kernel) (by decide +kernel), wZ_X10, by decide +kernel, by decide +kernel, by decide +kernel⟩, gw 1377 (by decide +kernel) (by decide +kernel), gw 1378 (by decide +kernel) (by decide +kernel)⟩
theorem cvX10_partOf : CV mX10_partOf 1 := ⟨⟨gw 1134 (by decide +kernel) (by decide +kernel), wZ_X10, by decide +kernel, by decide +kernel, by decide +kernel⟩, gw 1133 (by decide +kernel) (by decide +kernel), gw 48 (by decide +kernel) (by decide +kernel)⟩
theorem cvX10_parts : CV mX10_parts 5 := ⟨⟨gw 1314 (by decide +kernel) (by decide +kernel), wZ_X10, by decide +kernel, by decide +kernel, by decide +kernel⟩, gw 1313 (by decide +kernel) (by decide +kernel), gw 82 (by decide +kernel) (by decide +kernel)⟩
theorem cvX10_pieces : CV mX10_pieces 5 := ⟨⟨gw 1330 (by decide +kernel) (by decide +kernel), wZ_X10, by decide +kernel, by decide +kernel, by decide +kernel⟩, gw 1329 (by decide +kernel) (by decide +kernel), gw 86 (by decide +kernel) (by decide +kernel)⟩
theorem cvX10_prints : CV mX10_prints 1 := ⟨⟨gw 1366 (by decide +kernel) (by decide +kernel), wZ_X10, by decide +kernel, by decide +kernel, by decide +kernel⟩, gw 1365 (by decide +kernel) (by decide +kernel), gw 92 (by decide +kernel) (by decide +kernel)⟩
theorem cvX10_printsNumber : CV mX10_printsNumber 1 := ⟨⟨gw 1370 (by decide +kernel) (by decide +kernel), wZ_X10, by decide +kernel, by decide +kernel, by decide +kernel⟩, gw 1369 (by decide +kernel) (by decide +kernel), gw 93 (by decide +kernel) (by decide +kernel)⟩
theorem cvX10_printsPoint : CV mX10_printsPoint 1 := ⟨⟨gw 1375 (by decide +kernel) (by decide +kernel), wZ_X10, by decide +kernel, by decide +kernel, by decide +kernel⟩, gw 1374 (by decide +kernel) (by decide +kernel), gw 94 (by decide +kernel) (by decide +kernel)⟩
theorem cvX10_prints_ : CV mX10_prints_ 0 := ⟨⟨gw 1362 (by decide +kernel) (by decide +kernel), wZ_X10, by decide +kernel, by decide +kernel, by decide +kernel⟩, gw 1360 (by decide +kernel) (by decide +kernel), gw 1361 (by decide +kernel) (by decide +kernel)⟩
theorem cvX10_readPoint : CV mX10_readPoint 0 := ⟨⟨gw 1229 (by decide +kernel) (by decide +kernel), wZ_X10, by decide +kernel, by decide +kernel, by decide +kernel⟩, gw 1228 (by decide +kernel) (by decide +kernel), gw 64 (by decide +kernel) (by decide +kernel)⟩
theorem cvX10_readShare : CV mX10_readShare 0 := ⟨⟨gw 1221 (by decide +kernel) (by decide +kernel), wZ_X10, by decide +kernel, by decide +kernel, by decide +kernel⟩, gw 1220 (by decide +kernel) (by decide +kernel), gw 62 (by decide +kernel) (by decide +kernel)⟩
theorem cvX10_readSpan : CV mX10_readSpan 1 := ⟨⟨gw 1225 (by decide +kernel) (by decide +kernel), wZ_X10, by decide +kernel, by decide +kernel, by decide +kernel⟩, gw 1224 (by decide +kernel) (by decide +kernel), gw 63 (by decide +kernel) (by decide +kernel)⟩
theorem cvX10_readWorths : CV mX10_readWorths 0 := ⟨⟨gw 1175 (by decide +kernel) (by decide +kernel), wZ_X10, by decide +kernel, by decide +kernel, by decide +kernel⟩, gw 1174 (by decide +kernel) (by decide +kernel), gw 52 (by decide +kernel) (by decide +kernel)⟩
theorem cvX10_scaled : CV mX10_scaled 3 := ⟨⟨gw 1391 (by decide +kernel) (by decide +kernel), wZ_X10, by decide +kernel, by decide +kernel, by decide +kernel⟩, gw 1390 (by decide +kernel) (by decide +kernel), gw 96 (by decide +kernel) (by decide +kernel)⟩
theorem cvX10_set : CV mX10_set 3 := ⟨⟨gw 1450 (by decide +kernel) (by decide +kernel), wZ_X10, by decide +kernel, by decide +kernel, by decide +kernel⟩, gw 1448 (by decide +kernel) (by decide +kernel), gw 1449 (by decide +kernel) (by decide +kernel)⟩
theorem cvX10_share : CV mX10_share 3 := ⟨⟨gw 1358 (by decide +kernel) (by decide +kernel), wZ_X10, by decide +kernel, by decide +kernel, by decide +kernel⟩, gw 1356 (by decide +kernel) (by decide +kernel), gw 1357 (by decide +kernel) (by decide +kernel)⟩
theorem cvX10_shares : CV mX10_shares 2 := ⟨⟨gw 1250 (by decide +kernel) (by decide +kernel), wZ_X10, by decide +kernel, by decide +kernel, by decide +kernel⟩, gw 1248 (by decide +kernel) (by decide +kernel), gw 1249 (by decide +kernel) (by decide +kernel)⟩
theorem cvX10_sharesTrimmings : CV mX10_sharesTrimmings 7 := ⟨⟨gw 1346 (by decide +kernel) (by decide +kernel), wZ_X10, by decide +kernel, by decide +kernel, by decide +kernel⟩, gw 1345 (by decide +kernel) (by decide +kernel), gw 90 (by decide +kernel) (by decide +kernel)⟩
theorem cvX10_span : CV mX10_span 7 := ⟨⟨gw 1113 (by decide +kernel) (by decide +kernel), wZ_X10, by decide +kernel, by decide +kernel, by decide +kernel⟩, gw 1111 (by decide +kernel) (by decide +kernel), gw 1112 (by decide +kernel) (by decide +kernel)⟩
theorem cvX10_strip : CV mX10_strip 3 := ⟨⟨gw 1109 (by decide +kernel) (by decide +kernel), wZ_X10, by decide +kernel, by decide +kernel, by decide +kernel⟩, gw 1107 (by decide +kernel) (by decide +kernel), gw 1108 (by decide +kernel) (by decide +kernel)⟩
theorem cvX10_strips : CV mX10_strips 0 := ⟨⟨gw 1105 (by decide +kernel) (by decide +kernel), wZ_X10, by decide +kernel, by decide +kernel, by decide +kernel⟩, gw 1104 (by decide +kernel) (by decide +kernel), gw 44 (by decide +kernel) (by decide +kernel)⟩
theorem cvX10_takes : CV mX10_takes 5 := ⟨⟨gw 1283 (by decide +kernel) (by decide +kernel), wZ_X10, by decide +kernel, by decide +kernel, by decide +kernel⟩, gw 1282 (by decide +kernel) (by decide +kernel), gw 75 (by decide +kernel) (by decide +kernel)⟩
theorem cvX10_takesPiece : CV mX10_takesPiece 2 := ⟨⟨gw 1342 (by decide +kernel) (by decide +kernel), wZ_X10, by decide +kernel, by decide +kernel, by decide +kernel⟩, gw 1341 (by decide +kernel) (by decide +kernel), gw 89 (by decide +kernel) (by decide +kernel)⟩
theorem cvX10_tells : CV mX10_tells 3 := ⟨⟨gw 1097 (by decide +kernel) (by decide +kernel), wZ_X10, by decide +kernel, by decide +kernel, by decide +kernel⟩, gw 1095 (by decide +kernel) (by decide +kernel), gw 1096 (by decide +kernel) (by decide +kernel)⟩
theorem cvX10_tellsMore : CV mX10_tellsMore 3 := ⟨⟨gw 1435 (by decide +kernel) (by decide +kernel), wZ_X10, by decide +kernel, by decide +kernel, by decide +kernel⟩, gw 1434 (by decide +kernel) (by decide +kernel), gw 100 (by decide +kernel) (by decide +kernel)⟩
theorem cvX10_thirds : CV mX10_thirds 5 := ⟨⟨gw 1326 (by decide +kernel) (by decide +kernel), wZ_X10, by decide +kernel, by decide +kernel, by decide +kernel⟩, gw 1325 (by decide +kernel) (by decide +kernel), gw 85 (by decide +kernel) (by decide +kernel)⟩
theorem cvX10_trims : CV mX10_trims 0 := ⟨⟨gw 1322 (by decide +kernel) (by decide +kernel), wZ_X10, by decide +kernel, by decide +kernel, by decide +kernel⟩, gw 1321 (by decide +kernel) (by decide +kernel), gw 84 (by decide +kernel) (by decide +kernel)⟩
theorem cvX10_undivided : CV mX10_undivided 0 := ⟨⟨gw 1217 (by decide +kernel) (by decide +kernel), wZ_X10, by decide +kernel, by decide +kernel, by decide +kernel⟩, gw 1216 (by decide +kernel) (by decide +kernel), gw 61 (by decide +kernel) (by decide +kernel)⟩
theorem cvX10_unites : CV mX10_unites 1 := ⟨⟨gw 1244 (by decide +kernel) (by decide +kernel), wZ_X10, by decide +kernel, by decide +kernel, by decide +kernel⟩, gw 1243 (by decide +kernel) (by decide +kernel), gw 67 (by decide +kernel) (by decide +kernel)⟩
theorem cvX10_wants : CV mX10_wants 1 := ⟨⟨gw 1201 (by decide +kernel) (by decide +kernel), wZ_X10, by decide +kernel, by decide +kernel, by decide +kernel⟩, gw 1200 (by decide +kernel) (by decide +kernel), gw 58 (by decide +kernel) (by decide +kernel)⟩
theorem cvX10_worth : CV mX10_worth 3 := ⟨⟨gw 1080 (by decide +kernel) (by decide +kernel), wZ_X10, by decide +kernel, by decide +kernel, by decide +kernel⟩, gw 1078 (by decide +kernel) (by decide +kernel), gw 1079 (by decide +kernel) (by decide +kernel)⟩
theorem cvX10_worthBetween : CV mX10_worthBetween 6 := ⟨⟨gw 1119 (by decide +kernel) (by decide +kernel), wZ_X10, by decide +kernel, by decide +kernel, by decide +kernel⟩, gw 1118 (by decide +kernel) (by decide +kernel), gw 45 (by decide +kernel) (by decide +kernel)⟩
theorem cvX10_worthOf : CV mX10_worthOf 3 := ⟨⟨gw 1093 (by decide +kernel) (by decide +kernel), wZ_X10, by decide +kernel, by decide +kernel, by decide +kernel⟩, gw 1092 (by decide +kernel) (by decide +kernel), gw 43 (by decide +kernel) (by decide +kernel)⟩
theorem cvX10_worthOfPiece : CV mX10_worthOfPiece 2 := ⟨⟨gw 1338 (by decide +kernel) (by decide +kernel), wZ_X10, by decide +kernel, by decide +kernel, by decide +kernel⟩, gw 1337 (by decide +kernel) (by decide +kernel), gw 88 (by decide +kernel) (by decide +kernel)⟩
theorem cvX10_worthOfShare : CV mX10_worthOfShare 3 := ⟨⟨gw 1387 (by decide +kernel) (by decide +kernel), wZ_X10, by decide +kernel, by decide +kernel, by decide +kernel⟩, gw 1386 (by decide +kernel) (by decide +kernel), gw 95 (by decide +kernel) (by decide +kernel)⟩
theorem cvX10_worths : CV mX10_worths 0 := ⟨⟨gw 1168 (by decide +kernel) (by decide +kernel), wZ_X10, by decide +kernel, by decide +kernel, by decide +kernel⟩, gw 1166 (by decide +kernel) (by decide +kernel), gw 1167 (by decide +kernel) (by decide +kernel)⟩
theorem cvX10_would : CV mX10_would 4 := ⟨⟨gw 1419 (by decide +kernel) (by decide +kernel), wZ_X10, by decide +kernel, by decide +kernel, by decide +kernel⟩, gw 1417 (by decide +kernel) (by decide +kernel), gw 1418 (by decide +kernel) (by decide +kernel)⟩
theorem cvX10_wouldBring : CV mX10_wouldBring 3 := ⟨⟨gw 1423 (by decide +kernel) (by decide +kernel), wZ_X10, by decide +kernel, by decide +kernel, by decide +kernel⟩, gw 1422 (by decide +kernel) (by decide +kernel), gw 98 (by decide +kernel) (by decide +kernel)⟩
theorem cvX1_bestExchange : CV mX1_bestExchange 1 := ⟨⟨gw 854 (by decide +kernel) (by decide +kernel), wZ_X1, by decide +kernel, by decide +kernel, by decide +kernel⟩, gw 852 (by decide +kernel) (by decide +kernel), gw 853 (by decide +kernel) (by decide +kernel)⟩
theorem cvX1_clear : CV mX1_clear 0 := ⟨⟨gw 243 (by decide +kernel) (by decide +kernel), wZ_X1, by decide +kernel, by decide +kernel, by decide +kernel⟩, gw 241 (by decide +kernel) (by decide +kernel), gw 242 (by decide +kernel) (by decide +kernel)⟩
theorem cvX1_copy : CV mX1_copy 1 := ⟨⟨gw 651 (by decide +kernel) (by decide +kernel), wZ_X1, by decide +kernel, by decide +kernel, by decide +kernel⟩, gw 649 (by decide +kernel) (by decide +kernel), gw 650 (by decide +kernel) (by decide +kernel)⟩
theorem cvX1_countCuts : CV mX1_countCuts 1 := ⟨⟨gw 871 (by decide +kernel) (by decide +kernel), wZ_X1, by decide +kernel, by decide +kernel, by decide +kernel⟩, gw 869 (by decide +kernel) (by decide +kernel), gw 870 (by decide +kernel) (by decide +kernel)⟩
theorem cvX1_figures : CS mX1_figures 2 := ⟨⟨gw 863 (by decide +kernel) (by decide +kernel), wZ_X1, by decide +kernel, by decide +kernel, by decide +kernel⟩, gw 862 (by decide +kernel) (by decide +kernel)⟩
theorem cvX1_give : CV mX1_give 3 := ⟨⟨gw 635 (by decide +kernel) (by decide +kernel), wZ_X1, by decide +kernel, by decide +kernel, by decide +kernel⟩, gw 633 (by decide +kernel) (by decide +kernel), gw 634 (by decide +kernel) (by decide +kernel)⟩
theorem cvX1_held : CV mX1_held 2 := ⟨⟨gw 624 (by decide +kernel) (by decide +kernel), wZ_X1, by decide +kernel, by decide +kernel, by decide +kernel⟩, gw 622 (by decide +kernel) (by decide +kernel), gw 623 (by decide +kernel) (by decide +kernel)⟩
theorem cvX1_holds : CV mX1_holds 3 := ⟨⟨gw 837 (by decide +kernel) (by decide +kernel), wZ_X1, by decide +kernel, by decide +kernel, by decide +kernel⟩, gw 835 (by decide +kernel) (by decide +kernel), gw 836 (by decide +kernel) (by decide +kernel)⟩
theorem cvX1_init : CI mX1_init 0 := ⟨⟨gw 166 (by decide +kernel) (by decide +kernel), wZ_X1, by decide +kernel, by decide +kernel, by decide +kernel⟩, gw 165 (by decide +kernel) (by decide +kernel), rfl⟩
theorem cvX1_leftOver : CV mX1_leftOver 2 := ⟨⟨gw 892 (by decide +kernel) (by decide +kernel), wZ_X1, by decide +kernel, by decide +kernel, by decide +kernel⟩, gw 890 (by decide +kernel) (by decide +kernel), gw 891 (by decide +kernel) (by decide +kernel)⟩
theorem cvX1_note : CV mX1_note 4 := ⟨⟨gw 731 (by decide +kernel) (by decide +kernel), wZ_X1, by decide +kernel, by decide +kernel, by decide +kernel⟩, gw 729 (by decide +kernel) (by decide +kernel), gw 730 (by decide +kernel) (by decide +kernel)⟩
theorem cvX1_overlaps : CV mX1_overlaps 1 := ⟨⟨gw 615 (by decide +kernel) (by decide +kernel), wZ_X1, by decide +kernel, by decide +kernel, by decide +kernel⟩, gw 613 (by decide +kernel) (by decide +kernel), gw 614 (by decide +kernel) (by decide +kernel)⟩
theorem cvX1_see : CV mX1_see 3 := ⟨⟨gw 875 (by decide +kernel) (by decide +kernel), wZ_X1, by decide +kernel, by decide +kernel, by decide +kernel⟩, gw 874 (by decide +kernel) (by decide +kernel), gw 36 (by decide +kernel) (by decide +kernel)⟩
theorem cvX1_takesIn : CV mX1_takesIn 1 := ⟨⟨gw 629 (by decide +kernel) (by decide +kernel), wZ_X1, by decide +kernel, by decide +kernel, by decide +kernel⟩, gw 627 (by decide +kernel) (by decide +kernel), gw 628 (by decide +kernel) (by decide +kernel)⟩
theorem cvX1_together : CV mX1_together 2 := ⟨⟨gw 860 (by decide +kernel) (by decide +kernel), wZ_X1, by decide +kernel, by decide +kernel, by decide +kernel⟩, gw 859 (by decide +kernel) (by decide +kernel), gw 35 (by decide +kernel) (by decide +kernel)⟩
theorem cvX1_trimmedOff : CV mX1_trimmedOff 2 := ⟨⟨gw 888 (by decide +kernel) (by decide +kernel), wZ_X1, by decide +kernel, by decide +kernel, by decide +kernel⟩, gw 886 (by decide +kernel) (by decide +kernel), gw 887 (by decide +kernel) (by decide +kernel)⟩
theorem cvX2_copy : CV mX2_copy 1 := ⟨⟨gw 655 (by decide +kernel) (by decide +kernel), wZ_X2, by decide +kernel, by decide +kernel, by decide +kernel⟩, gw 653 (by decide +kernel) (by decide +kernel), gw 654 (by decide +kernel) (by decide +kernel)⟩
theorem cvX2_init : CI mX2_init 0 := ⟨⟨gw 196 (by decide +kernel) (by decide +kernel), wZ_X2, by decide +kernel, by decide +kernel, by decide +kernel⟩, gw 195 (by decide +kernel) (by decide +kernel), rfl⟩
theorem cvX2_part : CV mX2_part 1 := ⟨⟨gw 823 (by decide +kernel) (by decide +kernel), wZ_X2, by decide +kernel, by decide +kernel, by decide +kernel⟩, gw 821 (by decide +kernel) (by decide +kernel), gw 822 (by decide +kernel) (by decide +kernel)⟩
theorem cvX3_copy : CV mX3_copy 1 := ⟨⟨gw 643 (by decide +kernel) (by decide +kernel), wZ_X3, by decide +kernel, by decide +kernel, by decide +kernel⟩, gw 641 (by decide +kernel) (by decide +kernel), gw 642 (by decide +kernel) (by decide +kernel)⟩
theorem cvX3_init : CI mX3_init 0 := ⟨⟨gw 177 (by decide +kernel) (by decide +kernel), wZ_X3, by decide +kernel, by decide +kernel, by decide +kernel⟩, gw 176 (by decide +kernel) (by decide +kernel), rfl⟩
theorem cvX3_isAt : CV mX3_isAt 2 := ⟨⟨gw 879 (by decide +kernel) (by decide +kernel), wZ_X3, by decide +kernel, by decide +kernel, by decide +kernel⟩, gw 877 (by decide +kernel) (by decide +kernel), gw 878 (by decide +kernel) (by decide +kernel)⟩
theorem cvX3_isBelow : CV mX3_isBelow 1 := ⟨⟨gw 611 (by decide +kernel) (by decide +kernel), wZ_X3, by decide +kernel, by decide +kernel, by decide +kernel⟩, gw 609 (by decide +kernel) (by decide +kernel), gw 610 (by decide +kernel) (by decide +kernel)⟩
theorem cvX3_part : CV mX3_part 1 := ⟨⟨gw 509 (by decide +kernel) (by decide +kernel), wZ_X3, by decide +kernel, by decide +kernel, by decide +kernel⟩, gw 507 (by decide +kernel) (by decide +kernel), gw 508 (by decide +kernel) (by decide +kernel)⟩
theorem cvX3_parts : CV mX3_parts 1 := ⟨⟨gw 543 (by decide +kernel) (by decide +kernel), wZ_X3, by decide +kernel, by decide +kernel, by decide +kernel⟩, gw 541 (by decide +kernel) (by decide +kernel), gw 542 (by decide +kernel) (by decide +kernel)⟩
theorem cvX3_put : CV mX3_put 2 := ⟨⟨gw 502 (by decide +kernel) (by decide +kernel), wZ_X3, by decide +kernel, by decide +kernel, by decide +kernel⟩, gw 500 (by decide +kernel) (by decide +kernel), gw 501 (by decide +kernel) (by decide +kernel)⟩
theorem cvX4_hasPlace : CV mX4_hasPlace 2 := ⟨⟨gw 939 (by decide +kernel) (by decide +kernel), wZ_X4, by decide +kernel, by decide +kernel, by decide +kernel⟩, gw 937 (by decide +kernel) (by decide +kernel), gw 938 (by decide +kernel) (by decide +kernel)⟩
theorem cvX4_init : CI mX4_init 0 := ⟨⟨gw 381 (by decide +kernel) (by decide +kernel), wZ_X4, by decide +kernel, by decide +kernel, by decide +kernel⟩, gw 380 (by decide +kernel) (by decide +kernel), rfl⟩
theorem cvX4_isLaid : CV mX4_isLaid 1 := ⟨⟨gw 935 (by decide +kernel) (by decide +kernel), wZ_X4, by decide +kernel, by decide +kernel, by decide +kernel⟩, gw 933 (by decide +kernel) (by decide +kernel), gw 934 (by decide +kernel) (by decide +kernel)⟩
theorem cvX4_isRow : CV mX4_isRow 1 := ⟨⟨gw 923 (by decide +kernel) (by decide +kernel), wZ_X4, by decide +kernel, by decide +kernel, by decide +kernel⟩, gw 921 (by decide +kernel) (by decide +kernel), gw 922 (by decide +kernel) (by decide +kernel)⟩
theorem cvX4_lay : CV mX4_lay 2 := ⟨⟨gw 927 (by decide +kernel) (by decide +kernel), wZ_X4, by decide +kernel, by decide +kernel, by decide +kernel⟩, gw 925 (by decide +kernel) (by decide +kernel), gw 926 (by decide +kernel) (by decide +kernel)⟩
theorem cvX5_agentAt : CV mX5_agentAt 1 := ⟨⟨gw 716 (by decide +kernel) (by decide +kernel), wZ_X5, by decide +kernel, by decide +kernel, by decide +kernel⟩, gw 715 (by decide +kernel) (by decide +kernel), gw 16 (by decide +kernel) (by decide +kernel)⟩
theorem cvX5_cutAndChoose : CV mX5_cutAndChoose 0 := ⟨⟨gw 712 (by decide +kernel) (by decide +kernel), wZ_X5, by decide +kernel, by decide +kernel, by decide +kernel⟩, gw 711 (by decide +kernel) (by decide +kernel), gw 15 (by decide +kernel) (by decide +kernel)⟩
theorem cvX5_cutAndTrim : CV mX5_cutAndTrim 0 := ⟨⟨gw 796 (by decide +kernel) (by decide +kernel), wZ_X5, by decide +kernel, by decide +kernel, by decide +kernel⟩, gw 795 (by decide +kernel) (by decide +kernel), gw 30 (by decide +kernel) (by decide +kernel)⟩
theorem cvX5_cutInThree : CV mX5_cutInThree 2 := ⟨⟨gw 800 (by decide +kernel) (by decide +kernel), wZ_X5, by decide +kernel, by decide +kernel, by decide +kernel⟩, gw 799 (by decide +kernel) (by decide +kernel), gw 31 (by decide +kernel) (by decide +kernel)⟩
theorem cvX5_diminish : CV mX5_diminish 0 := ⟨⟨gw 774 (by decide +kernel) (by decide +kernel), wZ_X5, by decide +kernel, by decide +kernel, by decide +kernel⟩, gw 773 (by decide +kernel) (by decide +kernel), gw 26 (by decide +kernel) (by decide +kernel)⟩
theorem cvX5_everyone : CV mX5_everyone 0 := ⟨⟨gw 749 (by decide +kernel) (by decide +kernel), wZ_X5, by decide +kernel, by decide +kernel, by decide +kernel⟩, gw 748 (by decide +kernel) (by decide +kernel), gw 21 (by decide +kernel) (by decide +kernel)⟩
theorem cvX5_firstOf : CV mX5_firstOf 1 := ⟨⟨gw 764 (by decide +kernel) (by decide +kernel), wZ_X5, by decide +kernel, by decide +kernel, by decide +kernel⟩, gw 763 (by decide +kernel) (by decide +kernel), gw 24 (by decide +kernel) (by decide +kernel)⟩
theorem cvX5_halve : CV mX5_halve 0 := ⟨⟨gw 782 (by decide +kernel) (by decide +kernel), wZ_X5, by decide +kernel, by decide +kernel, by decide +kernel⟩, gw 781 (by decide +kernel) (by decide +kernel), gw 28 (by decide +kernel) (by decide +kernel)⟩
theorem cvX5_has : CV mX5_has 2 := ⟨⟨gw 736 (by decide +kernel) (by decide +kernel), wZ_X5, by decide +kernel, by decide +kernel, by decide +kernel⟩, gw 735 (by decide +kernel) (by decide +kernel), gw 18 (by decide +kernel) (by decide +kernel)⟩
theorem cvX5_init : CI mX5_init 2 := ⟨⟨gw 288 (by decide +kernel) (by decide +kernel), wZ_X5, by decide +kernel, by decide +kernel, by decide +kernel⟩, gw 287 (by decide +kernel) (by decide +kernel), rfl⟩
theorem cvX5_isIn : CS mX5_isIn 2 := ⟨⟨gw 756 (by decide +kernel) (by decide +kernel), wZ_X5, by decide +kernel, by decide +kernel, by decide +kernel⟩, gw 755 (by decide +kernel) (by decide +kernel)⟩
theorem cvX5_leastMark : CV mX5_leastMark 1 := ⟨⟨gw 760 (by decide +kernel) (by decide +kernel), wZ_X5, by decide +kernel, by decide +kernel, by decide +kernel⟩, gw 759 (by decide +kernel) (by decide +kernel), gw 23 (by decide +kernel) (by decide +kernel)⟩
theorem cvX5_markAll : CV mX5_markAll 4 := ⟨⟨gw 753 (by decide +kernel) (by decide +kernel), wZ_X5, by decide +kernel, by decide +kernel, by decide +kernel⟩, gw 752 (by decide +kernel) (by decide +kernel), gw 22 (by decide +kernel) (by decide +kernel)⟩
theorem cvX5_mostOf : CV mX5_mostOf 2 := ⟨⟨gw 804 (by decide +kernel) (by decide +kernel), wZ_X5, by decide +kernel, by decide +kernel, by decide +kernel⟩, gw 803 (by decide +kernel) (by decide +kernel), gw 32 (by decide +kernel) (by decide +kernel)⟩
theorem cvX5_moveKnife : CV mX5_moveKnife 0 := ⟨⟨gw 745 (by decide +kernel) (by decide +kernel), wZ_X5, by decide +kernel, by decide +kernel, by decide +kernel⟩, gw 744 (by decide +kernel) (by decide +kernel), gw 20 (by decide +kernel) (by decide +kernel)⟩
theorem cvX5_othersBehind : CV mX5_othersBehind 3 := ⟨⟨gw 792 (by decide +kernel) (by decide +kernel), wZ_X5, by decide +kernel, by decide +kernel, by decide +kernel⟩, gw 791 (by decide +kernel) (by decide +kernel), gw 29 (by decide +kernel) (by decide +kernel)⟩
theorem cvX5_partTrimmings : CV mX5_partTrimmings 0 := ⟨⟨gw 815 (by decide +kernel) (by decide +kernel), wZ_X5, by decide +kernel, by decide +kernel, by decide +kernel⟩, gw 814 (by decide +kernel) (by decide +kernel), gw 34 (by decide +kernel) (by decide +kernel)⟩
theorem cvX5_putMark : CV mX5_putMark 6 := ⟨⟨gw 720 (by decide +kernel) (by decide +kernel), wZ_X5, by decide +kernel, by decide +kernel, by decide +kernel⟩, gw 719 (by decide +kernel) (by decide +kernel), gw 17 (by decide +kernel) (by decide +kernel)⟩
theorem cvX5_run : CV mX5_run 2 := ⟨⟨gw 705 (by decide +kernel) (by decide +kernel), wZ_X5, by decide +kernel, by decide +kernel, by decide +kernel⟩, gw 703 (by decide +kernel) (by decide +kernel), gw 704 (by decide +kernel) (by decide +kernel)⟩
theorem cvX5_takePiece : CV mX5_takePiece 2 := ⟨⟨gw 740 (by decide +kernel) (by decide +kernel), wZ_X5, by decide +kernel, by decide +kernel, by decide +kernel⟩, gw 739 (by decide +kernel) (by decide +kernel), gw 19 (by decide +kernel) (by decide +kernel)⟩
theorem cvX5_takePieces : CV mX5_takePieces 0 := ⟨⟨gw 811 (by decide +kernel) (by decide +kernel), wZ_X5, by decide +kernel, by decide +kernel, by decide +kernel⟩, gw 810 (by decide +kernel) (by decide +kernel), gw 33 (by decide +kernel) (by decide +kernel)⟩
theorem cvX5_takeRestTo : CV mX5_takeRestTo 2 := ⟨⟨gw 769 (by decide +kernel) (by decide +kernel), wZ_X5, by decide +kernel, by decide +kernel, by decide +kernel⟩, gw 768 (by decide +kernel) (by decide +kernel), gw 25 (by decide +kernel) (by decide +kernel)⟩
theorem cvX5_trimOrPass : CV mX5_trimOrPass 3 := ⟨⟨gw 778 (by decide +kernel) (by decide +kernel), wZ_X5, by decide +kernel, by decide +kernel, by decide +kernel⟩, gw 777 (by decide +kernel) (by decide +kernel), gw 27 (by decide +kernel) (by decide +kernel)⟩
theorem cvX6_add : CV mX6_add 1 := ⟨⟨gw 676 (by decide +kernel) (by decide +kernel), wZ_X6, by decide +kernel, by decide +kernel, by decide +kernel⟩, gw 675 (by decide +kernel) (by decide +kernel), gw 11 (by decide +kernel) (by decide +kernel)⟩
theorem cvX6_addEvent : CV mX6_addEvent 1 := ⟨⟨gw 669 (by decide +kernel) (by decide +kernel), wZ_X6, by decide +kernel, by decide +kernel, by decide +kernel⟩, gw 667 (by decide +kernel) (by decide +kernel), gw 668 (by decide +kernel) (by decide +kernel)⟩
theorem cvX6_addNumber : CV mX6_addNumber 1 := ⟨⟨gw 680 (by decide +kernel) (by decide +kernel), wZ_X6, by decide +kernel, by decide +kernel, by decide +kernel⟩, gw 679 (by decide +kernel) (by decide +kernel), gw 12 (by decide +kernel) (by decide +kernel)⟩
theorem cvX6_addPoint : CV mX6_addPoint 1 := ⟨⟨gw 686 (by decide +kernel) (by decide +kernel), wZ_X6, by decide +kernel, by decide +kernel, by decide +kernel⟩, gw 685 (by decide +kernel) (by decide +kernel), gw 13 (by decide +kernel) (by decide +kernel)⟩
theorem cvX6_init : CI mX6_init 0 := ⟨⟨gw 366 (by decide +kernel) (by decide +kernel), wZ_X6, by decide +kernel, by decide +kernel, by decide +kernel⟩, gw 365 (by decide +kernel) (by decide +kernel), rfl⟩
theorem cvX6_letterOf : CS mX6_letterOf 1 := ⟨⟨gw 672 (by decide +kernel) (by decide +kernel), wZ_X6, by decide +kernel, by decide +kernel, by decide +kernel⟩, gw 671 (by decide +kernel) (by decide +kernel)⟩
theorem cvX7_copy : CV mX7_copy 1 := ⟨⟨gw 659 (by decide +kernel) (by decide +kernel), wZ_X7, by decide +kernel, by decide +kernel, by decide +kernel⟩, gw 657 (by decide +kernel) (by decide +kernel), gw 658 (by decide +kernel) (by decide +kernel)⟩
theorem cvX7_init : CI mX7_init 0 := ⟨⟨gw 202 (by decide +kernel) (by decide +kernel), wZ_X7, by decide +kernel, by decide +kernel, by decide +kernel⟩, gw 201 (by decide +kernel) (by decide +kernel), rfl⟩
theorem cvX7_isEmpty : CV mX7_isEmpty 0 := ⟨⟨gw 619 (by decide +kernel) (by decide +kernel), wZ_X7, by decide +kernel, by decide +kernel, by decide +kernel⟩, gw 617 (by decide +kernel) (by decide +kernel), gw 618 (by decide +kernel) (by decide +kernel)⟩
theorem cvX7_part : CV mX7_part 1 := ⟨⟨gw 556 (by decide +kernel) (by decide +kernel), wZ_X7, by decide +kernel, by decide +kernel, by decide +kernel⟩, gw 554 (by decide +kernel) (by decide +kernel), gw 555 (by decide +kernel) (by decide +kernel)⟩
theorem cvX7_put : CV mX7_put 2 := ⟨⟨gw 639 (by decide +kernel) (by decide +kernel), wZ_X7, by decide +kernel, by decide +kernel, by decide +kernel⟩, gw 637 (by decide +kernel) (by decide +kernel), gw 638 (by decide +kernel) (by decide +kernel)⟩
theorem cvX8_add : CV mX8_add 1 := ⟨⟨gw 565 (by decide +kernel) (by decide +kernel), wZ_X8, by decide +kernel, by decide +kernel, by decide +kernel⟩, gw 563 (by decide +kernel) (by decide +kernel), gw 564 (by decide +kernel) (by decide +kernel)⟩
theorem cvX8_figure : CV mX8_figure 0 := ⟨⟨gw 589 (by decide +kernel) (by decide +kernel), wZ_X8, by decide +kernel, by decide +kernel, by decide +kernel⟩, gw 588 (by decide +kernel) (by decide +kernel), gw 6 (by decide +kernel) (by decide +kernel)⟩
theorem cvX8_init : CI mX8_init 0 := ⟨⟨gw 338 (by decide +kernel) (by decide +kernel), wZ_X8, by decide +kernel, by decide +kernel, by decide +kernel⟩, gw 337 (by decide +kernel) (by decide +kernel), rfl⟩
theorem cvX8_read : CV mX8_read 3 := ⟨⟨gw 577 (by decide +kernel) (by decide +kernel), wZ_X8, by decide +kernel, by decide +kernel, by decide +kernel⟩, gw 575 (by decide +kernel) (by decide +kernel), gw 576 (by decide +kernel) (by decide +kernel)⟩
theorem cvX8_readNumber : CV mX8_readNumber 1 := ⟨⟨gw 606 (by decide +kernel) (by decide +kernel), wZ_X8, by decide +kernel, by decide +kernel, by decide +kernel⟩, gw 605 (by decide +kernel) (by decide +kernel), gw 10 (by decide +kernel) (by decide +kernel)⟩
theorem cvX8_readPoint : CV mX8_readPoint 2 := ⟨⟨gw 602 (by decide +kernel) (by decide +kernel), wZ_X8, by decide +kernel, by decide +kernel, by decide +kernel⟩, gw 601 (by decide +kernel) (by decide +kernel), gw 9 (by decide +kernel) (by decide +kernel)⟩
theorem cvX8_readShare : CV mX8_readShare 2 := ⟨⟨gw 594 (by decide +kernel) (by decide +kernel), wZ_X8, by decide +kernel, by decide +kernel, by decide +kernel⟩, gw 593 (by decide +kernel) (by decide +kernel), gw 7 (by decide +kernel) (by decide +kernel)⟩
theorem cvX8_readSpan : CV mX8_readSpan 3 := ⟨⟨gw 598 (by decide +kernel) (by decide +kernel), wZ_X8, by decide +kernel, by decide +kernel, by decide +kernel⟩, gw 597 (by decide +kernel) (by decide +kernel), gw 8 (by decide +kernel) (by decide +kernel)⟩
theorem cvX8_readWorths : CV mX8_readWorths 1 := ⟨⟨gw 581 (by decide +kernel) (by decide +kernel), wZ_X8, by decide +kernel, by decide +kernel, by decide +kernel⟩, gw 580 (by decide +kernel) (by decide +kernel), gw 4 (by decide +kernel) (by decide +kernel)⟩
theorem cvX8_skips : CV mX8_skips 1 := ⟨⟨gw 585 (by decide +kernel) (by decide +kernel), wZ_X8, by decide +kernel, by decide +kernel, by decide +kernel⟩, gw 584 (by decide +kernel) (by decide +kernel), gw 5 (by decide +kernel) (by decide +kernel)⟩
theorem cvX9_back : CV mX9_back 0 := ⟨⟨gw 963 (by decide +kernel) (by decide +kernel), wZ_X9, by decide +kernel, by decide +kernel, by decide +kernel⟩, gw 961 (by decide +kernel) (by decide +kernel), gw 962 (by decide +kernel) (by decide +kernel)⟩
theorem cvX9_begin : CV mX9_begin 2 := ⟨⟨gw 442 (by decide +kernel) (by decide +kernel), wZ_X9, by decide +kernel, by decide +kernel, by decide +kernel⟩, gw 440 (by decide +kernel) (by decide +kernel), gw 441 (by decide +kernel) (by decide +kernel)⟩
theorem cvX9_best : CV mX9_best 2 := ⟨⟨gw 915 (by decide +kernel) (by decide +kernel), wZ_X9, by decide +kernel, by decide +kernel, by decide +kernel⟩, gw 913 (by decide +kernel) (by decide +kernel), gw 914 (by decide +kernel) (by decide +kernel)⟩
theorem cvX9_bringsMore : CV mX9_bringsMore 1 := ⟨⟨gw 909 (by decide +kernel) (by decide +kernel), wZ_X9, by decide +kernel, by decide +kernel, by decide +kernel⟩, gw 908 (by decide +kernel) (by decide +kernel), gw 37 (by decide +kernel) (by decide +kernel)⟩
theorem cvX9_count : CV mX9_count 1 := ⟨⟨gw 967 (by decide +kernel) (by decide +kernel), wZ_X9, by decide +kernel, by decide +kernel, by decide +kernel⟩, gw 965 (by decide +kernel) (by decide +kernel), gw 966 (by decide +kernel) (by decide +kernel)⟩
theorem cvX9_cuts : CV mX9_cuts 0 := ⟨⟨gw 867 (by decide +kernel) (by decide +kernel), wZ_X9, by decide +kernel, by decide +kernel, by decide +kernel⟩, gw 865 (by decide +kernel) (by decide +kernel), gw 866 (by decide +kernel) (by decide +kernel)⟩
theorem cvX9_divides : CV mX9_divides 0 := ⟨⟨gw 647 (by decide +kernel) (by decide +kernel), wZ_X9, by decide +kernel, by decide +kernel, by decide +kernel⟩, gw 645 (by decide +kernel) (by decide +kernel), gw 646 (by decide +kernel) (by decide +kernel)⟩
theorem cvX9_envies : CV mX9_envies 2 := ⟨⟨gw 842 (by decide +kernel) (by decide +kernel), wZ_X9, by decide +kernel, by decide +kernel, by decide +kernel⟩, gw 840 (by decide +kernel) (by decide +kernel), gw 841 (by decide +kernel) (by decide +kernel)⟩
theorem cvX9_event : CV mX9_event 2 := ⟨⟨gw 819 (by decide +kernel) (by decide +kernel), wZ_X9, by decide +kernel, by decide +kernel, by decide +kernel⟩, gw 817 (by decide +kernel) (by decide +kernel), gw 818 (by decide +kernel) (by decide +kernel)⟩
theorem cvX9_exact : CV mX9_exact 3 := ⟨⟨gw 527 (by decide +kernel) (by decide +kernel), wZ_X9, by decide +kernel, by decide +kernel, by decide +kernel⟩, gw 525 (by decide +kernel) (by decide +kernel), gw 526 (by decide +kernel) (by decide +kernel)⟩
theorem cvX9_exchange : CV mX9_exchange 0 := ⟨⟨gw 850 (by decide +kernel) (by decide +kernel), wZ_X9, by decide +kernel, by decide +kernel, by decide +kernel⟩, gw 848 (by decide +kernel) (by decide +kernel), gw 849 (by decide +kernel) (by decide +kernel)⟩
theorem cvX9_fair : CV mX9_fair 1 := ⟨⟨gw 846 (by decide +kernel) (by decide +kernel), wZ_X9, by decide +kernel, by decide +kernel, by decide +kernel⟩, gw 844 (by decide +kernel) (by decide +kernel), gw 845 (by decide +kernel) (by decide +kernel)⟩
theorem cvX9_feed : CV mX9_feed 1 := ⟨⟨gw 561 (by decide +kernel) (by decide +kernel), wZ_X9, by decide +kernel, by decide +kernel, by decide +kernel⟩, gw 559 (by decide +kernel) (by decide +kernel), gw 560 (by decide +kernel) (by decide +kernel)⟩
theorem cvX9_from : CV mX9_from 3 := ⟨⟨gw 955 (by decide +kernel) (by decide +kernel), wZ_X9, by decide +kernel, by decide +kernel, by decide +kernel⟩, gw 953 (by decide +kernel) (by decide +kernel), gw 954 (by decide +kernel) (by decide +kernel)⟩
theorem cvX9_get : CV mX9_get 2 := ⟨⟨gw 943 (by decide +kernel) (by decide +kernel), wZ_X9, by decide +kernel, by decide +kernel, by decide +kernel⟩, gw 941 (by decide +kernel) (by decide +kernel), gw 942 (by decide +kernel) (by decide +kernel)⟩
theorem cvX9_gets : CV mX9_gets 4 := ⟨⟨gw 833 (by decide +kernel) (by decide +kernel), wZ_X9, by decide +kernel, by decide +kernel, by decide +kernel⟩, gw 831 (by decide +kernel) (by decide +kernel), gw 832 (by decide +kernel) (by decide +kernel)⟩
theorem cvX9_honest : CV mX9_honest 1 := ⟨⟨gw 467 (by decide +kernel) (by decide +kernel), wZ_X9, by decide +kernel, by decide +kernel, by decide +kernel⟩, gw 465 (by decide +kernel) (by decide +kernel), gw 466 (by decide +kernel) (by decide +kernel)⟩
theorem cvX9_image : CV mX9_image 0 := ⟨⟨gw 959 (by decide +kernel) (by decide +kernel), wZ_X9, by decide +kernel, by decide +kernel, by decide +kernel⟩, gw 957 (by decide +kernel) (by decide +kernel), gw 958 (by decide +kernel) (by decide +kernel)⟩
theorem cvX9_init : CI mX9_init 0 := ⟨⟨gw 120 (by decide +kernel) (by decide +kernel), wZ_X9, by decide +kernel, by decide +kernel, by decide +kernel⟩, gw 119 (by decide +kernel) (by decide +kernel), rfl⟩
theorem cvX9_into : CV mX9_into 3 := ⟨⟨gw 947 (by decide +kernel) (by decide +kernel), wZ_X9, by decide +kernel, by decide +kernel, by decide +kernel⟩, gw 945 (by decide +kernel) (by decide +kernel), gw 946 (by decide +kernel) (by decide +kernel)⟩
theorem cvX9_isAllowed : CV mX9_isAllowed 1 := ⟨⟨gw 701 (by decide +kernel) (by decide +kernel), wZ_X9, by decide +kernel, by decide +kernel, by decide +kernel⟩, gw 700 (by decide +kernel) (by decide +kernel), gw 14 (by decide +kernel) (by decide +kernel)⟩
theorem cvX9_isFlag : CS mX9_isFlag 1 := ⟨⟨gw 474 (by decide +kernel) (by decide +kernel), wZ_X9, by decide +kernel, by decide +kernel, by decide +kernel⟩, gw 473 (by decide +kernel) (by decide +kernel)⟩
theorem cvX9_isPoint : CV mX9_isPoint 2 := ⟨⟨gw 486 (by decide +kernel) (by decide +kernel), wZ_X9, by decide +kernel, by decide +kernel, by decide +kernel⟩, gw 485 (by decide +kernel) (by decide +kernel), gw 0 (by decide +kernel) (by decide +kernel)⟩
theorem cvX9_isWay : CS mX9_isWay 1 := ⟨⟨gw 697 (by decide +kernel) (by decide +kernel), wZ_X9, by decide +kernel, by decide +kernel, by decide +kernel⟩, gw 696 (by decide +kernel) (by decide +kernel)⟩
theorem cvX9_isWorth : CS mX9_isWorth 1 := ⟨⟨gw 459 (by decide +kernel) (by decide +kernel), wZ_X9, by decide +kernel, by decide +kernel, by decide +kernel⟩, gw 458 (by decide +kernel) (by decide +kernel)⟩
theorem cvX9_lie : CV mX9_lie 4 := ⟨⟨gw 901 (by decide +kernel) (by decide +kernel), wZ_X9, by decide +kernel, by decide +kernel, by decide +kernel⟩, gw 899 (by decide +kernel) (by decide +kernel), gw 900 (by decide +kernel) (by decide +kernel)⟩
theorem cvX9_list : CV mX9_list 2 := ⟨⟨gw 919 (by decide +kernel) (by decide +kernel), wZ_X9, by decide +kernel, by decide +kernel, by decide +kernel⟩, gw 917 (by decide +kernel) (by decide +kernel), gw 918 (by decide +kernel) (by decide +kernel)⟩
theorem cvX9_mark : CV mX9_mark 6 := ⟨⟨gw 513 (by decide +kernel) (by decide +kernel), wZ_X9, by decide +kernel, by decide +kernel, by decide +kernel⟩, gw 511 (by decide +kernel) (by decide +kernel), gw 512 (by decide +kernel) (by decide +kernel)⟩
theorem cvX9_off : CV mX9_off 3 := ⟨⟨gw 884 (by decide +kernel) (by decide +kernel), wZ_X9, by decide +kernel, by decide +kernel, by decide +kernel⟩, gw 882 (by decide +kernel) (by decide +kernel), gw 883 (by decide +kernel) (by decide +kernel)⟩
theorem cvX9_paper : CV mX9_paper 1 := ⟨⟨gw 690 (by decide +kernel) (by decide +kernel), wZ_X9, by decide +kernel, by decide +kernel, by decide +kernel⟩, gw 688 (by decide +kernel) (by decide +kernel), gw 689 (by decide +kernel) (by decide +kernel)⟩
theorem cvX9_prints : CV mX9_prints 0 := ⟨⟨gw 665 (by decide +kernel) (by decide +kernel), wZ_X9, by decide +kernel, by decide +kernel, by decide +kernel⟩, gw 663 (by decide +kernel) (by decide +kernel), gw 664 (by decide +kernel) (by decide +kernel)⟩
theorem cvX9_refusal : CV mX9_refusal 3 := ⟨⟨gw 951 (by decide +kernel) (by decide +kernel), wZ_X9, by decide +kernel, by decide +kernel, by decide +kernel⟩, gw 950 (by decide +kernel) (by decide +kernel), gw 38 (by decide +kernel) (by decide +kernel)⟩
theorem cvX9_set : CV mX9_set 3 := ⟨⟨gw 931 (by decide +kernel) (by decide +kernel), wZ_X9, by decide +kernel, by decide +kernel, by decide +kernel⟩, gw 929 (by decide +kernel) (by decide +kernel), gw 930 (by decide +kernel) (by decide +kernel)⟩
theorem cvX9_share : CV mX9_share 3 := ⟨⟨gw 828 (by decide +kernel) (by decide +kernel), wZ_X9, by decide +kernel, by decide +kernel, by decide +kernel⟩, gw 826 (by decide +kernel) (by decide +kernel), gw 827 (by decide +kernel) (by decide +kernel)⟩
theorem cvX9_shares : CV mX9_shares 2 := ⟨⟨gw 694 (by decide +kernel) (by decide +kernel), wZ_X9, by decide +kernel, by decide +kernel, by decide +kernel⟩, gw 692 (by decide +kernel) (by decide +kernel), gw 693 (by decide +kernel) (by decide +kernel)⟩
theorem cvX9_span : CV mX9_span 7 := ⟨⟨gw 482 (by decide +kernel) (by decide +kernel), wZ_X9, by decide +kernel, by decide +kernel, by decide +kernel⟩, gw 480 (by decide +kernel) (by decide +kernel), gw 481 (by decide +kernel) (by decide +kernel)⟩
theorem cvX9_strip : CV mX9_strip 3 := ⟨⟨gw 471 (by decide +kernel) (by decide +kernel), wZ_X9, by decide +kernel, by decide +kernel, by decide +kernel⟩, gw 469 (by decide +kernel) (by decide +kernel), gw 470 (by decide +kernel) (by decide +kernel)⟩
theorem cvX9_tell : CV mX9_tell 3 := ⟨⟨gw 498 (by decide +kernel) (by decide +kernel), wZ_X9, by decide +kernel, by decide +kernel, by decide +kernel⟩, gw 497 (by decide +kernel) (by decide +kernel), gw 1 (by decide +kernel) (by decide +kernel)⟩
theorem cvX9_tells : CV mX9_tells 3 := ⟨⟨gw 463 (by decide +kernel) (by decide +kernel), wZ_X9, by decide +kernel, by decide +kernel, by decide +kernel⟩, gw 461 (by decide +kernel) (by decide +kernel), gw 462 (by decide +kernel) (by decide +kernel)⟩
theorem cvX9_worth : CV mX9_worth 3 := ⟨⟨gw 448 (by decide +kernel) (by decide +kernel), wZ_X9, by decide +kernel, by decide +kernel, by decide +kernel⟩, gw 446 (by decide +kernel) (by decide +kernel), gw 447 (by decide +kernel) (by decide +kernel)⟩
theorem cvX9_worths : CV mX9_worths 0 := ⟨⟨gw 569 (by decide +kernel) (by decide +kernel), wZ_X9, by decide +kernel, by decide +kernel, by decide +kernel⟩, gw 567 (by decide +kernel) (by decide +kernel), gw 568 (by decide +kernel) (by decide +kernel)⟩
theorem cvX9_would : CV mX9_would 4 := ⟨⟨gw 897 (by decide +kernel) (by decide +kernel), wZ_X9, by decide +kernel, by decide +kernel, by decide +kernel⟩, gw 895 (by decide +kernel) (by decide +kernel), gw 896 (by decide +kernel) (by decide +kernel)⟩
/-- private constructors, called by nest mates -/
def nestW : List Cond := [.methodLinkNest RX1 37 yX3_init "KnifeDesk", .methodLinkNest RX1 42 yX2_init "KnifeDesk", .methodLinkNest RX2 9 yX7_init "KnifeDesk", .methodLinkNest RX7 9 yX3_init "KnifeDesk", .methodLinkNest RX1 43 yX7_init "KnifeDesk", .methodLinkNest RX5 11 yX7_init "KnifeDesk", .methodLinkNest RX5 49 yX3_init "KnifeDesk", .methodLinkNest RX9 48 yX8_init "KnifeDesk", .methodLinkNest RX8 17 yX3_init "KnifeDesk", .methodLinkNest RX8 24 yX7_init "KnifeDesk", .methodLinkNest RX9 55 yX6_init "KnifeDesk", .methodLinkNest RX9 69 yX3_init "KnifeDesk", .methodLinkNest RX9 79 yX7_init "KnifeDesk"]
theorem nestW_in : ∀ w ∈ nestW, w ∈ lw_tbl := by
  intro w hw
  simp only [nestW, List.mem_cons, List.not_mem_nil, or_false] at hw
  rcases hw with rfl | rfl | rfl | rfl | rfl | rfl | rfl | rfl | rfl | rfl | rfl | rfl | rfl
  · exact List.mem_of_getElem? (i := 175) (by decide +kernel)
  · exact List.mem_of_getElem? (i := 194) (by decide +kernel)
  · exact List.mem_of_getElem? (i := 200) (by decide +kernel)
  · exact List.mem_of_getElem? (i := 205) (by decide +kernel)
  · exact List.mem_of_getElem? (i := 239) (by decide +kernel)
  · exact List.mem_of_getElem? (i := 291) (by decide +kernel)
  · exact List.mem_of_getElem? (i := 293) (by decide +kernel)
  · exact List.mem_of_getElem? (i := 336) (by decide +kernel)
  · exact List.mem_of_getElem? (i := 341) (by decide +kernel)
  · exact List.mem_of_getElem? (i := 343) (by decide +kernel)
  · exact List.mem_of_getElem? (i := 364) (by decide +kernel)
  · exact List.mem_of_getElem? (i := 393) (by decide +kernel)
  · exact List.mem_of_getElem? (i := 395) (by decide +kernel)
theorem wOv_I : Cond.arrayOver (Jvm.ClassFile.FieldType.array Jvm.ClassFile.FieldType.int) ∈ lw_tbl := List.mem_of_getElem? (i := 131) (by decide +kernel)
theorem wOv_X2 : Cond.arrayOver (Jvm.ClassFile.FieldType.object "KnifeDesk$Event") ∈ lw_tbl := List.mem_of_getElem? (i := 169) (by decide +kernel)
theorem wOv_X7 : Cond.arrayOver (Jvm.ClassFile.FieldType.object "KnifeDesk$Span") ∈ lw_tbl := List.mem_of_getElem? (i := 171) (by decide +kernel)
theorem wOv_X3 : Cond.arrayOver (Jvm.ClassFile.FieldType.object "KnifeDesk$Point") ∈ lw_tbl := List.mem_of_getElem? (i := 173) (by decide +kernel)
