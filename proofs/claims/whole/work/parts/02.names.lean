def RX0 : String := "QuarterWords$Acts"
def TX0 : u_T := fun k => match k with
  | 0 => ("QuarterWords$Acts", "changed", "[I", true)
  | 1 => ("QuarterWords$Acts", "before", "[J", true)
  | _ => ("QuarterWords$Acts", "size", "I", false)
def tyX0 : Nat → FieldType := fun k => match k with
  | 0 => .array .int
  | 1 => .array .long
  | _ => .int
abbrev wsX00 : List Cond := u_ws RX0 TX0 3
theorem nmX0 : ∀ a, a < 3 → ∀ b, b < 3 → a ≠ b → (TX0 a).2.1 ≠ (TX0 b).2.1 := by decide +kernel
theorem tyX0_ok : ∀ k, k < 3 → parseFieldDescriptor (TX0 k).2.2.1 = some (tyX0 k) := by decide +kernel
abbrev cX0_init : ByteArray := prog_2_method_1_code
def yX0_init : MethodName := ⟨RX0, "<init>", "()V"⟩
abbrev cX0_size : ByteArray := prog_2_method_2_code
def yX0_size : MethodName := ⟨RX0, "size", "()I"⟩
abbrev cX0_clear : ByteArray := prog_2_method_3_code
def yX0_clear : MethodName := ⟨RX0, "clear", "()V"⟩
abbrev cX0_add : ByteArray := prog_2_method_4_code
def yX0_add : MethodName := ⟨RX0, "add", "(IJ)V"⟩
abbrev cX0_forgetFirst : ByteArray := prog_2_method_5_code
def yX0_forgetFirst : MethodName := ⟨RX0, "forgetFirst", "()V"⟩
abbrev cX0_lastPicture : ByteArray := prog_2_method_6_code
def yX0_lastPicture : MethodName := ⟨RX0, "lastPicture", "()I"⟩
abbrev cX0_lastBefore : ByteArray := prog_2_method_7_code
def yX0_lastBefore : MethodName := ⟨RX0, "lastBefore", "()J"⟩
abbrev cX0_dropLast : ByteArray := prog_2_method_8_code
def yX0_dropLast : MethodName := ⟨RX0, "dropLast", "()V"⟩
def RX1 : String := "QuarterWords$Album"
def TX1 : u_T := fun k => match k with
  | _ => ("QuarterWords$Album", "pictures", "[J", true)
def tyX1 : Nat → FieldType := fun k => match k with
  | _ => .array .long
abbrev wsX10 : List Cond := u_ws RX1 TX1 1
theorem nmX1 : ∀ a, a < 1 → ∀ b, b < 1 → a ≠ b → (TX1 a).2.1 ≠ (TX1 b).2.1 := by decide +kernel
theorem tyX1_ok : ∀ k, k < 1 → parseFieldDescriptor (TX1 k).2.2.1 = some (tyX1 k) := by decide +kernel
abbrev cX1_init : ByteArray := prog_3_method_1_code
def yX1_init : MethodName := ⟨RX1, "<init>", "()V"⟩
abbrev cX1_cells : ByteArray := prog_3_method_2_code
def yX1_cells : MethodName := ⟨RX1, "cells", "(I)J"⟩
abbrev cX1_set : ByteArray := prog_3_method_3_code
def yX1_set : MethodName := ⟨RX1, "set", "(IJ)V"⟩
abbrev cX1_copyFrom : ByteArray := prog_3_method_4_code
def yX1_copyFrom : MethodName := ⟨RX1, "copyFrom", "(LQuarterWords$Album;)V"⟩
abbrev cX1_area : ByteArray := prog_3_method_5_code
def yX1_area : MethodName := ⟨RX1, "area", "()I"⟩
abbrev cX1_blackIn : ByteArray := prog_3_method_6_code
def yX1_blackIn : MethodName := ⟨RX1, "blackIn", "(I)I"⟩
abbrev cX1_does : ByteArray := prog_3_method_7_code
def yX1_does : MethodName := ⟨RX1, "does", "(III)Z"⟩
abbrev cX1_combines : ByteArray := prog_3_method_8_code
def yX1_combines : MethodName := ⟨RX1, "combines", "(III)Z"⟩
abbrev cX1_moves : ByteArray := prog_3_method_9_code
def yX1_moves : MethodName := ⟨RX1, "moves", "(II)Z"⟩
abbrev cX1_scales : ByteArray := prog_3_method_10_code
def yX1_scales : MethodName := ⟨RX1, "scales", "(III)Z"⟩
def RX2 : String := "QuarterWords$Shapes"
def TX2 : u_T := fun k => match k with
  | _ => ("", "", "", false)
def tyX2 : Nat → FieldType := fun k => match k with
  | _ => .int
abbrev wsX20 : List Cond := u_ws RX2 TX2 0
theorem nmX2 : ∀ a, a < 0 → ∀ b, b < 0 → a ≠ b → (TX2 a).2.1 ≠ (TX2 b).2.1 := by decide +kernel
theorem tyX2_ok : ∀ k, k < 0 → parseFieldDescriptor (TX2 k).2.2.1 = some (tyX2 k) := by decide +kernel
abbrev cX2_isBlack : ByteArray := prog_4_method_2_code
def yX2_isBlack : MethodName := ⟨RX2, "isBlack", "(JI)Z"⟩
abbrev cX2_bit : ByteArray := prog_4_method_3_code
def yX2_bit : MethodName := ⟨RX2, "bit", "(II)J"⟩
abbrev cX2_lowestRow : ByteArray := prog_4_method_4_code
def yX2_lowestRow : MethodName := ⟨RX2, "lowestRow", "(J)I"⟩
abbrev cX2_isLeaf : ByteArray := prog_4_method_5_code
def yX2_isLeaf : MethodName := ⟨RX2, "isLeaf", "(I)Z"⟩
abbrev cX2_pattern : ByteArray := prog_4_method_6_code
def yX2_pattern : MethodName := ⟨RX2, "pattern", "(I)J"⟩
abbrev cX2_squareOf : ByteArray := prog_4_method_7_code
def yX2_squareOf : MethodName := ⟨RX2, "squareOf", "(II)J"⟩
abbrev cX2_quarterCells : ByteArray := prog_4_method_8_code
def yX2_quarterCells : MethodName := ⟨RX2, "quarterCells", "(I)J"⟩
abbrev cX2_quarterCorner : ByteArray := prog_4_method_9_code
def yX2_quarterCorner : MethodName := ⟨RX2, "quarterCorner", "(I)I"⟩
abbrev cX2_sign : ByteArray := prog_4_method_10_code
def yX2_sign : MethodName := ⟨RX2, "sign", "(JJ)I"⟩
abbrev cX2_depthAt : ByteArray := prog_4_method_11_code
def yX2_depthAt : MethodName := ⟨RX2, "depthAt", "(JI)I"⟩
abbrev cX2_combined : ByteArray := prog_4_method_12_code
def yX2_combined : MethodName := ⟨RX2, "combined", "(IJJ)J"⟩
abbrev cX2_turned : ByteArray := prog_4_method_13_code
def yX2_turned : MethodName := ⟨RX2, "turned", "(J)J"⟩
abbrev cX2_flipped : ByteArray := prog_4_method_14_code
def yX2_flipped : MethodName := ⟨RX2, "flipped", "(J)J"⟩
abbrev cX2_halved : ByteArray := prog_4_method_15_code
def yX2_halved : MethodName := ⟨RX2, "halved", "(JI)J"⟩
abbrev cX2_grown : ByteArray := prog_4_method_16_code
def yX2_grown : MethodName := ⟨RX2, "grown", "(JI)J"⟩
abbrev cX2_fourCells : ByteArray := prog_4_method_17_code
def yX2_fourCells : MethodName := ⟨RX2, "fourCells", "(II)J"⟩
abbrev cX2_byWay : ByteArray := prog_4_method_18_code
def yX2_byWay : MethodName := ⟨RX2, "byWay", "(JI)J"⟩
abbrev cX2_unlike : ByteArray := prog_4_method_19_code
def yX2_unlike : MethodName := ⟨RX2, "unlike", "(JJI)I"⟩
abbrev cX2_waysAlike : ByteArray := prog_4_method_20_code
def yX2_waysAlike : MethodName := ⟨RX2, "waysAlike", "(JJ)I"⟩
abbrev cX2_nearestWay : ByteArray := prog_4_method_21_code
def yX2_nearestWay : MethodName := ⟨RX2, "nearestWay", "(JJ)I"⟩
abbrev cX2_parts : ByteArray := prog_4_method_22_code
def yX2_parts : MethodName := ⟨RX2, "parts", "(J)I"⟩
abbrev cX2_partOf : ByteArray := prog_4_method_23_code
def yX2_partOf : MethodName := ⟨RX2, "partOf", "(JJ)J"⟩
abbrev cX2_leftOf : ByteArray := prog_4_method_24_code
def yX2_leftOf : MethodName := ⟨RX2, "leftOf", "(J)J"⟩
abbrev cX2_rightOf : ByteArray := prog_4_method_25_code
def yX2_rightOf : MethodName := ⟨RX2, "rightOf", "(J)J"⟩
abbrev cX2_rim : ByteArray := prog_4_method_26_code
def yX2_rim : MethodName := ⟨RX2, "rim", "(J)I"⟩
abbrev cX2_blocks : ByteArray := prog_4_method_27_code
def yX2_blocks : MethodName := ⟨RX2, "blocks", "(J)I"⟩
def RX3 : String := "QuarterWords$Sight"
def TX3 : u_T := fun k => match k with
  | 0 => ("QuarterWords$Sight", "cells", "[I", true)
  | 1 => ("QuarterWords$Sight", "blacks", "[Z", true)
  | _ => ("QuarterWords$Sight", "size", "I", false)
def tyX3 : Nat → FieldType := fun k => match k with
  | 0 => .array .int
  | 1 => .array .boolean
  | _ => .int
abbrev wsX30 : List Cond := u_ws RX3 TX3 3
theorem nmX3 : ∀ a, a < 3 → ∀ b, b < 3 → a ≠ b → (TX3 a).2.1 ≠ (TX3 b).2.1 := by decide +kernel
theorem tyX3_ok : ∀ k, k < 3 → parseFieldDescriptor (TX3 k).2.2.1 = some (tyX3 k) := by decide +kernel
abbrev cX3_init : ByteArray := prog_5_method_1_code
def yX3_init : MethodName := ⟨RX3, "<init>", "()V"⟩
abbrev cX3_size : ByteArray := prog_5_method_2_code
def yX3_size : MethodName := ⟨RX3, "size", "()I"⟩
abbrev cX3_clear : ByteArray := prog_5_method_3_code
def yX3_clear : MethodName := ⟨RX3, "clear", "()V"⟩
abbrev cX3_add : ByteArray := prog_5_method_4_code
def yX3_add : MethodName := ⟨RX3, "add", "(IZ)Z"⟩
abbrev cX3_fits : ByteArray := prog_5_method_5_code
def yX3_fits : MethodName := ⟨RX3, "fits", "()I"⟩
abbrev cX3_firstFit : ByteArray := prog_5_method_6_code
def yX3_firstFit : MethodName := ⟨RX3, "firstFit", "()I"⟩
abbrev cX3_firstFigure : ByteArray := prog_5_method_7_code
def yX3_firstFigure : MethodName := ⟨RX3, "firstFigure", "(I)I"⟩
abbrev cX3_isSo : ByteArray := prog_5_method_8_code
def yX3_isSo : MethodName := ⟨RX3, "isSo", "(II)Z"⟩
def RX4 : String := "QuarterWords$Text"
def TX4 : u_T := fun k => match k with
  | 0 => ("QuarterWords$Text", "letters", "[I", true)
  | 1 => ("QuarterWords$Text", "walk", "LQuarterWords$Walk;", true)
  | 2 => ("QuarterWords$Text", "size", "I", false)
  | _ => ("QuarterWords$Text", "drawn", "J", false)
def tyX4 : Nat → FieldType := fun k => match k with
  | 0 => .array .int
  | 1 => .object "QuarterWords$Walk"
  | 2 => .int
  | _ => .long
abbrev wsX40 : List Cond := u_ws RX4 TX4 4
theorem nmX4 : ∀ a, a < 4 → ∀ b, b < 4 → a ≠ b → (TX4 a).2.1 ≠ (TX4 b).2.1 := by decide +kernel
theorem tyX4_ok : ∀ k, k < 4 → parseFieldDescriptor (TX4 k).2.2.1 = some (tyX4 k) := by decide +kernel
abbrev cX4_init : ByteArray := prog_6_method_1_code
def yX4_init : MethodName := ⟨RX4, "<init>", "()V"⟩
abbrev cX4_size : ByteArray := prog_6_method_2_code
def yX4_size : MethodName := ⟨RX4, "size", "()I"⟩
abbrev cX4_clear : ByteArray := prog_6_method_3_code
def yX4_clear : MethodName := ⟨RX4, "clear", "()V"⟩
abbrev cX4_add : ByteArray := prog_6_method_4_code
def yX4_add : MethodName := ⟨RX4, "add", "(I)Z"⟩
abbrev cX4_firstFault : ByteArray := prog_6_method_5_code
def yX4_firstFault : MethodName := ⟨RX4, "firstFault", "()I"⟩
abbrev cX4_drawn : ByteArray := prog_6_method_6_code
def yX4_drawn : MethodName := ⟨RX4, "drawn", "()J"⟩
abbrev cX4_reads : ByteArray := prog_6_method_7_code
def yX4_reads : MethodName := ⟨RX4, "reads", "(I)Z"⟩
def RX5 : String := "QuarterWords$Walk"
def TX5 : u_T := fun k => match k with
  | 0 => ("QuarterWords$Walk", "place", "I", false)
  | _ => ("QuarterWords$Walk", "depth", "I", false)
def tyX5 : Nat → FieldType := fun k => match k with
  | 0 => .int
  | _ => .int
abbrev wsX50 : List Cond := u_ws RX5 TX5 2
theorem nmX5 : ∀ a, a < 2 → ∀ b, b < 2 → a ≠ b → (TX5 a).2.1 ≠ (TX5 b).2.1 := by decide +kernel
theorem tyX5_ok : ∀ k, k < 2 → parseFieldDescriptor (TX5 k).2.2.1 = some (tyX5 k) := by decide +kernel
abbrev cX5_init : ByteArray := prog_7_method_1_code
def yX5_init : MethodName := ⟨RX5, "<init>", "()V"⟩
abbrev cX5_start : ByteArray := prog_7_method_2_code
def yX5_start : MethodName := ⟨RX5, "start", "()V"⟩
abbrev cX5_hasEnded : ByteArray := prog_7_method_3_code
def yX5_hasEnded : MethodName := ⟨RX5, "hasEnded", "()Z"⟩
abbrev cX5_square : ByteArray := prog_7_method_4_code
def yX5_square : MethodName := ⟨RX5, "square", "()J"⟩
abbrev cX5_cut : ByteArray := prog_7_method_5_code
def yX5_cut : MethodName := ⟨RX5, "cut", "()Z"⟩
abbrev cX5_pass : ByteArray := prog_7_method_6_code
def yX5_pass : MethodName := ⟨RX5, "pass", "()V"⟩
abbrev cX5_sizeAt : ByteArray := prog_7_method_7_code
def yX5_sizeAt : MethodName := ⟨RX5, "sizeAt", "(I)I"⟩
abbrev cX5_leastLength : ByteArray := prog_7_method_8_code
def yX5_leastLength : MethodName := ⟨RX5, "leastLength", "(J)I"⟩
abbrev cX5_leastLetter : ByteArray := prog_7_method_9_code
def yX5_leastLetter : MethodName := ⟨RX5, "leastLetter", "(JI)I"⟩
abbrev cX5_step : ByteArray := prog_7_method_10_code
def yX5_step : MethodName := ⟨RX5, "step", "(J)V"⟩
abbrev cX5_cell : ByteArray := prog_7_method_11_code
def yX5_cell : MethodName := ⟨RX5, "cell", "()I"⟩
def RX6 : String := "QuarterWords"
def TX6 : u_T := fun k => match k with
  | 0 => ("QuarterWords", "live", "LQuarterWords$Album;", true)
  | 1 => ("QuarterWords", "trial", "LQuarterWords$Album;", true)
  | 2 => ("QuarterWords", "slots", "[LQuarterWords$Album;", true)
  | 3 => ("QuarterWords", "text", "LQuarterWords$Text;", true)
  | 4 => ("QuarterWords", "acts", "LQuarterWords$Acts;", true)
  | 5 => ("QuarterWords", "sight", "LQuarterWords$Sight;", true)
  | 6 => ("QuarterWords", "walk", "LQuarterWords$Walk;", true)
  | 7 => ("QuarterWords", "doings", "[I", true)
  | _ => ("QuarterWords", "theSeed", "J", false)
def tyX6 : Nat → FieldType := fun k => match k with
  | 0 => .object "QuarterWords$Album"
  | 1 => .object "QuarterWords$Album"
  | 2 => .array (.object "QuarterWords$Album")
  | 3 => .object "QuarterWords$Text"
  | 4 => .object "QuarterWords$Acts"
  | 5 => .object "QuarterWords$Sight"
  | 6 => .object "QuarterWords$Walk"
  | 7 => .array .int
  | _ => .long
abbrev wsX60 : List Cond := u_ws RX6 TX6 9
theorem nmX6 : ∀ a, a < 9 → ∀ b, b < 9 → a ≠ b → (TX6 a).2.1 ≠ (TX6 b).2.1 := by decide +kernel
theorem tyX6_ok : ∀ k, k < 9 → parseFieldDescriptor (TX6 k).2.2.1 = some (tyX6 k) := by decide +kernel
abbrev cX6_init : ByteArray := prog_1_method_1_code
def yX6_init : MethodName := ⟨RX6, "<init>", "()V"⟩
abbrev cX6_write : ByteArray := prog_1_method_2_code
def yX6_write : MethodName := ⟨RX6, "write", "(I)I"⟩
abbrev cX6_wipe : ByteArray := prog_1_method_3_code
def yX6_wipe : MethodName := ⟨RX6, "wipe", "()I"⟩
abbrev cX6_fault : ByteArray := prog_1_method_4_code
def yX6_fault : MethodName := ⟨RX6, "fault", "()I"⟩
abbrev cX6_put : ByteArray := prog_1_method_5_code
def yX6_put : MethodName := ⟨RX6, "put", "(I)I"⟩
abbrev cX6_join : ByteArray := prog_1_method_6_code
def yX6_join : MethodName := ⟨RX6, "join", "(II)I"⟩
abbrev cX6_meet : ByteArray := prog_1_method_7_code
def yX6_meet : MethodName := ⟨RX6, "meet", "(II)I"⟩
abbrev cX6_less : ByteArray := prog_1_method_8_code
def yX6_less : MethodName := ⟨RX6, "less", "(II)I"⟩
abbrev cX6_turn : ByteArray := prog_1_method_9_code
def yX6_turn : MethodName := ⟨RX6, "turn", "(I)I"⟩
abbrev cX6_flip : ByteArray := prog_1_method_10_code
def yX6_flip : MethodName := ⟨RX6, "flip", "(I)I"⟩
abbrev cX6_halve : ByteArray := prog_1_method_11_code
def yX6_halve : MethodName := ⟨RX6, "halve", "(II)I"⟩
abbrev cX6_grow : ByteArray := prog_1_method_12_code
def yX6_grow : MethodName := ⟨RX6, "grow", "(II)I"⟩
abbrev cX6_undo : ByteArray := prog_1_method_13_code
def yX6_undo : MethodName := ⟨RX6, "undo", "()I"⟩
abbrev cX6_black : ByteArray := prog_1_method_14_code
def yX6_black : MethodName := ⟨RX6, "black", "(I)J"⟩
abbrev cX6_look : ByteArray := prog_1_method_15_code
def yX6_look : MethodName := ⟨RX6, "look", "(II)I"⟩
abbrev cX6_letter : ByteArray := prog_1_method_16_code
def yX6_letter : MethodName := ⟨RX6, "letter", "(II)I"⟩
abbrev cX6_at : ByteArray := prog_1_method_17_code
def yX6_at : MethodName := ⟨RX6, "at", "(III)I"⟩
abbrev cX6_alike : ByteArray := prog_1_method_18_code
def yX6_alike : MethodName := ⟨RX6, "alike", "(II)I"⟩
abbrev cX6_near : ByteArray := prog_1_method_19_code
def yX6_near : MethodName := ⟨RX6, "near", "(III)I"⟩
abbrev cX6_judge : ByteArray := prog_1_method_20_code
def yX6_judge : MethodName := ⟨RX6, "judge", "(IJ)I"⟩
abbrev cX6_see : ByteArray := prog_1_method_21_code
def yX6_see : MethodName := ⟨RX6, "see", "(II)I"⟩
abbrev cX6_unsee : ByteArray := prog_1_method_22_code
def yX6_unsee : MethodName := ⟨RX6, "unsee", "()I"⟩
abbrev cX6_leaves : ByteArray := prog_1_method_23_code
def yX6_leaves : MethodName := ⟨RX6, "leaves", "(I)I"⟩
abbrev cX6_share : ByteArray := prog_1_method_24_code
def yX6_share : MethodName := ⟨RX6, "share", "(IZ)I"⟩
abbrev cX6_rests : ByteArray := prog_1_method_25_code
def yX6_rests : MethodName := ⟨RX6, "rests", "(III)I"⟩
abbrev cX6_fades : ByteArray := prog_1_method_26_code
def yX6_fades : MethodName := ⟨RX6, "fades", "(IIIZ)I"⟩
abbrev cX6_seed : ByteArray := prog_1_method_27_code
def yX6_seed : MethodName := ⟨RX6, "seed", "(J)J"⟩
abbrev cX6_years : ByteArray := prog_1_method_28_code
def yX6_years : MethodName := ⟨RX6, "years", "(I)I"⟩
abbrev cX6_keep : ByteArray := prog_1_method_29_code
def yX6_keep : MethodName := ⟨RX6, "keep", "(I)I"⟩
abbrev cX6_again : ByteArray := prog_1_method_30_code
def yX6_again : MethodName := ⟨RX6, "again", "(I)I"⟩
abbrev cX6_count : ByteArray := prog_1_method_31_code
def yX6_count : MethodName := ⟨RX6, "count", "(I)I"⟩
abbrev cX6_isPicture : ByteArray := prog_1_method_32_code
def yX6_isPicture : MethodName := ⟨RX6, "isPicture", "(I)Z"⟩
abbrev cX6_isCell : ByteArray := prog_1_method_33_code
def yX6_isCell : MethodName := ⟨RX6, "isCell", "(I)Z"⟩
abbrev cX6_isQuarter : ByteArray := prog_1_method_34_code
def yX6_isQuarter : MethodName := ⟨RX6, "isQuarter", "(I)Z"⟩
abbrev cX6_change : ByteArray := prog_1_method_35_code
def yX6_change : MethodName := ⟨RX6, "change", "(IJ)J"⟩
abbrev cX6_combine : ByteArray := prog_1_method_36_code
def yX6_combine : MethodName := ⟨RX6, "combine", "(III)I"⟩
abbrev cX6_readsDoings : ByteArray := prog_1_method_37_code
def yX6_readsDoings : MethodName := ⟨RX6, "readsDoings", "(IJ)Z"⟩
abbrev cX6_sixthsOfCell : ByteArray := prog_1_method_38_code
def yX6_sixthsOfCell : MethodName := ⟨RX6, "sixthsOfCell", "(I)I"⟩
abbrev cX6_isRest : ByteArray := prog_1_method_39_code
def yX6_isRest : MethodName := ⟨RX6, "isRest", "(IIII)Z"⟩
abbrev cX6_gain : ByteArray := prog_1_method_40_code
def yX6_gain : MethodName := ⟨RX6, "gain", "(JJJ)I"⟩
abbrev cX6_areaLeft : ByteArray := prog_1_method_41_code
def yX6_areaLeft : MethodName := ⟨RX6, "areaLeft", "(JI)I"⟩
abbrev cX6_chanceOf : ByteArray := prog_1_method_42_code
def yX6_chanceOf : MethodName := ⟨RX6, "chanceOf", "(II)I"⟩
abbrev cX6_told : ByteArray := prog_1_method_43_code
def yX6_told : MethodName := ⟨RX6, "told", "(IIZ)I"⟩
abbrev cX6_commonDivisor : ByteArray := prog_1_method_44_code
def yX6_commonDivisor : MethodName := ⟨RX6, "commonDivisor", "(II)I"⟩
abbrev cX6_passYear : ByteArray := prog_1_method_45_code
def yX6_passYear : MethodName := ⟨RX6, "passYear", "(I)V"⟩
def RX7 : String := "QuarterWordsModel"
def TX7 : u_T := fun k => match k with
  | 0 => ("QuarterWordsModel", "text", "[I", true)
  | 1 => ("QuarterWordsModel", "length", "I", false)
  | 2 => ("QuarterWordsModel", "read", "J", false)
  | 3 => ("QuarterWordsModel", "depth", "I", false)
  | 4 => ("QuarterWordsModel", "place", "I", false)
  | 5 => ("QuarterWordsModel", "now", "[J", true)
  | 6 => ("QuarterWordsModel", "acts", "I", false)
  | 7 => ("QuarterWordsModel", "next", "I", false)
  | 8 => ("QuarterWordsModel", "row", "[J", true)
  | 9 => ("QuarterWordsModel", "letters", "[I", true)
  | 10 => ("QuarterWordsModel", "depthAt", "[I", true)
  | 11 => ("QuarterWordsModel", "letterAt", "[I", true)
  | 12 => ("QuarterWordsModel", "lettersMany", "I", false)
  | 13 => ("QuarterWordsModel", "seen", "I", false)
  | 14 => ("QuarterWordsModel", "seenCell", "[I", true)
  | 15 => ("QuarterWordsModel", "seenBlack", "[I", true)
  | 16 => ("QuarterWordsModel", "seed", "J", false)
  | 17 => ("QuarterWordsModel", "isKept", "[Z", true)
  | _ => ("QuarterWordsModel", "kept", "[J", true)
def tyX7 : Nat → FieldType := fun k => match k with
  | 0 => .array .int
  | 1 => .int
  | 2 => .long
  | 3 => .int
  | 4 => .int
  | 5 => .array .long
  | 6 => .int
  | 7 => .int
  | 8 => .array .long
  | 9 => .array .int
  | 10 => .array .int
  | 11 => .array .int
  | 12 => .int
  | 13 => .int
  | 14 => .array .int
  | 15 => .array .int
  | 16 => .long
  | 17 => .array .boolean
  | _ => .array .long
abbrev wsX70 : List Cond := u_ws RX7 TX7 19
theorem nmX7 : ∀ a, a < 19 → ∀ b, b < 19 → a ≠ b → (TX7 a).2.1 ≠ (TX7 b).2.1 := by decide +kernel
theorem tyX7_ok : ∀ k, k < 19 → parseFieldDescriptor (TX7 k).2.2.1 = some (tyX7 k) := by decide +kernel
abbrev cX7_init : ByteArray := prog_9_method_1_code
def yX7_init : MethodName := ⟨RX7, "<init>", "()V"⟩
abbrev cX7_in : ByteArray := prog_9_method_3_code
def yX7_in : MethodName := ⟨RX7, "in", "(JJJ)Z"⟩
abbrev cX7_ones : ByteArray := prog_9_method_4_code
def yX7_ones : MethodName := ⟨RX7, "ones", "(J)I"⟩
abbrev cX7_is : ByteArray := prog_9_method_5_code
def yX7_is : MethodName := ⟨RX7, "is", "(JII)Z"⟩
abbrev cX7_widthAt : ByteArray := prog_9_method_6_code
def yX7_widthAt : MethodName := ⟨RX7, "widthAt", "(I)I"⟩
abbrev cX7_leftOf : ByteArray := prog_9_method_7_code
def yX7_leftOf : MethodName := ⟨RX7, "leftOf", "(II)I"⟩
abbrev cX7_lowOf : ByteArray := prog_9_method_8_code
def yX7_lowOf : MethodName := ⟨RX7, "lowOf", "(II)I"⟩
abbrev cX7_tells : ByteArray := prog_9_method_9_code
def yX7_tells : MethodName := ⟨RX7, "tells", "(III)Z"⟩
abbrev cX7_maskOf : ByteArray := prog_9_method_10_code
def yX7_maskOf : MethodName := ⟨RX7, "maskOf", "(II)J"⟩
abbrev cX7_paintOf : ByteArray := prog_9_method_11_code
def yX7_paintOf : MethodName := ⟨RX7, "paintOf", "(III)J"⟩
abbrev cX7_isLeaf : ByteArray := prog_9_method_12_code
def yX7_isLeaf : MethodName := ⟨RX7, "isLeaf", "(I)Z"⟩
abbrev cX7_write : ByteArray := prog_9_method_13_code
def yX7_write : MethodName := ⟨RX7, "write", "(I)I"⟩
abbrev cX7_wipe : ByteArray := prog_9_method_14_code
def yX7_wipe : MethodName := ⟨RX7, "wipe", "()I"⟩
abbrev cX7_goOn : ByteArray := prog_9_method_15_code
def yX7_goOn : MethodName := ⟨RX7, "goOn", "()V"⟩
abbrev cX7_readText : ByteArray := prog_9_method_16_code
def yX7_readText : MethodName := ⟨RX7, "readText", "()I"⟩
abbrev cX7_fault : ByteArray := prog_9_method_17_code
def yX7_fault : MethodName := ⟨RX7, "fault", "()I"⟩
abbrev cX7_isPicture : ByteArray := prog_9_method_18_code
def yX7_isPicture : MethodName := ⟨RX7, "isPicture", "(I)Z"⟩
abbrev cX7_turned : ByteArray := prog_9_method_19_code
def yX7_turned : MethodName := ⟨RX7, "turned", "(J)J"⟩
abbrev cX7_flipped : ByteArray := prog_9_method_20_code
def yX7_flipped : MethodName := ⟨RX7, "flipped", "(J)J"⟩
abbrev cX7_halved : ByteArray := prog_9_method_21_code
def yX7_halved : MethodName := ⟨RX7, "halved", "(JI)J"⟩
abbrev cX7_grown : ByteArray := prog_9_method_22_code
def yX7_grown : MethodName := ⟨RX7, "grown", "(JI)J"⟩
abbrev cX7_keepAct : ByteArray := prog_9_method_23_code
def yX7_keepAct : MethodName := ⟨RX7, "keepAct", "()V"⟩
abbrev cX7_put : ByteArray := prog_9_method_24_code
def yX7_put : MethodName := ⟨RX7, "put", "(I)I"⟩
abbrev cX7_mixOn : ByteArray := prog_9_method_25_code
def yX7_mixOn : MethodName := ⟨RX7, "mixOn", "(IIII)V"⟩
abbrev cX7_mix : ByteArray := prog_9_method_26_code
def yX7_mix : MethodName := ⟨RX7, "mix", "(III)I"⟩
abbrev cX7_join : ByteArray := prog_9_method_27_code
def yX7_join : MethodName := ⟨RX7, "join", "(II)I"⟩
abbrev cX7_meet : ByteArray := prog_9_method_28_code
def yX7_meet : MethodName := ⟨RX7, "meet", "(II)I"⟩
abbrev cX7_less : ByteArray := prog_9_method_29_code
def yX7_less : MethodName := ⟨RX7, "less", "(II)I"⟩
abbrev cX7_turn : ByteArray := prog_9_method_30_code
def yX7_turn : MethodName := ⟨RX7, "turn", "(I)I"⟩
abbrev cX7_flip : ByteArray := prog_9_method_31_code
def yX7_flip : MethodName := ⟨RX7, "flip", "(I)I"⟩
abbrev cX7_halve : ByteArray := prog_9_method_32_code
def yX7_halve : MethodName := ⟨RX7, "halve", "(II)I"⟩
abbrev cX7_grow : ByteArray := prog_9_method_33_code
def yX7_grow : MethodName := ⟨RX7, "grow", "(II)I"⟩
abbrev cX7_undo : ByteArray := prog_9_method_34_code
def yX7_undo : MethodName := ⟨RX7, "undo", "()I"⟩
abbrev cX7_black : ByteArray := prog_9_method_35_code
def yX7_black : MethodName := ⟨RX7, "black", "(I)J"⟩
abbrev cX7_leafOf : ByteArray := prog_9_method_36_code
def yX7_leafOf : MethodName := ⟨RX7, "leafOf", "(J)I"⟩
abbrev cX7_findWord : ByteArray := prog_9_method_37_code
def yX7_findWord : MethodName := ⟨RX7, "findWord", "(J)V"⟩
abbrev cX7_tellCells : ByteArray := prog_9_method_38_code
def yX7_tellCells : MethodName := ⟨RX7, "tellCells", "(I)V"⟩
abbrev cX7_partsOf : ByteArray := prog_9_method_39_code
def yX7_partsOf : MethodName := ⟨RX7, "partsOf", "(J)I"⟩
abbrev cX7_rimOf : ByteArray := prog_9_method_40_code
def yX7_rimOf : MethodName := ⟨RX7, "rimOf", "(J)I"⟩
abbrev cX7_blocksOf : ByteArray := prog_9_method_41_code
def yX7_blocksOf : MethodName := ⟨RX7, "blocksOf", "(J)I"⟩
abbrev cX7_look : ByteArray := prog_9_method_42_code
def yX7_look : MethodName := ⟨RX7, "look", "(II)I"⟩
abbrev cX7_letter : ByteArray := prog_9_method_43_code
def yX7_letter : MethodName := ⟨RX7, "letter", "(II)I"⟩
abbrev cX7_at : ByteArray := prog_9_method_44_code
def yX7_at : MethodName := ⟨RX7, "at", "(III)I"⟩
abbrev cX7_byWay : ByteArray := prog_9_method_45_code
def yX7_byWay : MethodName := ⟨RX7, "byWay", "(JI)J"⟩
abbrev cX7_waysOf : ByteArray := prog_9_method_46_code
def yX7_waysOf : MethodName := ⟨RX7, "waysOf", "(JJ)I"⟩
abbrev cX7_alike : ByteArray := prog_9_method_47_code
def yX7_alike : MethodName := ⟨RX7, "alike", "(II)I"⟩
abbrev cX7_near : ByteArray := prog_9_method_48_code
def yX7_near : MethodName := ⟨RX7, "near", "(III)I"⟩
abbrev cX7_layTrial : ByteArray := prog_9_method_49_code
def yX7_layTrial : MethodName := ⟨RX7, "layTrial", "()V"⟩
abbrev cX7_tryThing : ByteArray := prog_9_method_50_code
def yX7_tryThing : MethodName := ⟨RX7, "tryThing", "(III)Z"⟩
abbrev cX7_thousandTo : ByteArray := prog_9_method_51_code
def yX7_thousandTo : MethodName := ⟨RX7, "thousandTo", "(I)J"⟩
abbrev cX7_judge : ByteArray := prog_9_method_52_code
def yX7_judge : MethodName := ⟨RX7, "judge", "(IJ)I"⟩
abbrev cX7_see : ByteArray := prog_9_method_53_code
def yX7_see : MethodName := ⟨RX7, "see", "(II)I"⟩
abbrev cX7_unsee : ByteArray := prog_9_method_54_code
def yX7_unsee : MethodName := ⟨RX7, "unsee", "()I"⟩
abbrev cX7_leafLetter : ByteArray := prog_9_method_55_code
def yX7_leafLetter : MethodName := ⟨RX7, "leafLetter", "(I)I"⟩
abbrev cX7_mayBe : ByteArray := prog_9_method_56_code
def yX7_mayBe : MethodName := ⟨RX7, "mayBe", "(I)Z"⟩
abbrev cX7_figuresOf : ByteArray := prog_9_method_57_code
def yX7_figuresOf : MethodName := ⟨RX7, "figuresOf", "(I)I"⟩
abbrev cX7_leaves : ByteArray := prog_9_method_58_code
def yX7_leaves : MethodName := ⟨RX7, "leaves", "(I)I"⟩
abbrev cX7_common : ByteArray := prog_9_method_59_code
def yX7_common : MethodName := ⟨RX7, "common", "(II)I"⟩
abbrev cX7_areaBy : ByteArray := prog_9_method_60_code
def yX7_areaBy : MethodName := ⟨RX7, "areaBy", "(I)I"⟩
abbrev cX7_share : ByteArray := prog_9_method_61_code
def yX7_share : MethodName := ⟨RX7, "share", "(IZ)I"⟩
abbrev cX7_gain : ByteArray := prog_9_method_62_code
def yX7_gain : MethodName := ⟨RX7, "gain", "(IIII)I"⟩
abbrev cX7_isRest : ByteArray := prog_9_method_63_code
def yX7_isRest : MethodName := ⟨RX7, "isRest", "(IIII)Z"⟩
abbrev cX7_rests : ByteArray := prog_9_method_64_code
def yX7_rests : MethodName := ⟨RX7, "rests", "(III)I"⟩
abbrev cX7_fades : ByteArray := prog_9_method_65_code
def yX7_fades : MethodName := ⟨RX7, "fades", "(IIIZ)I"⟩
abbrev cX7_seed : ByteArray := prog_9_method_66_code
def yX7_seed : MethodName := ⟨RX7, "seed", "(J)J"⟩
abbrev cX7_areaOf : ByteArray := prog_9_method_67_code
def yX7_areaOf : MethodName := ⟨RX7, "areaOf", "(I)I"⟩
abbrev cX7_years : ByteArray := prog_9_method_68_code
def yX7_years : MethodName := ⟨RX7, "years", "(I)I"⟩
abbrev cX7_keep : ByteArray := prog_9_method_69_code
def yX7_keep : MethodName := ⟨RX7, "keep", "(I)I"⟩
abbrev cX7_again : ByteArray := prog_9_method_70_code
def yX7_again : MethodName := ⟨RX7, "again", "(I)I"⟩
abbrev cX7_count : ByteArray := prog_9_method_71_code
def yX7_count : MethodName := ⟨RX7, "count", "(I)I"⟩
def RJ13 : String := "java/lang/Long"
def TJ13 : u_T := fun k => match k with
  | _ => ("", "", "", false)
def tyJ13 : Nat → FieldType := fun k => match k with
  | _ => .int
abbrev wsJ130 : List Cond := u_ws RJ13 TJ13 0
theorem nmJ13 : ∀ a, a < 0 → ∀ b, b < 0 → a ≠ b → (TJ13 a).2.1 ≠ (TJ13 b).2.1 := by decide +kernel
theorem tyJ13_ok : ∀ k, k < 0 → parseFieldDescriptor (TJ13 k).2.2.1 = some (tyJ13 k) := by decide +kernel
abbrev cJ13_bitCount_95d88 : ByteArray := prog_10_method_50_code
def yJ13_bitCount_95d88 : MethodName := ⟨RJ13, "bitCount", "(J)I"⟩
def RJ9 : String := "java/lang/Math"
def TJ9 : u_T := fun k => match k with
  | _ => ("", "", "", false)
def tyJ9 : Nat → FieldType := fun k => match k with
  | _ => .int
abbrev wsJ90 : List Cond := u_ws RJ9 TJ9 0
theorem nmJ9 : ∀ a, a < 0 → ∀ b, b < 0 → a ≠ b → (TJ9 a).2.1 ≠ (TJ9 b).2.1 := by decide +kernel
theorem tyJ9_ok : ∀ k, k < 0 → parseFieldDescriptor (TJ9 k).2.2.1 = some (tyJ9 k) := by decide +kernel
abbrev cJ9_min_7cf53 : ByteArray := prog_11_method_69_code
def yJ9_min_7cf53 : MethodName := ⟨RJ9, "min", "(II)I"⟩
def RL : String := "QuarterWordsLaw"
abbrev cL_law : ByteArray := code
def yL_law : MethodName := ⟨RL, "law", "([I)Z"⟩
abbrev vwCl : List vw_C := [(RX0, TX0, 3), (RX1, TX1, 1), (RX3, TX3, 3), (RX4, TX4, 4), (RX5, TX5, 2), (RX6, TX6, 9), (RX7, TX7, 19)]
/-- the words that last, of the tables -/
def wsL_law : List Cond := lw_tbl.filter goodWord
theorem wsL_law_in : ∀ w ∈ wsL_law, w ∈ lw_tbl := fun w h => (List.mem_filter.mp h).1
theorem wsL_g : GoodIn wsL_law wsL_law := fun w h => ⟨h, good_of_word (List.mem_filter.mp h).2⟩
theorem wsL_of {w : Cond} (h : w ∈ tables_1) (hg : goodWord w = true) : w ∈ wsL_law := List.mem_filter.mpr ⟨List.mem_append_right _ h, hg⟩
theorem inT1 {w : Cond} (h : w ∈ tables_1_1) (hg : goodWord w = true) : w ∈ wsL_law := wsL_of (List.mem_append_left _ h) hg
theorem inT2 {w : Cond} (h : w ∈ tables_1_2) (hg : goodWord w = true) : w ∈ wsL_law := wsL_of (List.mem_append_right _ (List.mem_append_left _ h)) hg
theorem inT3 {w : Cond} (h : w ∈ tables_1_3) (hg : goodWord w = true) : w ∈ wsL_law := wsL_of (List.mem_append_right _ (List.mem_append_right _ (List.mem_append_left _ h))) hg
theorem inT4 {w : Cond} (h : w ∈ tables_1_4) (hg : goodWord w = true) : w ∈ wsL_law := wsL_of (List.mem_append_right _ (List.mem_append_right _ (List.mem_append_right _ h))) hg
theorem inP1 {y : MethodName} {n : Nat} (h : (y, n) ∈ lw_privs_1) (hg : goodWord (.selects y.cls y y) = true) : Cond.selects y.cls y y ∈ wsL_law := List.mem_filter.mpr ⟨List.mem_append_left _ (List.mem_map.mpr ⟨(y, n), List.mem_append_left _ h, rfl⟩), hg⟩
theorem inP2 {y : MethodName} {n : Nat} (h : (y, n) ∈ lw_privs_2) (hg : goodWord (.selects y.cls y y) = true) : Cond.selects y.cls y y ∈ wsL_law := List.mem_filter.mpr ⟨List.mem_append_left _ (List.mem_map.mpr ⟨(y, n), List.mem_append_right _ h, rfl⟩), hg⟩
theorem mw_0 : Cond.classLink RL 7 RX6 ∈ wsL_law := inT1 (List.mem_of_getElem? (i := 11) rfl) rfl
theorem mw_1 : Cond.instantiable RX6 9 ∈ wsL_law := inT1 (List.mem_of_getElem? (i := 12) rfl) rfl
theorem mw_2 : Cond.initialized RX6 ∈ wsL_law := inT1 (List.mem_of_getElem? (i := 1) rfl) rfl
theorem mw_3 : Cond.classLink RL 10 RX7 ∈ wsL_law := inT3 (List.mem_of_getElem? (i := 102) rfl) rfl
theorem mw_4 : Cond.instantiable RX7 19 ∈ wsL_law := inT3 (List.mem_of_getElem? (i := 103) rfl) rfl
theorem mw_5 : Cond.initialized RX7 ∈ wsL_law := inT1 (List.mem_of_getElem? (i := 7) rfl) rfl
theorem mw_6 : Cond.constantLong RL 90 (4294967295) ∈ wsL_law := inT4 (List.mem_of_getElem? (i := 194) rfl) rfl
theorem mw_7 : Cond.methodLink RL 9 yX6_init ∈ wsL_law := inT1 (List.mem_of_getElem? (i := 13) rfl) rfl
theorem mw_8 : Cond.instanceMethod yX6_init ∈ wsL_law := inT1 (List.mem_of_getElem? (i := 14) rfl) rfl
theorem mw_9 : Cond.code yX6_init cX6_init 1 none ∈ wsL_law := inT1 (List.mem_of_getElem? (i := 15) rfl) rfl
theorem mw_10 : Cond.methodLink RX6 1 objectInit ∈ wsL_law := inT1 (List.mem_of_getElem? (i := 16) rfl) rfl
theorem mw_11 : Cond.instanceMethod objectInit ∈ wsL_law := inT1 (List.mem_of_getElem? (i := 17) rfl) rfl
theorem mw_12 : Cond.code objectInit ⟨#[0xb1]⟩ 1 none ∈ wsL_law := inT1 (List.mem_of_getElem? (i := 18) rfl) rfl
theorem mw_13 : Cond.classLink RX6 7 RX1 ∈ wsL_law := inT1 (List.mem_of_getElem? (i := 19) rfl) rfl
theorem mw_14 : Cond.instantiable RX1 1 ∈ wsL_law := inT1 (List.mem_of_getElem? (i := 20) rfl) rfl
theorem mw_15 : Cond.initialized RX1 ∈ wsL_law := inT1 (List.mem_of_getElem? (i := 2) rfl) rfl
theorem mw_16 : Cond.fieldLink RX6 10 "QuarterWords" "live" "LQuarterWords$Album;" ∈ wsL_law := inT1 (List.mem_of_getElem? (i := 99) rfl) rfl
theorem mw_17 : Cond.fieldLink RX6 16 "QuarterWords" "trial" "LQuarterWords$Album;" ∈ wsL_law := inT1 (List.mem_of_getElem? (i := 100) rfl) rfl
theorem mw_18 : Cond.fieldLink RX6 19 "QuarterWords" "slots" "[LQuarterWords$Album;" ∈ wsL_law := inT1 (List.mem_of_getElem? (i := 101) rfl) rfl
theorem mw_19 : Cond.classLink RX6 23 RX4 ∈ wsL_law := inT1 (List.mem_of_getElem? (i := 31) rfl) rfl
theorem mw_20 : Cond.instantiable RX4 4 ∈ wsL_law := inT1 (List.mem_of_getElem? (i := 32) rfl) rfl
theorem mw_21 : Cond.initialized RX4 ∈ wsL_law := inT1 (List.mem_of_getElem? (i := 3) rfl) rfl
theorem mw_22 : Cond.fieldLink RX6 26 "QuarterWords" "text" "LQuarterWords$Text;" ∈ wsL_law := inT1 (List.mem_of_getElem? (i := 102) rfl) rfl
theorem mw_23 : Cond.classLink RX6 30 RX0 ∈ wsL_law := inT1 (List.mem_of_getElem? (i := 64) rfl) rfl
theorem mw_24 : Cond.instantiable RX0 3 ∈ wsL_law := inT1 (List.mem_of_getElem? (i := 65) rfl) rfl
theorem mw_25 : Cond.initialized RX0 ∈ wsL_law := inT1 (List.mem_of_getElem? (i := 5) rfl) rfl
theorem mw_26 : Cond.fieldLink RX6 33 "QuarterWords" "acts" "LQuarterWords$Acts;" ∈ wsL_law := inT1 (List.mem_of_getElem? (i := 103) rfl) rfl
theorem mw_27 : Cond.classLink RX6 37 RX3 ∈ wsL_law := inT1 (List.mem_of_getElem? (i := 80) rfl) rfl
theorem mw_28 : Cond.instantiable RX3 3 ∈ wsL_law := inT1 (List.mem_of_getElem? (i := 81) rfl) rfl
theorem mw_29 : Cond.initialized RX3 ∈ wsL_law := inT1 (List.mem_of_getElem? (i := 6) rfl) rfl
theorem mw_30 : Cond.fieldLink RX6 40 "QuarterWords" "sight" "LQuarterWords$Sight;" ∈ wsL_law := inT1 (List.mem_of_getElem? (i := 104) rfl) rfl
theorem mw_31 : Cond.classLink RX6 44 RX5 ∈ wsL_law := inT1 (List.mem_of_getElem? (i := 97) rfl) rfl
theorem mw_32 : Cond.instantiable RX5 2 ∈ wsL_law := inT1 (List.mem_of_getElem? (i := 38) rfl) rfl
theorem mw_33 : Cond.initialized RX5 ∈ wsL_law := inT1 (List.mem_of_getElem? (i := 4) rfl) rfl
theorem mw_34 : Cond.fieldLink RX6 47 "QuarterWords" "walk" "LQuarterWords$Walk;" ∈ wsL_law := inT1 (List.mem_of_getElem? (i := 105) rfl) rfl
theorem mw_35 : Cond.arrayClass .int ∈ wsL_law := inT1 (List.mem_of_getElem? (i := 50) rfl) rfl
theorem mw_36 : Cond.fieldLink RX6 51 "QuarterWords" "doings" "[I" ∈ wsL_law := inT1 (List.mem_of_getElem? (i := 106) rfl) rfl
theorem mw_37 : Cond.fieldLink RX6 55 "QuarterWords" "theSeed" "J" ∈ wsL_law := inT1 (List.mem_of_getElem? (i := 107) rfl) rfl
theorem mw_38 : Cond.instanceMethod yX1_init ∈ wsL_law := inT1 (List.mem_of_getElem? (i := 22) rfl) rfl
theorem mw_39 : Cond.code yX1_init cX1_init 1 none ∈ wsL_law := inT1 (List.mem_of_getElem? (i := 23) rfl) rfl
theorem mw_40 : Cond.methodLink RX1 3 objectInit ∈ wsL_law := inT1 (List.mem_of_getElem? (i := 24) rfl) rfl
theorem mw_41 : Cond.arrayClass .long ∈ wsL_law := inT1 (List.mem_of_getElem? (i := 29) rfl) rfl
theorem mw_42 : Cond.fieldLink RX1 9 "QuarterWords$Album" "pictures" "[J" ∈ wsL_law := inT1 (List.mem_of_getElem? (i := 25) rfl) rfl
theorem mw_43 : Cond.instanceMethod yX4_init ∈ wsL_law := inT1 (List.mem_of_getElem? (i := 34) rfl) rfl
theorem mw_44 : Cond.code yX4_init cX4_init 1 none ∈ wsL_law := inT1 (List.mem_of_getElem? (i := 35) rfl) rfl
theorem mw_45 : Cond.methodLink RX4 3 objectInit ∈ wsL_law := inT1 (List.mem_of_getElem? (i := 36) rfl) rfl
theorem mw_46 : Cond.fieldLink RX4 9 "QuarterWords$Text" "letters" "[I" ∈ wsL_law := inT1 (List.mem_of_getElem? (i := 51) rfl) rfl
theorem mw_47 : Cond.classLink RX4 15 RX5 ∈ wsL_law := inT1 (List.mem_of_getElem? (i := 37) rfl) rfl
theorem mw_48 : Cond.fieldLink RX4 18 "QuarterWords$Text" "walk" "LQuarterWords$Walk;" ∈ wsL_law := inT1 (List.mem_of_getElem? (i := 52) rfl) rfl
theorem mw_49 : Cond.fieldLink RX4 22 "QuarterWords$Text" "size" "I" ∈ wsL_law := inT1 (List.mem_of_getElem? (i := 53) rfl) rfl
theorem mw_50 : Cond.fieldLink RX4 26 "QuarterWords$Text" "drawn" "J" ∈ wsL_law := inT1 (List.mem_of_getElem? (i := 54) rfl) rfl
theorem mw_51 : Cond.instanceMethod yX5_init ∈ wsL_law := inT1 (List.mem_of_getElem? (i := 40) rfl) rfl
theorem mw_52 : Cond.code yX5_init cX5_init 1 none ∈ wsL_law := inT1 (List.mem_of_getElem? (i := 41) rfl) rfl
theorem mw_53 : Cond.methodLink RX5 3 objectInit ∈ wsL_law := inT1 (List.mem_of_getElem? (i := 42) rfl) rfl
theorem mw_54 : Cond.fieldLink RX5 9 "QuarterWords$Walk" "place" "I" ∈ wsL_law := inT1 (List.mem_of_getElem? (i := 43) rfl) rfl
theorem mw_55 : Cond.fieldLink RX5 15 "QuarterWords$Walk" "depth" "I" ∈ wsL_law := inT1 (List.mem_of_getElem? (i := 44) rfl) rfl
theorem mw_56 : Cond.instanceMethod yX0_init ∈ wsL_law := inT1 (List.mem_of_getElem? (i := 67) rfl) rfl
theorem mw_57 : Cond.code yX0_init cX0_init 1 none ∈ wsL_law := inT1 (List.mem_of_getElem? (i := 68) rfl) rfl
theorem mw_58 : Cond.methodLink RX0 3 objectInit ∈ wsL_law := inT1 (List.mem_of_getElem? (i := 69) rfl) rfl
theorem mw_59 : Cond.fieldLink RX0 9 "QuarterWords$Acts" "changed" "[I" ∈ wsL_law := inT1 (List.mem_of_getElem? (i := 70) rfl) rfl
theorem mw_60 : Cond.fieldLink RX0 15 "QuarterWords$Acts" "before" "[J" ∈ wsL_law := inT1 (List.mem_of_getElem? (i := 71) rfl) rfl
theorem mw_61 : Cond.fieldLink RX0 19 "QuarterWords$Acts" "size" "I" ∈ wsL_law := inT1 (List.mem_of_getElem? (i := 72) rfl) rfl
theorem mw_62 : Cond.instanceMethod yX3_init ∈ wsL_law := inT1 (List.mem_of_getElem? (i := 83) rfl) rfl
theorem mw_63 : Cond.code yX3_init cX3_init 1 none ∈ wsL_law := inT1 (List.mem_of_getElem? (i := 84) rfl) rfl
theorem mw_64 : Cond.methodLink RX3 3 objectInit ∈ wsL_law := inT1 (List.mem_of_getElem? (i := 85) rfl) rfl
theorem mw_65 : Cond.fieldLink RX3 9 "QuarterWords$Sight" "cells" "[I" ∈ wsL_law := inT1 (List.mem_of_getElem? (i := 86) rfl) rfl
theorem mw_66 : Cond.arrayClass .boolean ∈ wsL_law := inT1 (List.mem_of_getElem? (i := 96) rfl) rfl
theorem mw_67 : Cond.fieldLink RX3 15 "QuarterWords$Sight" "blacks" "[Z" ∈ wsL_law := inT1 (List.mem_of_getElem? (i := 87) rfl) rfl
theorem mw_68 : Cond.fieldLink RX3 19 "QuarterWords$Sight" "size" "I" ∈ wsL_law := inT1 (List.mem_of_getElem? (i := 88) rfl) rfl
theorem mw_69 : Cond.methodLink RL 12 yX7_init ∈ wsL_law := inT3 (List.mem_of_getElem? (i := 104) rfl) rfl
theorem mw_70 : Cond.instanceMethod yX7_init ∈ wsL_law := inT3 (List.mem_of_getElem? (i := 105) rfl) rfl
theorem mw_71 : Cond.code yX7_init cX7_init 1 none ∈ wsL_law := inT3 (List.mem_of_getElem? (i := 106) rfl) rfl
theorem mw_72 : Cond.methodLink RX7 1 objectInit ∈ wsL_law := inT3 (List.mem_of_getElem? (i := 107) rfl) rfl
theorem mw_73 : Cond.fieldLink RX7 7 "QuarterWordsModel" "text" "[I" ∈ wsL_law := inT3 (List.mem_of_getElem? (i := 108) rfl) rfl
theorem mw_74 : Cond.fieldLink RX7 13 "QuarterWordsModel" "now" "[J" ∈ wsL_law := inT3 (List.mem_of_getElem? (i := 113) rfl) rfl
theorem mw_75 : Cond.fieldLink RX7 17 "QuarterWordsModel" "row" "[J" ∈ wsL_law := inT3 (List.mem_of_getElem? (i := 116) rfl) rfl
theorem mw_76 : Cond.fieldLink RX7 20 "QuarterWordsModel" "letters" "[I" ∈ wsL_law := inT3 (List.mem_of_getElem? (i := 117) rfl) rfl
theorem mw_77 : Cond.fieldLink RX7 23 "QuarterWordsModel" "depthAt" "[I" ∈ wsL_law := inT3 (List.mem_of_getElem? (i := 118) rfl) rfl
theorem mw_78 : Cond.fieldLink RX7 26 "QuarterWordsModel" "letterAt" "[I" ∈ wsL_law := inT3 (List.mem_of_getElem? (i := 119) rfl) rfl
theorem mw_79 : Cond.fieldLink RX7 29 "QuarterWordsModel" "seenCell" "[I" ∈ wsL_law := inT3 (List.mem_of_getElem? (i := 122) rfl) rfl
theorem mw_80 : Cond.fieldLink RX7 32 "QuarterWordsModel" "seenBlack" "[I" ∈ wsL_law := inT3 (List.mem_of_getElem? (i := 123) rfl) rfl
theorem mw_81 : Cond.fieldLink RX7 35 "QuarterWordsModel" "isKept" "[Z" ∈ wsL_law := inT3 (List.mem_of_getElem? (i := 125) rfl) rfl
theorem mw_82 : Cond.fieldLink RX7 39 "QuarterWordsModel" "kept" "[J" ∈ wsL_law := inT3 (List.mem_of_getElem? (i := 126) rfl) rfl
theorem mw_83 : Cond.methodLink RL 13 yX6_write ∈ wsL_law := inT1 (List.mem_of_getElem? (i := 127) rfl) rfl
theorem mw_84 : Cond.instanceMethod yX6_write ∈ wsL_law := inT1 (List.mem_of_getElem? (i := 128) rfl) rfl
theorem mw_85 : Cond.selects RX6 yX6_write yX6_write ∈ wsL_law := inT1 (List.mem_of_getElem? (i := 129) rfl) rfl
theorem mw_86 : Cond.code yX6_write cX6_write 2 (some .int) ∈ wsL_law := inT1 (List.mem_of_getElem? (i := 130) rfl) rfl
theorem mw_87 : Cond.methodLink RX6 59 yX4_add ∈ wsL_law := inT1 (List.mem_of_getElem? (i := 131) rfl) rfl
theorem mw_88 : Cond.instanceMethod yX4_add ∈ wsL_law := inT1 (List.mem_of_getElem? (i := 132) rfl) rfl
theorem mw_89 : Cond.selects RX4 yX4_add yX4_add ∈ wsL_law := inT1 (List.mem_of_getElem? (i := 133) rfl) rfl
theorem mw_90 : Cond.code yX4_add cX4_add 2 (some .boolean) ∈ wsL_law := inT1 (List.mem_of_getElem? (i := 134) rfl) rfl
theorem mw_91 : Cond.methodLink RX6 63 yX4_size ∈ wsL_law := inT1 (List.mem_of_getElem? (i := 135) rfl) rfl
theorem mw_92 : Cond.instanceMethod yX4_size ∈ wsL_law := inT1 (List.mem_of_getElem? (i := 136) rfl) rfl
theorem mw_93 : Cond.selects RX4 yX4_size yX4_size ∈ wsL_law := inT1 (List.mem_of_getElem? (i := 137) rfl) rfl
theorem mw_94 : Cond.code yX4_size cX4_size 1 (some .int) ∈ wsL_law := inT1 (List.mem_of_getElem? (i := 138) rfl) rfl
theorem mw_95 : Cond.methodLink RL 17 yX7_write ∈ wsL_law := inT3 (List.mem_of_getElem? (i := 166) rfl) rfl
theorem mw_96 : Cond.instanceMethod yX7_write ∈ wsL_law := inT3 (List.mem_of_getElem? (i := 167) rfl) rfl
theorem mw_97 : Cond.selects RX7 yX7_write yX7_write ∈ wsL_law := inT3 (List.mem_of_getElem? (i := 168) rfl) rfl
theorem mw_98 : Cond.code yX7_write cX7_write 2 (some .int) ∈ wsL_law := inT3 (List.mem_of_getElem? (i := 169) rfl) rfl
theorem mw_99 : Cond.constantLong RX7 67 (255) ∈ wsL_law := inT3 (List.mem_of_getElem? (i := 170) rfl) rfl
theorem mw_100 : Cond.fieldLink RX7 69 "QuarterWordsModel" "length" "I" ∈ wsL_law := inT3 (List.mem_of_getElem? (i := 109) rfl) rfl
theorem mw_101 : Cond.methodLink RX7 44 yX7_in ∈ wsL_law := inT3 (List.mem_of_getElem? (i := 171) rfl) rfl
theorem mw_102 : Cond.static yX7_in ∈ wsL_law := inT3 (List.mem_of_getElem? (i := 172) rfl) rfl
theorem mw_103 : Cond.code yX7_in cX7_in 6 (some .boolean) ∈ wsL_law := inT3 (List.mem_of_getElem? (i := 173) rfl) rfl
theorem mw_104 : Cond.methodLink RL 18 yX6_wipe ∈ wsL_law := inT1 (List.mem_of_getElem? (i := 139) rfl) rfl
theorem mw_105 : Cond.instanceMethod yX6_wipe ∈ wsL_law := inT1 (List.mem_of_getElem? (i := 140) rfl) rfl
theorem mw_106 : Cond.selects RX6 yX6_wipe yX6_wipe ∈ wsL_law := inT1 (List.mem_of_getElem? (i := 141) rfl) rfl
theorem mw_107 : Cond.code yX6_wipe cX6_wipe 2 (some .int) ∈ wsL_law := inT1 (List.mem_of_getElem? (i := 142) rfl) rfl
theorem mw_108 : Cond.methodLink RX6 67 yX4_clear ∈ wsL_law := inT1 (List.mem_of_getElem? (i := 143) rfl) rfl
theorem mw_109 : Cond.instanceMethod yX4_clear ∈ wsL_law := inT1 (List.mem_of_getElem? (i := 144) rfl) rfl
theorem mw_110 : Cond.selects RX4 yX4_clear yX4_clear ∈ wsL_law := inT1 (List.mem_of_getElem? (i := 145) rfl) rfl
theorem mw_111 : Cond.code yX4_clear cX4_clear 1 none ∈ wsL_law := inT1 (List.mem_of_getElem? (i := 146) rfl) rfl
theorem mw_112 : Cond.methodLink RL 22 yX7_wipe ∈ wsL_law := inT3 (List.mem_of_getElem? (i := 174) rfl) rfl
theorem mw_113 : Cond.instanceMethod yX7_wipe ∈ wsL_law := inT3 (List.mem_of_getElem? (i := 175) rfl) rfl
theorem mw_114 : Cond.selects RX7 yX7_wipe yX7_wipe ∈ wsL_law := inT3 (List.mem_of_getElem? (i := 176) rfl) rfl
theorem mw_115 : Cond.code yX7_wipe cX7_wipe 2 (some .int) ∈ wsL_law := inT3 (List.mem_of_getElem? (i := 177) rfl) rfl
theorem mw_116 : Cond.methodLink RL 23 yX6_fault ∈ wsL_law := inT1 (List.mem_of_getElem? (i := 147) rfl) rfl
theorem mw_117 : Cond.instanceMethod yX6_fault ∈ wsL_law := inT1 (List.mem_of_getElem? (i := 148) rfl) rfl
theorem mw_118 : Cond.selects RX6 yX6_fault yX6_fault ∈ wsL_law := inT1 (List.mem_of_getElem? (i := 149) rfl) rfl
theorem mw_119 : Cond.code yX6_fault cX6_fault 1 (some .int) ∈ wsL_law := inT1 (List.mem_of_getElem? (i := 150) rfl) rfl
theorem mw_120 : Cond.methodLink RX6 70 yX4_firstFault ∈ wsL_law := inT1 (List.mem_of_getElem? (i := 151) rfl) rfl
theorem mw_121 : Cond.instanceMethod yX4_firstFault ∈ wsL_law := inT1 (List.mem_of_getElem? (i := 152) rfl) rfl
theorem mw_122 : Cond.selects RX4 yX4_firstFault yX4_firstFault ∈ wsL_law := inT1 (List.mem_of_getElem? (i := 153) rfl) rfl
theorem mw_123 : Cond.code yX4_firstFault cX4_firstFault 2 (some .int) ∈ wsL_law := inT1 (List.mem_of_getElem? (i := 154) rfl) rfl
theorem mw_124 : Cond.methodLink RX4 30 yX5_start ∈ wsL_law := inT1 (List.mem_of_getElem? (i := 155) rfl) rfl
theorem mw_125 : Cond.instanceMethod yX5_start ∈ wsL_law := inT1 (List.mem_of_getElem? (i := 156) rfl) rfl
theorem mw_126 : Cond.selects RX5 yX5_start yX5_start ∈ wsL_law := inT1 (List.mem_of_getElem? (i := 157) rfl) rfl
theorem mw_127 : Cond.code yX5_start cX5_start 1 none ∈ wsL_law := inT1 (List.mem_of_getElem? (i := 158) rfl) rfl
theorem mw_128 : Cond.methodLink RX4 33 yX4_reads ∈ wsL_law := inT1 (List.mem_of_getElem? (i := 159) rfl) rfl
theorem mw_129 : Cond.instanceMethod yX4_reads ∈ wsL_law := inT1 (List.mem_of_getElem? (i := 161) rfl) rfl
theorem mw_130 : Cond.selects RX4 yX4_reads yX4_reads ∈ wsL_law := inP1 (List.mem_of_getElem? (i := 0) rfl) rfl
theorem mw_131 : Cond.code yX4_reads cX4_reads 2 (some .boolean) ∈ wsL_law := inT1 (List.mem_of_getElem? (i := 162) rfl) rfl
theorem mw_132 : Cond.methodLink RX4 37 yX5_hasEnded ∈ wsL_law := inT1 (List.mem_of_getElem? (i := 163) rfl) rfl
theorem mw_133 : Cond.instanceMethod yX5_hasEnded ∈ wsL_law := inT1 (List.mem_of_getElem? (i := 164) rfl) rfl
theorem mw_134 : Cond.selects RX5 yX5_hasEnded yX5_hasEnded ∈ wsL_law := inT1 (List.mem_of_getElem? (i := 165) rfl) rfl
theorem mw_135 : Cond.code yX5_hasEnded cX5_hasEnded 1 (some .boolean) ∈ wsL_law := inT1 (List.mem_of_getElem? (i := 166) rfl) rfl
theorem mw_136 : Cond.methodLink RX4 41 yX5_cut ∈ wsL_law := inT1 (List.mem_of_getElem? (i := 167) rfl) rfl
theorem mw_137 : Cond.instanceMethod yX5_cut ∈ wsL_law := inT1 (List.mem_of_getElem? (i := 168) rfl) rfl
theorem mw_138 : Cond.selects RX5 yX5_cut yX5_cut ∈ wsL_law := inT1 (List.mem_of_getElem? (i := 169) rfl) rfl
theorem mw_139 : Cond.code yX5_cut cX5_cut 1 (some .boolean) ∈ wsL_law := inT1 (List.mem_of_getElem? (i := 170) rfl) rfl
theorem mw_140 : Cond.methodLink RX4 44 yX2_isLeaf ∈ wsL_law := inT1 (List.mem_of_getElem? (i := 171) rfl) rfl
theorem mw_141 : Cond.static yX2_isLeaf ∈ wsL_law := inT1 (List.mem_of_getElem? (i := 172) rfl) rfl
theorem mw_142 : Cond.initialized RX2 ∈ wsL_law := inT1 (List.mem_of_getElem? (i := 8) rfl) rfl
theorem mw_143 : Cond.code yX2_isLeaf cX2_isLeaf 1 (some .boolean) ∈ wsL_law := inT1 (List.mem_of_getElem? (i := 173) rfl) rfl
theorem mw_144 : Cond.methodLink RX4 49 yX5_square ∈ wsL_law := inT1 (List.mem_of_getElem? (i := 174) rfl) rfl
theorem mw_145 : Cond.instanceMethod yX5_square ∈ wsL_law := inT1 (List.mem_of_getElem? (i := 175) rfl) rfl
theorem mw_146 : Cond.selects RX5 yX5_square yX5_square ∈ wsL_law := inT1 (List.mem_of_getElem? (i := 176) rfl) rfl
theorem mw_147 : Cond.code yX5_square cX5_square 1 (some .long) ∈ wsL_law := inT1 (List.mem_of_getElem? (i := 177) rfl) rfl
theorem mw_148 : Cond.methodLink RX5 18 yX5_cell ∈ wsL_law := inT1 (List.mem_of_getElem? (i := 178) rfl) rfl
theorem mw_149 : Cond.instanceMethod yX5_cell ∈ wsL_law := inT1 (List.mem_of_getElem? (i := 180) rfl) rfl
theorem mw_150 : Cond.selects RX5 yX5_cell yX5_cell ∈ wsL_law := inP1 (List.mem_of_getElem? (i := 1) rfl) rfl
theorem mw_151 : Cond.code yX5_cell cX5_cell 3 (some .int) ∈ wsL_law := inT1 (List.mem_of_getElem? (i := 181) rfl) rfl
theorem mw_152 : Cond.methodLink RX5 22 yX2_squareOf ∈ wsL_law := inT1 (List.mem_of_getElem? (i := 182) rfl) rfl
theorem mw_153 : Cond.static yX2_squareOf ∈ wsL_law := inT1 (List.mem_of_getElem? (i := 183) rfl) rfl
theorem mw_154 : Cond.code yX2_squareOf cX2_squareOf 4 (some .long) ∈ wsL_law := inT1 (List.mem_of_getElem? (i := 184) rfl) rfl
theorem mw_155 : Cond.fieldLink RX2 19 "QuarterWords$Shapes" "CORNERS" "[J" ∈ wsL_law := inT1 (List.mem_of_getElem? (i := 185) rfl) rfl
theorem mw_156 : Cond.methodLink RX4 53 yX2_pattern ∈ wsL_law := inT1 (List.mem_of_getElem? (i := 187) rfl) rfl
theorem mw_157 : Cond.static yX2_pattern ∈ wsL_law := inT1 (List.mem_of_getElem? (i := 188) rfl) rfl
theorem mw_158 : Cond.code yX2_pattern cX2_pattern 1 (some .long) ∈ wsL_law := inT1 (List.mem_of_getElem? (i := 189) rfl) rfl
theorem mw_159 : Cond.constantLong RX2 13 (-1) ∈ wsL_law := inT1 (List.mem_of_getElem? (i := 190) rfl) rfl
theorem mw_160 : Cond.constantLong RX2 15 (-6172840429334713771) ∈ wsL_law := inT1 (List.mem_of_getElem? (i := 191) rfl) rfl
theorem mw_161 : Cond.constantLong RX2 17 (71777214294589695) ∈ wsL_law := inT1 (List.mem_of_getElem? (i := 192) rfl) rfl
theorem mw_162 : Cond.methodLink RX4 57 yX5_pass ∈ wsL_law := inT1 (List.mem_of_getElem? (i := 193) rfl) rfl
theorem mw_163 : Cond.instanceMethod yX5_pass ∈ wsL_law := inT1 (List.mem_of_getElem? (i := 194) rfl) rfl
theorem mw_164 : Cond.selects RX5 yX5_pass yX5_pass ∈ wsL_law := inT1 (List.mem_of_getElem? (i := 195) rfl) rfl
theorem mw_165 : Cond.code yX5_pass cX5_pass 1 none ∈ wsL_law := inT1 (List.mem_of_getElem? (i := 196) rfl) rfl
theorem mw_166 : Cond.methodLink RX5 28 yX5_sizeAt ∈ wsL_law := inT1 (List.mem_of_getElem? (i := 197) rfl) rfl
theorem mw_167 : Cond.static yX5_sizeAt ∈ wsL_law := inT1 (List.mem_of_getElem? (i := 198) rfl) rfl
theorem mw_168 : Cond.code yX5_sizeAt cX5_sizeAt 1 (some .int) ∈ wsL_law := inT1 (List.mem_of_getElem? (i := 199) rfl) rfl
theorem mw_169 : Cond.methodLink RL 26 yX7_fault ∈ wsL_law := inT3 (List.mem_of_getElem? (i := 178) rfl) rfl
theorem mw_170 : Cond.instanceMethod yX7_fault ∈ wsL_law := inT3 (List.mem_of_getElem? (i := 179) rfl) rfl
theorem mw_171 : Cond.selects RX7 yX7_fault yX7_fault ∈ wsL_law := inT3 (List.mem_of_getElem? (i := 180) rfl) rfl
theorem mw_172 : Cond.code yX7_fault cX7_fault 1 (some .int) ∈ wsL_law := inT3 (List.mem_of_getElem? (i := 181) rfl) rfl
theorem mw_173 : Cond.methodLink RX7 92 yX7_readText ∈ wsL_law := inT3 (List.mem_of_getElem? (i := 182) rfl) rfl
theorem mw_174 : Cond.instanceMethod yX7_readText ∈ wsL_law := inT3 (List.mem_of_getElem? (i := 184) rfl) rfl
theorem mw_175 : Cond.selects RX7 yX7_readText yX7_readText ∈ wsL_law := inP1 (List.mem_of_getElem? (i := 14) rfl) rfl
theorem mw_176 : Cond.code yX7_readText cX7_readText 3 (some .int) ∈ wsL_law := inT3 (List.mem_of_getElem? (i := 185) rfl) rfl
theorem mw_177 : Cond.fieldLink RX7 73 "QuarterWordsModel" "depth" "I" ∈ wsL_law := inT3 (List.mem_of_getElem? (i := 111) rfl) rfl
theorem mw_178 : Cond.fieldLink RX7 76 "QuarterWordsModel" "place" "I" ∈ wsL_law := inT3 (List.mem_of_getElem? (i := 112) rfl) rfl
theorem mw_179 : Cond.fieldLink RX7 79 "QuarterWordsModel" "read" "J" ∈ wsL_law := inT3 (List.mem_of_getElem? (i := 110) rfl) rfl
theorem mw_180 : Cond.constantLong RX7 83 (2) ∈ wsL_law := inT3 (List.mem_of_getElem? (i := 186) rfl) rfl
theorem mw_181 : Cond.methodLink RX7 85 yX7_isLeaf ∈ wsL_law := inT3 (List.mem_of_getElem? (i := 187) rfl) rfl
theorem mw_182 : Cond.static yX7_isLeaf ∈ wsL_law := inT3 (List.mem_of_getElem? (i := 188) rfl) rfl
theorem mw_183 : Cond.code yX7_isLeaf cX7_isLeaf 1 (some .boolean) ∈ wsL_law := inT3 (List.mem_of_getElem? (i := 189) rfl) rfl
theorem mw_184 : Cond.methodLink RX7 52 yX7_paintOf ∈ wsL_law := inT3 (List.mem_of_getElem? (i := 190) rfl) rfl
theorem mw_185 : Cond.static yX7_paintOf ∈ wsL_law := inT3 (List.mem_of_getElem? (i := 191) rfl) rfl
theorem mw_186 : Cond.code yX7_paintOf cX7_paintOf 9 (some .long) ∈ wsL_law := inT3 (List.mem_of_getElem? (i := 192) rfl) rfl
theorem mw_187 : Cond.methodLink RX7 56 yX7_leftOf ∈ wsL_law := inT3 (List.mem_of_getElem? (i := 193) rfl) rfl
theorem mw_188 : Cond.static yX7_leftOf ∈ wsL_law := inT3 (List.mem_of_getElem? (i := 194) rfl) rfl
theorem mw_189 : Cond.code yX7_leftOf cX7_leftOf 5 (some .int) ∈ wsL_law := inT3 (List.mem_of_getElem? (i := 195) rfl) rfl
theorem mw_190 : Cond.methodLink RX7 48 yX7_widthAt ∈ wsL_law := inT3 (List.mem_of_getElem? (i := 196) rfl) rfl
theorem mw_191 : Cond.static yX7_widthAt ∈ wsL_law := inT3 (List.mem_of_getElem? (i := 197) rfl) rfl
theorem mw_192 : Cond.code yX7_widthAt cX7_widthAt 1 (some .int) ∈ wsL_law := inT3 (List.mem_of_getElem? (i := 198) rfl) rfl
theorem mw_193 : Cond.methodLink RX7 60 yX7_lowOf ∈ wsL_law := inT3 (List.mem_of_getElem? (i := 199) rfl) rfl
theorem mw_194 : Cond.static yX7_lowOf ∈ wsL_law := inT3 (List.mem_of_getElem? (i := 200) rfl) rfl
theorem mw_195 : Cond.code yX7_lowOf cX7_lowOf 5 (some .int) ∈ wsL_law := inT3 (List.mem_of_getElem? (i := 201) rfl) rfl
theorem mw_196 : Cond.methodLink RX7 63 yX7_tells ∈ wsL_law := inT3 (List.mem_of_getElem? (i := 202) rfl) rfl
theorem mw_197 : Cond.static yX7_tells ∈ wsL_law := inT3 (List.mem_of_getElem? (i := 203) rfl) rfl
theorem mw_198 : Cond.code yX7_tells cX7_tells 3 (some .boolean) ∈ wsL_law := inT3 (List.mem_of_getElem? (i := 204) rfl) rfl
theorem mw_199 : Cond.methodLink RX7 89 yX7_goOn ∈ wsL_law := inT3 (List.mem_of_getElem? (i := 205) rfl) rfl
theorem mw_200 : Cond.instanceMethod yX7_goOn ∈ wsL_law := inT3 (List.mem_of_getElem? (i := 207) rfl) rfl
theorem mw_201 : Cond.selects RX7 yX7_goOn yX7_goOn ∈ wsL_law := inP1 (List.mem_of_getElem? (i := 15) rfl) rfl
theorem mw_202 : Cond.code yX7_goOn cX7_goOn 1 none ∈ wsL_law := inT3 (List.mem_of_getElem? (i := 208) rfl) rfl
theorem mw_203 : Cond.methodLink RL 27 yX6_put ∈ wsL_law := inT1 (List.mem_of_getElem? (i := 200) rfl) rfl
theorem mw_204 : Cond.instanceMethod yX6_put ∈ wsL_law := inT1 (List.mem_of_getElem? (i := 201) rfl) rfl
theorem mw_205 : Cond.selects RX6 yX6_put yX6_put ∈ wsL_law := inT1 (List.mem_of_getElem? (i := 202) rfl) rfl
theorem mw_206 : Cond.code yX6_put cX6_put 2 (some .int) ∈ wsL_law := inT1 (List.mem_of_getElem? (i := 203) rfl) rfl
theorem mw_207 : Cond.methodLink RX6 73 yX6_isPicture ∈ wsL_law := inT1 (List.mem_of_getElem? (i := 204) rfl) rfl
theorem mw_208 : Cond.static yX6_isPicture ∈ wsL_law := inT1 (List.mem_of_getElem? (i := 205) rfl) rfl
theorem mw_209 : Cond.code yX6_isPicture cX6_isPicture 1 (some .boolean) ∈ wsL_law := inT1 (List.mem_of_getElem? (i := 206) rfl) rfl
theorem mw_210 : Cond.methodLink RX6 76 yX4_drawn ∈ wsL_law := inT1 (List.mem_of_getElem? (i := 207) rfl) rfl
theorem mw_211 : Cond.instanceMethod yX4_drawn ∈ wsL_law := inT1 (List.mem_of_getElem? (i := 208) rfl) rfl
theorem mw_212 : Cond.selects RX4 yX4_drawn yX4_drawn ∈ wsL_law := inT1 (List.mem_of_getElem? (i := 209) rfl) rfl
theorem mw_213 : Cond.code yX4_drawn cX4_drawn 1 (some .long) ∈ wsL_law := inT1 (List.mem_of_getElem? (i := 210) rfl) rfl
theorem mw_214 : Cond.methodLink RX6 80 yX6_change ∈ wsL_law := inT1 (List.mem_of_getElem? (i := 211) rfl) rfl
theorem mw_215 : Cond.instanceMethod yX6_change ∈ wsL_law := inT1 (List.mem_of_getElem? (i := 213) rfl) rfl
theorem mw_216 : Cond.selects RX6 yX6_change yX6_change ∈ wsL_law := inP1 (List.mem_of_getElem? (i := 2) rfl) rfl
theorem mw_217 : Cond.code yX6_change cX6_change 4 (some .long) ∈ wsL_law := inT1 (List.mem_of_getElem? (i := 214) rfl) rfl
theorem mw_218 : Cond.methodLink RX6 94 yX1_cells ∈ wsL_law := inT1 (List.mem_of_getElem? (i := 215) rfl) rfl
theorem mw_219 : Cond.instanceMethod yX1_cells ∈ wsL_law := inT1 (List.mem_of_getElem? (i := 216) rfl) rfl
theorem mw_220 : Cond.selects RX1 yX1_cells yX1_cells ∈ wsL_law := inT1 (List.mem_of_getElem? (i := 217) rfl) rfl
theorem mw_221 : Cond.code yX1_cells cX1_cells 2 (some .long) ∈ wsL_law := inT1 (List.mem_of_getElem? (i := 218) rfl) rfl
theorem mw_222 : Cond.methodLink RX6 237 yX0_add ∈ wsL_law := inT1 (List.mem_of_getElem? (i := 220) rfl) rfl
theorem mw_223 : Cond.instanceMethod yX0_add ∈ wsL_law := inT1 (List.mem_of_getElem? (i := 221) rfl) rfl
theorem mw_224 : Cond.selects RX0 yX0_add yX0_add ∈ wsL_law := inT1 (List.mem_of_getElem? (i := 222) rfl) rfl
theorem mw_225 : Cond.code yX0_add cX0_add 4 none ∈ wsL_law := inT1 (List.mem_of_getElem? (i := 223) rfl) rfl
theorem mw_226 : Cond.methodLink RX0 23 yX0_forgetFirst ∈ wsL_law := inT1 (List.mem_of_getElem? (i := 224) rfl) rfl
theorem mw_227 : Cond.instanceMethod yX0_forgetFirst ∈ wsL_law := inT1 (List.mem_of_getElem? (i := 226) rfl) rfl
theorem mw_228 : Cond.selects RX0 yX0_forgetFirst yX0_forgetFirst ∈ wsL_law := inP1 (List.mem_of_getElem? (i := 3) rfl) rfl
theorem mw_229 : Cond.code yX0_forgetFirst cX0_forgetFirst 2 none ∈ wsL_law := inT1 (List.mem_of_getElem? (i := 227) rfl) rfl
theorem mw_230 : Cond.methodLink RX6 127 yX1_set ∈ wsL_law := inT1 (List.mem_of_getElem? (i := 228) rfl) rfl
theorem mw_231 : Cond.instanceMethod yX1_set ∈ wsL_law := inT1 (List.mem_of_getElem? (i := 229) rfl) rfl
theorem mw_232 : Cond.selects RX1 yX1_set yX1_set ∈ wsL_law := inT1 (List.mem_of_getElem? (i := 230) rfl) rfl
theorem mw_233 : Cond.code yX1_set cX1_set 4 none ∈ wsL_law := inT1 (List.mem_of_getElem? (i := 231) rfl) rfl
theorem mw_234 : Cond.methodLink RX6 84 yJ13_bitCount_95d88 ∈ wsL_law := inT1 (List.mem_of_getElem? (i := 232) rfl) rfl
theorem mw_235 : Cond.static yJ13_bitCount_95d88 ∈ wsL_law := inT1 (List.mem_of_getElem? (i := 233) rfl) rfl
theorem mw_236 : Cond.initialized RJ13 ∈ wsL_law := inT1 (List.mem_of_getElem? (i := 9) rfl) rfl
theorem mw_237 : Cond.code yJ13_bitCount_95d88 cJ13_bitCount_95d88 2 (some .int) ∈ wsL_law := inT1 (List.mem_of_getElem? (i := 234) rfl) rfl
theorem mw_238 : Cond.constantLong RJ13 314 (6148914691236517205) ∈ wsL_law := inT1 (List.mem_of_getElem? (i := 235) rfl) rfl
theorem mw_239 : Cond.constantLong RJ13 316 (3689348814741910323) ∈ wsL_law := inT1 (List.mem_of_getElem? (i := 236) rfl) rfl
theorem mw_240 : Cond.constantLong RJ13 318 (1085102592571150095) ∈ wsL_law := inT1 (List.mem_of_getElem? (i := 237) rfl) rfl
theorem mw_241 : Cond.methodLink RL 30 yX7_put ∈ wsL_law := inT3 (List.mem_of_getElem? (i := 209) rfl) rfl
theorem mw_242 : Cond.instanceMethod yX7_put ∈ wsL_law := inT3 (List.mem_of_getElem? (i := 210) rfl) rfl
theorem mw_243 : Cond.selects RX7 yX7_put yX7_put ∈ wsL_law := inT3 (List.mem_of_getElem? (i := 211) rfl) rfl
theorem mw_244 : Cond.code yX7_put cX7_put 2 (some .int) ∈ wsL_law := inT3 (List.mem_of_getElem? (i := 212) rfl) rfl
theorem mw_245 : Cond.methodLink RX7 106 yX7_isPicture ∈ wsL_law := inT3 (List.mem_of_getElem? (i := 213) rfl) rfl
theorem mw_246 : Cond.static yX7_isPicture ∈ wsL_law := inT3 (List.mem_of_getElem? (i := 214) rfl) rfl
theorem mw_247 : Cond.code yX7_isPicture cX7_isPicture 1 (some .boolean) ∈ wsL_law := inT3 (List.mem_of_getElem? (i := 215) rfl) rfl
theorem mw_248 : Cond.methodLink RX7 109 yX7_keepAct ∈ wsL_law := inT3 (List.mem_of_getElem? (i := 216) rfl) rfl
theorem mw_249 : Cond.instanceMethod yX7_keepAct ∈ wsL_law := inT3 (List.mem_of_getElem? (i := 218) rfl) rfl
theorem mw_250 : Cond.selects RX7 yX7_keepAct yX7_keepAct ∈ wsL_law := inP2 (List.mem_of_getElem? (i := 0) rfl) rfl
theorem mw_251 : Cond.code yX7_keepAct cX7_keepAct 2 none ∈ wsL_law := inT3 (List.mem_of_getElem? (i := 219) rfl) rfl
theorem mw_252 : Cond.fieldLink RX7 100 "QuarterWordsModel" "next" "I" ∈ wsL_law := inT3 (List.mem_of_getElem? (i := 115) rfl) rfl
theorem mw_253 : Cond.fieldLink RX7 103 "QuarterWordsModel" "acts" "I" ∈ wsL_law := inT3 (List.mem_of_getElem? (i := 114) rfl) rfl
theorem mw_254 : Cond.methodLink RX7 112 yX7_ones ∈ wsL_law := inT3 (List.mem_of_getElem? (i := 220) rfl) rfl
theorem mw_255 : Cond.static yX7_ones ∈ wsL_law := inT3 (List.mem_of_getElem? (i := 221) rfl) rfl
theorem mw_256 : Cond.code yX7_ones cX7_ones 4 (some .int) ∈ wsL_law := inT3 (List.mem_of_getElem? (i := 222) rfl) rfl
theorem mw_257 : Cond.methodLink RL 31 yX6_join ∈ wsL_law := inT1 (List.mem_of_getElem? (i := 238) rfl) rfl
theorem mw_258 : Cond.instanceMethod yX6_join ∈ wsL_law := inT1 (List.mem_of_getElem? (i := 239) rfl) rfl
theorem mw_259 : Cond.selects RX6 yX6_join yX6_join ∈ wsL_law := inT2 (List.mem_of_getElem? (i := 0) rfl) rfl
theorem mw_260 : Cond.code yX6_join cX6_join 3 (some .int) ∈ wsL_law := inT2 (List.mem_of_getElem? (i := 1) rfl) rfl
theorem mw_261 : Cond.methodLink RX6 90 yX6_combine ∈ wsL_law := inT2 (List.mem_of_getElem? (i := 2) rfl) rfl
theorem mw_262 : Cond.instanceMethod yX6_combine ∈ wsL_law := inT2 (List.mem_of_getElem? (i := 4) rfl) rfl
theorem mw_263 : Cond.selects RX6 yX6_combine yX6_combine ∈ wsL_law := inP1 (List.mem_of_getElem? (i := 4) rfl) rfl
theorem mw_264 : Cond.code yX6_combine cX6_combine 4 (some .int) ∈ wsL_law := inT2 (List.mem_of_getElem? (i := 5) rfl) rfl
theorem mw_265 : Cond.methodLink RX6 239 yX2_combined ∈ wsL_law := inT2 (List.mem_of_getElem? (i := 6) rfl) rfl
theorem mw_266 : Cond.static yX2_combined ∈ wsL_law := inT2 (List.mem_of_getElem? (i := 7) rfl) rfl
theorem mw_267 : Cond.code yX2_combined cX2_combined 5 (some .long) ∈ wsL_law := inT2 (List.mem_of_getElem? (i := 8) rfl) rfl
theorem mw_268 : Cond.methodLink RL 35 yX7_join ∈ wsL_law := inT3 (List.mem_of_getElem? (i := 223) rfl) rfl
theorem mw_269 : Cond.instanceMethod yX7_join ∈ wsL_law := inT3 (List.mem_of_getElem? (i := 224) rfl) rfl
theorem mw_270 : Cond.selects RX7 yX7_join yX7_join ∈ wsL_law := inT3 (List.mem_of_getElem? (i := 225) rfl) rfl
theorem mw_271 : Cond.code yX7_join cX7_join 3 (some .int) ∈ wsL_law := inT3 (List.mem_of_getElem? (i := 226) rfl) rfl
theorem mw_272 : Cond.methodLink RX7 122 yX7_mix ∈ wsL_law := inT3 (List.mem_of_getElem? (i := 227) rfl) rfl
theorem mw_273 : Cond.instanceMethod yX7_mix ∈ wsL_law := inT3 (List.mem_of_getElem? (i := 229) rfl) rfl
theorem mw_274 : Cond.selects RX7 yX7_mix yX7_mix ∈ wsL_law := inP2 (List.mem_of_getElem? (i := 1) rfl) rfl
theorem mw_275 : Cond.code yX7_mix cX7_mix 4 (some .int) ∈ wsL_law := inT3 (List.mem_of_getElem? (i := 230) rfl) rfl
theorem mw_276 : Cond.methodLink RX7 118 yX7_mixOn ∈ wsL_law := inT3 (List.mem_of_getElem? (i := 231) rfl) rfl
theorem mw_277 : Cond.instanceMethod yX7_mixOn ∈ wsL_law := inT3 (List.mem_of_getElem? (i := 233) rfl) rfl
theorem mw_278 : Cond.selects RX7 yX7_mixOn yX7_mixOn ∈ wsL_law := inP2 (List.mem_of_getElem? (i := 2) rfl) rfl
theorem mw_279 : Cond.code yX7_mixOn cX7_mixOn 9 none ∈ wsL_law := inT3 (List.mem_of_getElem? (i := 234) rfl) rfl
theorem mw_280 : Cond.constantLong RX7 116 (-1) ∈ wsL_law := inT3 (List.mem_of_getElem? (i := 235) rfl) rfl
theorem mw_281 : Cond.methodLink RL 36 yX6_meet ∈ wsL_law := inT2 (List.mem_of_getElem? (i := 9) rfl) rfl
theorem mw_282 : Cond.instanceMethod yX6_meet ∈ wsL_law := inT2 (List.mem_of_getElem? (i := 10) rfl) rfl
theorem mw_283 : Cond.selects RX6 yX6_meet yX6_meet ∈ wsL_law := inT2 (List.mem_of_getElem? (i := 11) rfl) rfl
theorem mw_284 : Cond.code yX6_meet cX6_meet 3 (some .int) ∈ wsL_law := inT2 (List.mem_of_getElem? (i := 12) rfl) rfl
theorem mw_285 : Cond.methodLink RL 39 yX7_meet ∈ wsL_law := inT3 (List.mem_of_getElem? (i := 236) rfl) rfl
theorem mw_286 : Cond.instanceMethod yX7_meet ∈ wsL_law := inT3 (List.mem_of_getElem? (i := 237) rfl) rfl
theorem mw_287 : Cond.selects RX7 yX7_meet yX7_meet ∈ wsL_law := inT3 (List.mem_of_getElem? (i := 238) rfl) rfl
theorem mw_288 : Cond.code yX7_meet cX7_meet 3 (some .int) ∈ wsL_law := inT3 (List.mem_of_getElem? (i := 239) rfl) rfl
theorem mw_289 : Cond.methodLink RL 40 yX6_less ∈ wsL_law := inT2 (List.mem_of_getElem? (i := 13) rfl) rfl
theorem mw_290 : Cond.instanceMethod yX6_less ∈ wsL_law := inT2 (List.mem_of_getElem? (i := 14) rfl) rfl
theorem mw_291 : Cond.selects RX6 yX6_less yX6_less ∈ wsL_law := inT2 (List.mem_of_getElem? (i := 15) rfl) rfl
theorem mw_292 : Cond.code yX6_less cX6_less 3 (some .int) ∈ wsL_law := inT2 (List.mem_of_getElem? (i := 16) rfl) rfl
theorem mw_293 : Cond.methodLink RL 43 yX7_less ∈ wsL_law := inT4 (List.mem_of_getElem? (i := 0) rfl) rfl
theorem mw_294 : Cond.instanceMethod yX7_less ∈ wsL_law := inT4 (List.mem_of_getElem? (i := 1) rfl) rfl
theorem mw_295 : Cond.selects RX7 yX7_less yX7_less ∈ wsL_law := inT4 (List.mem_of_getElem? (i := 2) rfl) rfl
theorem mw_296 : Cond.code yX7_less cX7_less 3 (some .int) ∈ wsL_law := inT4 (List.mem_of_getElem? (i := 3) rfl) rfl
theorem mw_297 : Cond.methodLink RL 44 yX6_turn ∈ wsL_law := inT2 (List.mem_of_getElem? (i := 17) rfl) rfl
theorem mw_298 : Cond.instanceMethod yX6_turn ∈ wsL_law := inT2 (List.mem_of_getElem? (i := 18) rfl) rfl
theorem mw_299 : Cond.selects RX6 yX6_turn yX6_turn ∈ wsL_law := inT2 (List.mem_of_getElem? (i := 19) rfl) rfl
theorem mw_300 : Cond.code yX6_turn cX6_turn 2 (some .int) ∈ wsL_law := inT2 (List.mem_of_getElem? (i := 20) rfl) rfl
theorem mw_301 : Cond.methodLink RX6 98 yX2_turned ∈ wsL_law := inT2 (List.mem_of_getElem? (i := 21) rfl) rfl
theorem mw_302 : Cond.static yX2_turned ∈ wsL_law := inT2 (List.mem_of_getElem? (i := 22) rfl) rfl
theorem mw_303 : Cond.code yX2_turned cX2_turned 5 (some .long) ∈ wsL_law := inT2 (List.mem_of_getElem? (i := 23) rfl) rfl
theorem mw_304 : Cond.methodLink RX2 35 yX2_isBlack ∈ wsL_law := inT2 (List.mem_of_getElem? (i := 24) rfl) rfl
theorem mw_305 : Cond.static yX2_isBlack ∈ wsL_law := inT2 (List.mem_of_getElem? (i := 25) rfl) rfl
theorem mw_306 : Cond.code yX2_isBlack cX2_isBlack 3 (some .boolean) ∈ wsL_law := inT2 (List.mem_of_getElem? (i := 26) rfl) rfl
theorem mw_307 : Cond.methodLink RX2 39 yX2_bit ∈ wsL_law := inT2 (List.mem_of_getElem? (i := 27) rfl) rfl
theorem mw_308 : Cond.static yX2_bit ∈ wsL_law := inT2 (List.mem_of_getElem? (i := 28) rfl) rfl
theorem mw_309 : Cond.code yX2_bit cX2_bit 2 (some .long) ∈ wsL_law := inT2 (List.mem_of_getElem? (i := 29) rfl) rfl
theorem mw_310 : Cond.methodLink RX6 104 yX2_lowestRow ∈ wsL_law := inT2 (List.mem_of_getElem? (i := 30) rfl) rfl
theorem mw_311 : Cond.static yX2_lowestRow ∈ wsL_law := inT2 (List.mem_of_getElem? (i := 31) rfl) rfl
theorem mw_312 : Cond.code yX2_lowestRow cX2_lowestRow 2 (some .int) ∈ wsL_law := inT2 (List.mem_of_getElem? (i := 32) rfl) rfl
theorem mw_313 : Cond.constantLong RX2 11 (255) ∈ wsL_law := inT2 (List.mem_of_getElem? (i := 33) rfl) rfl
theorem mw_314 : Cond.methodLink RL 47 yX7_turn ∈ wsL_law := inT4 (List.mem_of_getElem? (i := 4) rfl) rfl
theorem mw_315 : Cond.instanceMethod yX7_turn ∈ wsL_law := inT4 (List.mem_of_getElem? (i := 5) rfl) rfl
theorem mw_316 : Cond.selects RX7 yX7_turn yX7_turn ∈ wsL_law := inT4 (List.mem_of_getElem? (i := 6) rfl) rfl
theorem mw_317 : Cond.code yX7_turn cX7_turn 2 (some .int) ∈ wsL_law := inT4 (List.mem_of_getElem? (i := 7) rfl) rfl
theorem mw_318 : Cond.methodLink RX7 126 yX7_turned ∈ wsL_law := inT4 (List.mem_of_getElem? (i := 8) rfl) rfl
theorem mw_319 : Cond.static yX7_turned ∈ wsL_law := inT4 (List.mem_of_getElem? (i := 9) rfl) rfl
theorem mw_320 : Cond.code yX7_turned cX7_turned 7 (some .long) ∈ wsL_law := inT4 (List.mem_of_getElem? (i := 10) rfl) rfl
theorem mw_321 : Cond.methodLink RX7 96 yX7_is ∈ wsL_law := inT4 (List.mem_of_getElem? (i := 11) rfl) rfl
theorem mw_322 : Cond.static yX7_is ∈ wsL_law := inT4 (List.mem_of_getElem? (i := 12) rfl) rfl
theorem mw_323 : Cond.code yX7_is cX7_is 4 (some .boolean) ∈ wsL_law := inT4 (List.mem_of_getElem? (i := 13) rfl) rfl
theorem mw_324 : Cond.constantLong RX7 42 (7) ∈ wsL_law := inT4 (List.mem_of_getElem? (i := 14) rfl) rfl
theorem mw_325 : Cond.methodLink RL 48 yX6_flip ∈ wsL_law := inT2 (List.mem_of_getElem? (i := 34) rfl) rfl
theorem mw_326 : Cond.instanceMethod yX6_flip ∈ wsL_law := inT2 (List.mem_of_getElem? (i := 35) rfl) rfl
theorem mw_327 : Cond.selects RX6 yX6_flip yX6_flip ∈ wsL_law := inT2 (List.mem_of_getElem? (i := 36) rfl) rfl
theorem mw_328 : Cond.code yX6_flip cX6_flip 2 (some .int) ∈ wsL_law := inT2 (List.mem_of_getElem? (i := 37) rfl) rfl
theorem mw_329 : Cond.methodLink RX6 107 yX2_flipped ∈ wsL_law := inT2 (List.mem_of_getElem? (i := 38) rfl) rfl
theorem mw_330 : Cond.static yX2_flipped ∈ wsL_law := inT2 (List.mem_of_getElem? (i := 39) rfl) rfl
theorem mw_331 : Cond.code yX2_flipped cX2_flipped 5 (some .long) ∈ wsL_law := inT2 (List.mem_of_getElem? (i := 40) rfl) rfl
theorem mw_332 : Cond.methodLink RL 51 yX7_flip ∈ wsL_law := inT4 (List.mem_of_getElem? (i := 15) rfl) rfl
theorem mw_333 : Cond.instanceMethod yX7_flip ∈ wsL_law := inT4 (List.mem_of_getElem? (i := 16) rfl) rfl
theorem mw_334 : Cond.selects RX7 yX7_flip yX7_flip ∈ wsL_law := inT4 (List.mem_of_getElem? (i := 17) rfl) rfl
theorem mw_335 : Cond.code yX7_flip cX7_flip 2 (some .int) ∈ wsL_law := inT4 (List.mem_of_getElem? (i := 18) rfl) rfl
theorem mw_336 : Cond.methodLink RX7 130 yX7_flipped ∈ wsL_law := inT4 (List.mem_of_getElem? (i := 19) rfl) rfl
theorem mw_337 : Cond.static yX7_flipped ∈ wsL_law := inT4 (List.mem_of_getElem? (i := 20) rfl) rfl
theorem mw_338 : Cond.code yX7_flipped cX7_flipped 5 (some .long) ∈ wsL_law := inT4 (List.mem_of_getElem? (i := 21) rfl) rfl
theorem mw_339 : Cond.methodLink RL 52 yX6_halve ∈ wsL_law := inT2 (List.mem_of_getElem? (i := 41) rfl) rfl
theorem mw_340 : Cond.instanceMethod yX6_halve ∈ wsL_law := inT2 (List.mem_of_getElem? (i := 42) rfl) rfl
theorem mw_341 : Cond.selects RX6 yX6_halve yX6_halve ∈ wsL_law := inT2 (List.mem_of_getElem? (i := 43) rfl) rfl
theorem mw_342 : Cond.code yX6_halve cX6_halve 3 (some .int) ∈ wsL_law := inT2 (List.mem_of_getElem? (i := 44) rfl) rfl
theorem mw_343 : Cond.methodLink RX6 110 yX6_isQuarter ∈ wsL_law := inT2 (List.mem_of_getElem? (i := 45) rfl) rfl
theorem mw_344 : Cond.static yX6_isQuarter ∈ wsL_law := inT2 (List.mem_of_getElem? (i := 46) rfl) rfl
theorem mw_345 : Cond.code yX6_isQuarter cX6_isQuarter 1 (some .boolean) ∈ wsL_law := inT2 (List.mem_of_getElem? (i := 47) rfl) rfl
theorem mw_346 : Cond.methodLink RX6 113 yX2_halved ∈ wsL_law := inT2 (List.mem_of_getElem? (i := 48) rfl) rfl
theorem mw_347 : Cond.static yX2_halved ∈ wsL_law := inT2 (List.mem_of_getElem? (i := 49) rfl) rfl
theorem mw_348 : Cond.code yX2_halved cX2_halved 7 (some .long) ∈ wsL_law := inT2 (List.mem_of_getElem? (i := 50) rfl) rfl
theorem mw_349 : Cond.methodLink RX2 42 yX2_fourCells ∈ wsL_law := inT2 (List.mem_of_getElem? (i := 51) rfl) rfl
theorem mw_350 : Cond.static yX2_fourCells ∈ wsL_law := inT2 (List.mem_of_getElem? (i := 52) rfl) rfl
theorem mw_351 : Cond.code yX2_fourCells cX2_fourCells 2 (some .long) ∈ wsL_law := inT2 (List.mem_of_getElem? (i := 53) rfl) rfl
theorem mw_352 : Cond.constantLong RX2 51 (771) ∈ wsL_law := inT2 (List.mem_of_getElem? (i := 54) rfl) rfl
theorem mw_353 : Cond.methodLink RX2 45 yJ13_bitCount_95d88 ∈ wsL_law := inT2 (List.mem_of_getElem? (i := 55) rfl) rfl
theorem mw_354 : Cond.methodLink RX2 23 yX2_quarterCorner ∈ wsL_law := inT2 (List.mem_of_getElem? (i := 56) rfl) rfl
theorem mw_355 : Cond.static yX2_quarterCorner ∈ wsL_law := inT2 (List.mem_of_getElem? (i := 57) rfl) rfl
theorem mw_356 : Cond.code yX2_quarterCorner cX2_quarterCorner 1 (some .int) ∈ wsL_law := inT2 (List.mem_of_getElem? (i := 58) rfl) rfl
theorem mw_357 : Cond.methodLink RL 55 yX7_halve ∈ wsL_law := inT4 (List.mem_of_getElem? (i := 22) rfl) rfl
theorem mw_358 : Cond.instanceMethod yX7_halve ∈ wsL_law := inT4 (List.mem_of_getElem? (i := 23) rfl) rfl
theorem mw_359 : Cond.selects RX7 yX7_halve yX7_halve ∈ wsL_law := inT4 (List.mem_of_getElem? (i := 24) rfl) rfl
theorem mw_360 : Cond.code yX7_halve cX7_halve 3 (some .int) ∈ wsL_law := inT4 (List.mem_of_getElem? (i := 25) rfl) rfl
theorem mw_361 : Cond.constantLong RX7 133 (3) ∈ wsL_law := inT4 (List.mem_of_getElem? (i := 26) rfl) rfl
theorem mw_362 : Cond.methodLink RX7 135 yX7_halved ∈ wsL_law := inT4 (List.mem_of_getElem? (i := 27) rfl) rfl
theorem mw_363 : Cond.static yX7_halved ∈ wsL_law := inT4 (List.mem_of_getElem? (i := 28) rfl) rfl
theorem mw_364 : Cond.code yX7_halved cX7_halved 10 (some .long) ∈ wsL_law := inT4 (List.mem_of_getElem? (i := 29) rfl) rfl
theorem mw_365 : Cond.methodLink RL 56 yX6_grow ∈ wsL_law := inT2 (List.mem_of_getElem? (i := 59) rfl) rfl
theorem mw_366 : Cond.instanceMethod yX6_grow ∈ wsL_law := inT2 (List.mem_of_getElem? (i := 60) rfl) rfl
theorem mw_367 : Cond.selects RX6 yX6_grow yX6_grow ∈ wsL_law := inT2 (List.mem_of_getElem? (i := 61) rfl) rfl
theorem mw_368 : Cond.code yX6_grow cX6_grow 3 (some .int) ∈ wsL_law := inT2 (List.mem_of_getElem? (i := 62) rfl) rfl
theorem mw_369 : Cond.methodLink RX6 117 yX2_grown ∈ wsL_law := inT2 (List.mem_of_getElem? (i := 63) rfl) rfl
theorem mw_370 : Cond.static yX2_grown ∈ wsL_law := inT2 (List.mem_of_getElem? (i := 64) rfl) rfl
theorem mw_371 : Cond.code yX2_grown cX2_grown 7 (some .long) ∈ wsL_law := inT2 (List.mem_of_getElem? (i := 65) rfl) rfl
theorem mw_372 : Cond.methodLink RL 59 yX7_grow ∈ wsL_law := inT4 (List.mem_of_getElem? (i := 30) rfl) rfl
theorem mw_373 : Cond.instanceMethod yX7_grow ∈ wsL_law := inT4 (List.mem_of_getElem? (i := 31) rfl) rfl
theorem mw_374 : Cond.selects RX7 yX7_grow yX7_grow ∈ wsL_law := inT4 (List.mem_of_getElem? (i := 32) rfl) rfl
theorem mw_375 : Cond.code yX7_grow cX7_grow 3 (some .int) ∈ wsL_law := inT4 (List.mem_of_getElem? (i := 33) rfl) rfl
theorem mw_376 : Cond.methodLink RX7 139 yX7_grown ∈ wsL_law := inT4 (List.mem_of_getElem? (i := 34) rfl) rfl
theorem mw_377 : Cond.static yX7_grown ∈ wsL_law := inT4 (List.mem_of_getElem? (i := 35) rfl) rfl
theorem mw_378 : Cond.code yX7_grown cX7_grown 8 (some .long) ∈ wsL_law := inT4 (List.mem_of_getElem? (i := 36) rfl) rfl
theorem mw_379 : Cond.methodLink RL 60 yX6_undo ∈ wsL_law := inT2 (List.mem_of_getElem? (i := 66) rfl) rfl
theorem mw_380 : Cond.instanceMethod yX6_undo ∈ wsL_law := inT2 (List.mem_of_getElem? (i := 67) rfl) rfl
theorem mw_381 : Cond.selects RX6 yX6_undo yX6_undo ∈ wsL_law := inT2 (List.mem_of_getElem? (i := 68) rfl) rfl
theorem mw_382 : Cond.code yX6_undo cX6_undo 1 (some .int) ∈ wsL_law := inT2 (List.mem_of_getElem? (i := 69) rfl) rfl
theorem mw_383 : Cond.methodLink RX6 120 yX0_size ∈ wsL_law := inT2 (List.mem_of_getElem? (i := 70) rfl) rfl
theorem mw_384 : Cond.instanceMethod yX0_size ∈ wsL_law := inT2 (List.mem_of_getElem? (i := 71) rfl) rfl
theorem mw_385 : Cond.selects RX0 yX0_size yX0_size ∈ wsL_law := inT2 (List.mem_of_getElem? (i := 72) rfl) rfl
theorem mw_386 : Cond.code yX0_size cX0_size 1 (some .int) ∈ wsL_law := inT2 (List.mem_of_getElem? (i := 73) rfl) rfl
theorem mw_387 : Cond.methodLink RX6 121 yX0_lastPicture ∈ wsL_law := inT2 (List.mem_of_getElem? (i := 74) rfl) rfl
theorem mw_388 : Cond.instanceMethod yX0_lastPicture ∈ wsL_law := inT2 (List.mem_of_getElem? (i := 75) rfl) rfl
theorem mw_389 : Cond.selects RX0 yX0_lastPicture yX0_lastPicture ∈ wsL_law := inT2 (List.mem_of_getElem? (i := 76) rfl) rfl
theorem mw_390 : Cond.code yX0_lastPicture cX0_lastPicture 1 (some .int) ∈ wsL_law := inT2 (List.mem_of_getElem? (i := 77) rfl) rfl
theorem mw_391 : Cond.methodLink RX6 124 yX0_lastBefore ∈ wsL_law := inT2 (List.mem_of_getElem? (i := 78) rfl) rfl
theorem mw_392 : Cond.instanceMethod yX0_lastBefore ∈ wsL_law := inT2 (List.mem_of_getElem? (i := 79) rfl) rfl
theorem mw_393 : Cond.selects RX0 yX0_lastBefore yX0_lastBefore ∈ wsL_law := inT2 (List.mem_of_getElem? (i := 80) rfl) rfl
theorem mw_394 : Cond.code yX0_lastBefore cX0_lastBefore 1 (some .long) ∈ wsL_law := inT2 (List.mem_of_getElem? (i := 81) rfl) rfl
theorem mw_395 : Cond.methodLink RX6 131 yX0_dropLast ∈ wsL_law := inT2 (List.mem_of_getElem? (i := 82) rfl) rfl
theorem mw_396 : Cond.instanceMethod yX0_dropLast ∈ wsL_law := inT2 (List.mem_of_getElem? (i := 83) rfl) rfl
theorem mw_397 : Cond.selects RX0 yX0_dropLast yX0_dropLast ∈ wsL_law := inT2 (List.mem_of_getElem? (i := 84) rfl) rfl
theorem mw_398 : Cond.code yX0_dropLast cX0_dropLast 1 none ∈ wsL_law := inT2 (List.mem_of_getElem? (i := 85) rfl) rfl
theorem mw_399 : Cond.methodLink RL 63 yX7_undo ∈ wsL_law := inT4 (List.mem_of_getElem? (i := 37) rfl) rfl
theorem mw_400 : Cond.instanceMethod yX7_undo ∈ wsL_law := inT4 (List.mem_of_getElem? (i := 38) rfl) rfl
theorem mw_401 : Cond.selects RX7 yX7_undo yX7_undo ∈ wsL_law := inT4 (List.mem_of_getElem? (i := 39) rfl) rfl
theorem mw_402 : Cond.code yX7_undo cX7_undo 2 (some .int) ∈ wsL_law := inT4 (List.mem_of_getElem? (i := 40) rfl) rfl
theorem mw_403 : Cond.methodLink RL 64 yX6_black ∈ wsL_law := inT2 (List.mem_of_getElem? (i := 86) rfl) rfl
theorem mw_404 : Cond.instanceMethod yX6_black ∈ wsL_law := inT2 (List.mem_of_getElem? (i := 87) rfl) rfl
theorem mw_405 : Cond.selects RX6 yX6_black yX6_black ∈ wsL_law := inT2 (List.mem_of_getElem? (i := 88) rfl) rfl
theorem mw_406 : Cond.code yX6_black cX6_black 2 (some .long) ∈ wsL_law := inT2 (List.mem_of_getElem? (i := 89) rfl) rfl
theorem mw_407 : Cond.methodLink RL 68 yX7_black ∈ wsL_law := inT4 (List.mem_of_getElem? (i := 41) rfl) rfl
theorem mw_408 : Cond.instanceMethod yX7_black ∈ wsL_law := inT4 (List.mem_of_getElem? (i := 42) rfl) rfl
theorem mw_409 : Cond.selects RX7 yX7_black yX7_black ∈ wsL_law := inT4 (List.mem_of_getElem? (i := 43) rfl) rfl
theorem mw_410 : Cond.code yX7_black cX7_black 2 (some .long) ∈ wsL_law := inT4 (List.mem_of_getElem? (i := 44) rfl) rfl
theorem mw_411 : Cond.methodLink RL 69 yX6_look ∈ wsL_law := inT2 (List.mem_of_getElem? (i := 90) rfl) rfl
theorem mw_412 : Cond.instanceMethod yX6_look ∈ wsL_law := inT2 (List.mem_of_getElem? (i := 91) rfl) rfl
theorem mw_413 : Cond.selects RX6 yX6_look yX6_look ∈ wsL_law := inT2 (List.mem_of_getElem? (i := 92) rfl) rfl
theorem mw_414 : Cond.code yX6_look cX6_look 5 (some .int) ∈ wsL_law := inT2 (List.mem_of_getElem? (i := 93) rfl) rfl
theorem mw_415 : Cond.methodLink RX6 134 yX5_leastLength ∈ wsL_law := inT2 (List.mem_of_getElem? (i := 94) rfl) rfl
theorem mw_416 : Cond.instanceMethod yX5_leastLength ∈ wsL_law := inT2 (List.mem_of_getElem? (i := 95) rfl) rfl
theorem mw_417 : Cond.selects RX5 yX5_leastLength yX5_leastLength ∈ wsL_law := inT2 (List.mem_of_getElem? (i := 96) rfl) rfl
theorem mw_418 : Cond.code yX5_leastLength cX5_leastLength 4 (some .int) ∈ wsL_law := inT2 (List.mem_of_getElem? (i := 97) rfl) rfl
theorem mw_419 : Cond.methodLink RX5 32 yX5_start ∈ wsL_law := inT2 (List.mem_of_getElem? (i := 98) rfl) rfl
theorem mw_420 : Cond.methodLink RX5 35 yX5_hasEnded ∈ wsL_law := inT2 (List.mem_of_getElem? (i := 99) rfl) rfl
theorem mw_421 : Cond.methodLink RX5 39 yX5_step ∈ wsL_law := inT2 (List.mem_of_getElem? (i := 100) rfl) rfl
theorem mw_422 : Cond.instanceMethod yX5_step ∈ wsL_law := inT2 (List.mem_of_getElem? (i := 102) rfl) rfl
theorem mw_423 : Cond.selects RX5 yX5_step yX5_step ∈ wsL_law := inP1 (List.mem_of_getElem? (i := 5) rfl) rfl
theorem mw_424 : Cond.code yX5_step cX5_step 3 none ∈ wsL_law := inT2 (List.mem_of_getElem? (i := 103) rfl) rfl
theorem mw_425 : Cond.methodLink RX5 43 yX5_square ∈ wsL_law := inT2 (List.mem_of_getElem? (i := 104) rfl) rfl
theorem mw_426 : Cond.methodLink RX5 47 yX2_sign ∈ wsL_law := inT2 (List.mem_of_getElem? (i := 105) rfl) rfl
theorem mw_427 : Cond.static yX2_sign ∈ wsL_law := inT2 (List.mem_of_getElem? (i := 106) rfl) rfl
theorem mw_428 : Cond.code yX2_sign cX2_sign 6 (some .int) ∈ wsL_law := inT2 (List.mem_of_getElem? (i := 107) rfl) rfl
theorem mw_429 : Cond.methodLink RX5 51 yX5_cut ∈ wsL_law := inT2 (List.mem_of_getElem? (i := 108) rfl) rfl
theorem mw_430 : Cond.methodLink RX5 54 yX5_pass ∈ wsL_law := inT2 (List.mem_of_getElem? (i := 109) rfl) rfl
theorem mw_431 : Cond.methodLink RX6 137 yX2_parts ∈ wsL_law := inT2 (List.mem_of_getElem? (i := 110) rfl) rfl
theorem mw_432 : Cond.static yX2_parts ∈ wsL_law := inT2 (List.mem_of_getElem? (i := 111) rfl) rfl
theorem mw_433 : Cond.code yX2_parts cX2_parts 5 (some .int) ∈ wsL_law := inT2 (List.mem_of_getElem? (i := 112) rfl) rfl
theorem mw_434 : Cond.methodLink RX2 68 yX2_partOf ∈ wsL_law := inT2 (List.mem_of_getElem? (i := 113) rfl) rfl
theorem mw_435 : Cond.static yX2_partOf ∈ wsL_law := inT2 (List.mem_of_getElem? (i := 114) rfl) rfl
theorem mw_436 : Cond.code yX2_partOf cX2_partOf 9 (some .long) ∈ wsL_law := inT2 (List.mem_of_getElem? (i := 115) rfl) rfl
theorem mw_437 : Cond.methodLink RX2 72 yX2_leftOf ∈ wsL_law := inT2 (List.mem_of_getElem? (i := 116) rfl) rfl
theorem mw_438 : Cond.static yX2_leftOf ∈ wsL_law := inT2 (List.mem_of_getElem? (i := 117) rfl) rfl
theorem mw_439 : Cond.code yX2_leftOf cX2_leftOf 2 (some .long) ∈ wsL_law := inT2 (List.mem_of_getElem? (i := 118) rfl) rfl
theorem mw_440 : Cond.constantLong RX2 78 (-72340172838076674) ∈ wsL_law := inT2 (List.mem_of_getElem? (i := 119) rfl) rfl
theorem mw_441 : Cond.methodLink RX2 75 yX2_rightOf ∈ wsL_law := inT2 (List.mem_of_getElem? (i := 120) rfl) rfl
theorem mw_442 : Cond.static yX2_rightOf ∈ wsL_law := inT2 (List.mem_of_getElem? (i := 121) rfl) rfl
theorem mw_443 : Cond.code yX2_rightOf cX2_rightOf 2 (some .long) ∈ wsL_law := inT2 (List.mem_of_getElem? (i := 122) rfl) rfl
theorem mw_444 : Cond.constantLong RX2 80 (9187201950435737471) ∈ wsL_law := inT2 (List.mem_of_getElem? (i := 123) rfl) rfl
theorem mw_445 : Cond.methodLink RX6 140 yX2_rim ∈ wsL_law := inT2 (List.mem_of_getElem? (i := 124) rfl) rfl
theorem mw_446 : Cond.static yX2_rim ∈ wsL_law := inT2 (List.mem_of_getElem? (i := 125) rfl) rfl
theorem mw_447 : Cond.code yX2_rim cX2_rim 2 (some .int) ∈ wsL_law := inT2 (List.mem_of_getElem? (i := 126) rfl) rfl
theorem mw_448 : Cond.methodLink RX6 143 yX2_blocks ∈ wsL_law := inT2 (List.mem_of_getElem? (i := 127) rfl) rfl
theorem mw_449 : Cond.static yX2_blocks ∈ wsL_law := inT2 (List.mem_of_getElem? (i := 128) rfl) rfl
theorem mw_450 : Cond.code yX2_blocks cX2_blocks 9 (some .int) ∈ wsL_law := inT2 (List.mem_of_getElem? (i := 129) rfl) rfl
theorem mw_451 : Cond.methodLink RX2 27 yX2_squareOf ∈ wsL_law := inT2 (List.mem_of_getElem? (i := 130) rfl) rfl
theorem mw_452 : Cond.methodLink RL 72 yX7_look ∈ wsL_law := inT4 (List.mem_of_getElem? (i := 45) rfl) rfl
theorem mw_453 : Cond.instanceMethod yX7_look ∈ wsL_law := inT4 (List.mem_of_getElem? (i := 46) rfl) rfl
theorem mw_454 : Cond.selects RX7 yX7_look yX7_look ∈ wsL_law := inT4 (List.mem_of_getElem? (i := 47) rfl) rfl
theorem mw_455 : Cond.code yX7_look cX7_look 3 (some .int) ∈ wsL_law := inT4 (List.mem_of_getElem? (i := 48) rfl) rfl
theorem mw_456 : Cond.fieldLink RX7 146 "QuarterWordsModel" "lettersMany" "I" ∈ wsL_law := inT3 (List.mem_of_getElem? (i := 120) rfl) rfl
theorem mw_457 : Cond.methodLink RX7 160 yX7_findWord ∈ wsL_law := inT4 (List.mem_of_getElem? (i := 49) rfl) rfl
theorem mw_458 : Cond.instanceMethod yX7_findWord ∈ wsL_law := inT4 (List.mem_of_getElem? (i := 51) rfl) rfl
theorem mw_459 : Cond.selects RX7 yX7_findWord yX7_findWord ∈ wsL_law := inP2 (List.mem_of_getElem? (i := 3) rfl) rfl
theorem mw_460 : Cond.code yX7_findWord cX7_findWord 4 none ∈ wsL_law := inT4 (List.mem_of_getElem? (i := 52) rfl) rfl
theorem mw_461 : Cond.methodLink RX7 149 yX7_leafOf ∈ wsL_law := inT4 (List.mem_of_getElem? (i := 53) rfl) rfl
theorem mw_462 : Cond.instanceMethod yX7_leafOf ∈ wsL_law := inT4 (List.mem_of_getElem? (i := 55) rfl) rfl
theorem mw_463 : Cond.selects RX7 yX7_leafOf yX7_leafOf ∈ wsL_law := inP2 (List.mem_of_getElem? (i := 4) rfl) rfl
theorem mw_464 : Cond.code yX7_leafOf cX7_leafOf 5 (some .int) ∈ wsL_law := inT4 (List.mem_of_getElem? (i := 56) rfl) rfl
theorem mw_465 : Cond.methodLink RX7 142 yX7_maskOf ∈ wsL_law := inT4 (List.mem_of_getElem? (i := 57) rfl) rfl
theorem mw_466 : Cond.static yX7_maskOf ∈ wsL_law := inT4 (List.mem_of_getElem? (i := 58) rfl) rfl
theorem mw_467 : Cond.code yX7_maskOf cX7_maskOf 2 (some .long) ∈ wsL_law := inT4 (List.mem_of_getElem? (i := 59) rfl) rfl
theorem mw_468 : Cond.methodLink RX7 152 yX7_tellCells ∈ wsL_law := inT4 (List.mem_of_getElem? (i := 60) rfl) rfl
theorem mw_469 : Cond.instanceMethod yX7_tellCells ∈ wsL_law := inT4 (List.mem_of_getElem? (i := 62) rfl) rfl
theorem mw_470 : Cond.selects RX7 yX7_tellCells yX7_tellCells ∈ wsL_law := inP2 (List.mem_of_getElem? (i := 5) rfl) rfl
theorem mw_471 : Cond.code yX7_tellCells cX7_tellCells 5 none ∈ wsL_law := inT4 (List.mem_of_getElem? (i := 63) rfl) rfl
theorem mw_472 : Cond.methodLink RX7 164 yX7_partsOf ∈ wsL_law := inT4 (List.mem_of_getElem? (i := 64) rfl) rfl
theorem mw_473 : Cond.static yX7_partsOf ∈ wsL_law := inT4 (List.mem_of_getElem? (i := 65) rfl) rfl
theorem mw_474 : Cond.code yX7_partsOf cX7_partsOf 9 (some .int) ∈ wsL_law := inT4 (List.mem_of_getElem? (i := 66) rfl) rfl
theorem mw_475 : Cond.constantLong RX7 156 (-72340172838076674) ∈ wsL_law := inT4 (List.mem_of_getElem? (i := 67) rfl) rfl
theorem mw_476 : Cond.constantLong RX7 158 (9187201950435737471) ∈ wsL_law := inT4 (List.mem_of_getElem? (i := 68) rfl) rfl
theorem mw_477 : Cond.methodLink RX7 167 yX7_rimOf ∈ wsL_law := inT4 (List.mem_of_getElem? (i := 69) rfl) rfl
theorem mw_478 : Cond.static yX7_rimOf ∈ wsL_law := inT4 (List.mem_of_getElem? (i := 70) rfl) rfl
theorem mw_479 : Cond.code yX7_rimOf cX7_rimOf 6 (some .int) ∈ wsL_law := inT4 (List.mem_of_getElem? (i := 71) rfl) rfl
theorem mw_480 : Cond.methodLink RX7 170 yX7_blocksOf ∈ wsL_law := inT4 (List.mem_of_getElem? (i := 72) rfl) rfl
theorem mw_481 : Cond.static yX7_blocksOf ∈ wsL_law := inT4 (List.mem_of_getElem? (i := 73) rfl) rfl
theorem mw_482 : Cond.code yX7_blocksOf cX7_blocksOf 10 (some .int) ∈ wsL_law := inT4 (List.mem_of_getElem? (i := 74) rfl) rfl
theorem mw_483 : Cond.methodLink RL 73 yX6_letter ∈ wsL_law := inT2 (List.mem_of_getElem? (i := 131) rfl) rfl
theorem mw_484 : Cond.instanceMethod yX6_letter ∈ wsL_law := inT2 (List.mem_of_getElem? (i := 132) rfl) rfl
theorem mw_485 : Cond.selects RX6 yX6_letter yX6_letter ∈ wsL_law := inT2 (List.mem_of_getElem? (i := 133) rfl) rfl
theorem mw_486 : Cond.code yX6_letter cX6_letter 3 (some .int) ∈ wsL_law := inT2 (List.mem_of_getElem? (i := 134) rfl) rfl
theorem mw_487 : Cond.methodLink RX6 146 yX5_leastLetter ∈ wsL_law := inT2 (List.mem_of_getElem? (i := 135) rfl) rfl
theorem mw_488 : Cond.instanceMethod yX5_leastLetter ∈ wsL_law := inT2 (List.mem_of_getElem? (i := 136) rfl) rfl
theorem mw_489 : Cond.selects RX5 yX5_leastLetter yX5_leastLetter ∈ wsL_law := inT2 (List.mem_of_getElem? (i := 137) rfl) rfl
theorem mw_490 : Cond.code yX5_leastLetter cX5_leastLetter 5 (some .int) ∈ wsL_law := inT2 (List.mem_of_getElem? (i := 138) rfl) rfl
theorem mw_491 : Cond.methodLink RL 76 yX7_letter ∈ wsL_law := inT4 (List.mem_of_getElem? (i := 75) rfl) rfl
theorem mw_492 : Cond.instanceMethod yX7_letter ∈ wsL_law := inT4 (List.mem_of_getElem? (i := 76) rfl) rfl
theorem mw_493 : Cond.selects RX7 yX7_letter yX7_letter ∈ wsL_law := inT4 (List.mem_of_getElem? (i := 77) rfl) rfl
theorem mw_494 : Cond.code yX7_letter cX7_letter 3 (some .int) ∈ wsL_law := inT4 (List.mem_of_getElem? (i := 78) rfl) rfl
theorem mw_495 : Cond.methodLink RL 77 yX6_at ∈ wsL_law := inT2 (List.mem_of_getElem? (i := 139) rfl) rfl
theorem mw_496 : Cond.instanceMethod yX6_at ∈ wsL_law := inT2 (List.mem_of_getElem? (i := 140) rfl) rfl
theorem mw_497 : Cond.selects RX6 yX6_at yX6_at ∈ wsL_law := inT2 (List.mem_of_getElem? (i := 141) rfl) rfl
theorem mw_498 : Cond.code yX6_at cX6_at 6 (some .int) ∈ wsL_law := inT2 (List.mem_of_getElem? (i := 142) rfl) rfl
theorem mw_499 : Cond.methodLink RX6 150 yX6_isCell ∈ wsL_law := inT2 (List.mem_of_getElem? (i := 143) rfl) rfl
theorem mw_500 : Cond.static yX6_isCell ∈ wsL_law := inT2 (List.mem_of_getElem? (i := 144) rfl) rfl
theorem mw_501 : Cond.code yX6_isCell cX6_isCell 1 (some .boolean) ∈ wsL_law := inT2 (List.mem_of_getElem? (i := 145) rfl) rfl
theorem mw_502 : Cond.methodLink RX6 153 yX2_isBlack ∈ wsL_law := inT2 (List.mem_of_getElem? (i := 146) rfl) rfl
theorem mw_503 : Cond.methodLink RX6 157 yX2_depthAt ∈ wsL_law := inT2 (List.mem_of_getElem? (i := 147) rfl) rfl
theorem mw_504 : Cond.static yX2_depthAt ∈ wsL_law := inT2 (List.mem_of_getElem? (i := 148) rfl) rfl
theorem mw_505 : Cond.code yX2_depthAt cX2_depthAt 4 (some .int) ∈ wsL_law := inT2 (List.mem_of_getElem? (i := 149) rfl) rfl
theorem mw_506 : Cond.methodLink RX2 31 yX2_sign ∈ wsL_law := inT2 (List.mem_of_getElem? (i := 150) rfl) rfl
theorem mw_507 : Cond.methodLink RX6 160 yX2_squareOf ∈ wsL_law := inT2 (List.mem_of_getElem? (i := 151) rfl) rfl
theorem mw_508 : Cond.methodLink RX6 164 yX2_sign ∈ wsL_law := inT2 (List.mem_of_getElem? (i := 152) rfl) rfl
theorem mw_509 : Cond.methodLink RL 81 yX7_at ∈ wsL_law := inT4 (List.mem_of_getElem? (i := 79) rfl) rfl
theorem mw_510 : Cond.instanceMethod yX7_at ∈ wsL_law := inT4 (List.mem_of_getElem? (i := 80) rfl) rfl
theorem mw_511 : Cond.selects RX7 yX7_at yX7_at ∈ wsL_law := inT4 (List.mem_of_getElem? (i := 81) rfl) rfl
theorem mw_512 : Cond.code yX7_at cX7_at 4 (some .int) ∈ wsL_law := inT4 (List.mem_of_getElem? (i := 82) rfl) rfl
theorem mw_513 : Cond.constantLong RX7 173 (63) ∈ wsL_law := inT4 (List.mem_of_getElem? (i := 83) rfl) rfl
theorem mw_514 : Cond.methodLink RL 82 yX6_alike ∈ wsL_law := inT2 (List.mem_of_getElem? (i := 153) rfl) rfl
theorem mw_515 : Cond.instanceMethod yX6_alike ∈ wsL_law := inT2 (List.mem_of_getElem? (i := 154) rfl) rfl
theorem mw_516 : Cond.selects RX6 yX6_alike yX6_alike ∈ wsL_law := inT2 (List.mem_of_getElem? (i := 155) rfl) rfl
theorem mw_517 : Cond.code yX6_alike cX6_alike 3 (some .int) ∈ wsL_law := inT2 (List.mem_of_getElem? (i := 156) rfl) rfl
theorem mw_518 : Cond.methodLink RX6 168 yX2_waysAlike ∈ wsL_law := inT2 (List.mem_of_getElem? (i := 157) rfl) rfl
theorem mw_519 : Cond.static yX2_waysAlike ∈ wsL_law := inT2 (List.mem_of_getElem? (i := 158) rfl) rfl
theorem mw_520 : Cond.code yX2_waysAlike cX2_waysAlike 6 (some .int) ∈ wsL_law := inT2 (List.mem_of_getElem? (i := 159) rfl) rfl
theorem mw_521 : Cond.methodLink RX2 64 yX2_unlike ∈ wsL_law := inT2 (List.mem_of_getElem? (i := 160) rfl) rfl
theorem mw_522 : Cond.static yX2_unlike ∈ wsL_law := inT2 (List.mem_of_getElem? (i := 161) rfl) rfl
theorem mw_523 : Cond.code yX2_unlike cX2_unlike 5 (some .int) ∈ wsL_law := inT2 (List.mem_of_getElem? (i := 162) rfl) rfl
theorem mw_524 : Cond.methodLink RX2 60 yX2_byWay ∈ wsL_law := inT2 (List.mem_of_getElem? (i := 163) rfl) rfl
theorem mw_525 : Cond.static yX2_byWay ∈ wsL_law := inT2 (List.mem_of_getElem? (i := 164) rfl) rfl
theorem mw_526 : Cond.code yX2_byWay cX2_byWay 6 (some .long) ∈ wsL_law := inT2 (List.mem_of_getElem? (i := 165) rfl) rfl
theorem mw_527 : Cond.methodLink RX2 53 yX2_flipped ∈ wsL_law := inT2 (List.mem_of_getElem? (i := 166) rfl) rfl
theorem mw_528 : Cond.methodLink RX2 57 yX2_turned ∈ wsL_law := inT2 (List.mem_of_getElem? (i := 167) rfl) rfl
theorem mw_529 : Cond.methodLink RL 85 yX7_alike ∈ wsL_law := inT4 (List.mem_of_getElem? (i := 84) rfl) rfl
theorem mw_530 : Cond.instanceMethod yX7_alike ∈ wsL_law := inT4 (List.mem_of_getElem? (i := 85) rfl) rfl
theorem mw_531 : Cond.selects RX7 yX7_alike yX7_alike ∈ wsL_law := inT4 (List.mem_of_getElem? (i := 86) rfl) rfl
theorem mw_532 : Cond.code yX7_alike cX7_alike 3 (some .int) ∈ wsL_law := inT4 (List.mem_of_getElem? (i := 87) rfl) rfl
theorem mw_533 : Cond.methodLink RX7 178 yX7_waysOf ∈ wsL_law := inT4 (List.mem_of_getElem? (i := 88) rfl) rfl
theorem mw_534 : Cond.static yX7_waysOf ∈ wsL_law := inT4 (List.mem_of_getElem? (i := 89) rfl) rfl
theorem mw_535 : Cond.code yX7_waysOf cX7_waysOf 6 (some .int) ∈ wsL_law := inT4 (List.mem_of_getElem? (i := 90) rfl) rfl
theorem mw_536 : Cond.methodLink RX7 175 yX7_byWay ∈ wsL_law := inT4 (List.mem_of_getElem? (i := 91) rfl) rfl
theorem mw_537 : Cond.static yX7_byWay ∈ wsL_law := inT4 (List.mem_of_getElem? (i := 92) rfl) rfl
theorem mw_538 : Cond.code yX7_byWay cX7_byWay 6 (some .long) ∈ wsL_law := inT4 (List.mem_of_getElem? (i := 93) rfl) rfl
theorem mw_539 : Cond.methodLink RL 86 yX6_near ∈ wsL_law := inT2 (List.mem_of_getElem? (i := 168) rfl) rfl
theorem mw_540 : Cond.instanceMethod yX6_near ∈ wsL_law := inT2 (List.mem_of_getElem? (i := 169) rfl) rfl
theorem mw_541 : Cond.selects RX6 yX6_near yX6_near ∈ wsL_law := inT2 (List.mem_of_getElem? (i := 170) rfl) rfl
theorem mw_542 : Cond.code yX6_near cX6_near 5 (some .int) ∈ wsL_law := inT2 (List.mem_of_getElem? (i := 171) rfl) rfl
theorem mw_543 : Cond.methodLink RX6 171 yX2_nearestWay ∈ wsL_law := inT2 (List.mem_of_getElem? (i := 172) rfl) rfl
theorem mw_544 : Cond.static yX2_nearestWay ∈ wsL_law := inT2 (List.mem_of_getElem? (i := 173) rfl) rfl
theorem mw_545 : Cond.code yX2_nearestWay cX2_nearestWay 8 (some .int) ∈ wsL_law := inT2 (List.mem_of_getElem? (i := 174) rfl) rfl
theorem mw_546 : Cond.methodLink RX6 174 yX2_unlike ∈ wsL_law := inT2 (List.mem_of_getElem? (i := 175) rfl) rfl
theorem mw_547 : Cond.methodLink RL 89 yX7_near ∈ wsL_law := inT4 (List.mem_of_getElem? (i := 94) rfl) rfl
theorem mw_548 : Cond.instanceMethod yX7_near ∈ wsL_law := inT4 (List.mem_of_getElem? (i := 95) rfl) rfl
theorem mw_549 : Cond.selects RX7 yX7_near yX7_near ∈ wsL_law := inT4 (List.mem_of_getElem? (i := 96) rfl) rfl
theorem mw_550 : Cond.code yX7_near cX7_near 8 (some .int) ∈ wsL_law := inT4 (List.mem_of_getElem? (i := 97) rfl) rfl
theorem mw_551 : Cond.methodLink RL 92 yX6_judge ∈ wsL_law := inT2 (List.mem_of_getElem? (i := 176) rfl) rfl
theorem mw_552 : Cond.instanceMethod yX6_judge ∈ wsL_law := inT2 (List.mem_of_getElem? (i := 177) rfl) rfl
theorem mw_553 : Cond.selects RX6 yX6_judge yX6_judge ∈ wsL_law := inT2 (List.mem_of_getElem? (i := 178) rfl) rfl
theorem mw_554 : Cond.code yX6_judge cX6_judge 6 (some .int) ∈ wsL_law := inT2 (List.mem_of_getElem? (i := 179) rfl) rfl
theorem mw_555 : Cond.methodLink RX6 178 yX6_readsDoings ∈ wsL_law := inT2 (List.mem_of_getElem? (i := 180) rfl) rfl
theorem mw_556 : Cond.instanceMethod yX6_readsDoings ∈ wsL_law := inT2 (List.mem_of_getElem? (i := 182) rfl) rfl
theorem mw_557 : Cond.selects RX6 yX6_readsDoings yX6_readsDoings ∈ wsL_law := inP1 (List.mem_of_getElem? (i := 6) rfl) rfl
theorem mw_558 : Cond.code yX6_readsDoings cX6_readsDoings 7 (some .boolean) ∈ wsL_law := inT2 (List.mem_of_getElem? (i := 183) rfl) rfl
theorem mw_559 : Cond.methodLink RX6 243 Lib.Math.min.name ∈ wsL_law := inT2 (List.mem_of_getElem? (i := 184) rfl) rfl
theorem mw_560 : Cond.static Lib.Math.min.name ∈ wsL_law := inT2 (List.mem_of_getElem? (i := 185) rfl) rfl
theorem mw_561 : Cond.initialized "java/lang/Math" ∈ wsL_law := inT1 (List.mem_of_getElem? (i := 10) rfl) rfl
theorem mw_562 : Cond.code Lib.Math.min.name Lib.Math.min.code 2 (some .int) ∈ wsL_law := inT2 (List.mem_of_getElem? (i := 186) rfl) rfl
theorem mw_563 : Cond.constantLong RX6 248 (1000) ∈ wsL_law := inT2 (List.mem_of_getElem? (i := 187) rfl) rfl
theorem mw_564 : Cond.methodLink RX6 182 yX1_copyFrom ∈ wsL_law := inT2 (List.mem_of_getElem? (i := 188) rfl) rfl
theorem mw_565 : Cond.instanceMethod yX1_copyFrom ∈ wsL_law := inT2 (List.mem_of_getElem? (i := 189) rfl) rfl
theorem mw_566 : Cond.selects RX1 yX1_copyFrom yX1_copyFrom ∈ wsL_law := inT2 (List.mem_of_getElem? (i := 190) rfl) rfl
theorem mw_567 : Cond.code yX1_copyFrom cX1_copyFrom 3 none ∈ wsL_law := inT2 (List.mem_of_getElem? (i := 191) rfl) rfl
theorem mw_568 : Cond.methodLink RX1 19 yX1_cells ∈ wsL_law := inT2 (List.mem_of_getElem? (i := 192) rfl) rfl
theorem mw_569 : Cond.methodLink RX1 23 yX1_set ∈ wsL_law := inT2 (List.mem_of_getElem? (i := 193) rfl) rfl
theorem mw_570 : Cond.methodLink RX6 186 yX1_does ∈ wsL_law := inT2 (List.mem_of_getElem? (i := 194) rfl) rfl
theorem mw_571 : Cond.instanceMethod yX1_does ∈ wsL_law := inT2 (List.mem_of_getElem? (i := 195) rfl) rfl
theorem mw_572 : Cond.selects RX1 yX1_does yX1_does ∈ wsL_law := inT2 (List.mem_of_getElem? (i := 196) rfl) rfl
theorem mw_573 : Cond.code yX1_does cX1_does 4 (some .boolean) ∈ wsL_law := inT2 (List.mem_of_getElem? (i := 197) rfl) rfl
theorem mw_574 : Cond.methodLink RX1 39 yX1_combines ∈ wsL_law := inT2 (List.mem_of_getElem? (i := 198) rfl) rfl
theorem mw_575 : Cond.instanceMethod yX1_combines ∈ wsL_law := inT2 (List.mem_of_getElem? (i := 200) rfl) rfl
theorem mw_576 : Cond.selects RX1 yX1_combines yX1_combines ∈ wsL_law := inP1 (List.mem_of_getElem? (i := 7) rfl) rfl
theorem mw_577 : Cond.code yX1_combines cX1_combines 4 (some .boolean) ∈ wsL_law := inT2 (List.mem_of_getElem? (i := 201) rfl) rfl
theorem mw_578 : Cond.methodLink RX1 57 yX2_combined ∈ wsL_law := inT2 (List.mem_of_getElem? (i := 202) rfl) rfl
theorem mw_579 : Cond.methodLink RX1 43 yX1_moves ∈ wsL_law := inT2 (List.mem_of_getElem? (i := 203) rfl) rfl
theorem mw_580 : Cond.instanceMethod yX1_moves ∈ wsL_law := inT2 (List.mem_of_getElem? (i := 205) rfl) rfl
theorem mw_581 : Cond.selects RX1 yX1_moves yX1_moves ∈ wsL_law := inP1 (List.mem_of_getElem? (i := 8) rfl) rfl
theorem mw_582 : Cond.code yX1_moves cX1_moves 5 (some .boolean) ∈ wsL_law := inT2 (List.mem_of_getElem? (i := 206) rfl) rfl
theorem mw_583 : Cond.methodLink RX1 61 yX2_turned ∈ wsL_law := inT2 (List.mem_of_getElem? (i := 207) rfl) rfl
theorem mw_584 : Cond.methodLink RX1 65 yX2_flipped ∈ wsL_law := inT2 (List.mem_of_getElem? (i := 208) rfl) rfl
theorem mw_585 : Cond.methodLink RX1 47 yX1_scales ∈ wsL_law := inT2 (List.mem_of_getElem? (i := 209) rfl) rfl
theorem mw_586 : Cond.instanceMethod yX1_scales ∈ wsL_law := inT2 (List.mem_of_getElem? (i := 211) rfl) rfl
theorem mw_587 : Cond.selects RX1 yX1_scales yX1_scales ∈ wsL_law := inP1 (List.mem_of_getElem? (i := 9) rfl) rfl
theorem mw_588 : Cond.code yX1_scales cX1_scales 6 (some .boolean) ∈ wsL_law := inT2 (List.mem_of_getElem? (i := 212) rfl) rfl
theorem mw_589 : Cond.methodLink RX1 71 yX2_halved ∈ wsL_law := inT2 (List.mem_of_getElem? (i := 214) rfl) rfl
theorem mw_590 : Cond.methodLink RX1 75 yX2_grown ∈ wsL_law := inT2 (List.mem_of_getElem? (i := 215) rfl) rfl
theorem mw_591 : Cond.methodLink RX1 50 yX2_parts ∈ wsL_law := inT2 (List.mem_of_getElem? (i := 216) rfl) rfl
theorem mw_592 : Cond.methodLink RX1 53 yX2_waysAlike ∈ wsL_law := inT2 (List.mem_of_getElem? (i := 217) rfl) rfl
theorem mw_593 : Cond.methodLink RL 96 yX7_judge ∈ wsL_law := inT4 (List.mem_of_getElem? (i := 98) rfl) rfl
theorem mw_594 : Cond.instanceMethod yX7_judge ∈ wsL_law := inT4 (List.mem_of_getElem? (i := 99) rfl) rfl
theorem mw_595 : Cond.selects RX7 yX7_judge yX7_judge ∈ wsL_law := inT4 (List.mem_of_getElem? (i := 100) rfl) rfl
theorem mw_596 : Cond.code yX7_judge cX7_judge 6 (some .int) ∈ wsL_law := inT4 (List.mem_of_getElem? (i := 101) rfl) rfl
theorem mw_597 : Cond.constantLong RX7 184 (4) ∈ wsL_law := inT4 (List.mem_of_getElem? (i := 102) rfl) rfl
theorem mw_598 : Cond.constantLong RX7 182 (1000) ∈ wsL_law := inT4 (List.mem_of_getElem? (i := 106) rfl) rfl
theorem mw_599 : Cond.methodLink RX7 186 yX7_thousandTo ∈ wsL_law := inT4 (List.mem_of_getElem? (i := 103) rfl) rfl
theorem mw_600 : Cond.static yX7_thousandTo ∈ wsL_law := inT4 (List.mem_of_getElem? (i := 104) rfl) rfl
theorem mw_601 : Cond.code yX7_thousandTo cX7_thousandTo 4 (some .long) ∈ wsL_law := inT4 (List.mem_of_getElem? (i := 105) rfl) rfl
theorem mw_602 : Cond.methodLink RX7 190 yX7_layTrial ∈ wsL_law := inT4 (List.mem_of_getElem? (i := 107) rfl) rfl
theorem mw_603 : Cond.instanceMethod yX7_layTrial ∈ wsL_law := inT4 (List.mem_of_getElem? (i := 109) rfl) rfl
theorem mw_604 : Cond.selects RX7 yX7_layTrial yX7_layTrial ∈ wsL_law := inP2 (List.mem_of_getElem? (i := 6) rfl) rfl
theorem mw_605 : Cond.code yX7_layTrial cX7_layTrial 2 none ∈ wsL_law := inT4 (List.mem_of_getElem? (i := 110) rfl) rfl
theorem mw_606 : Cond.methodLink RX7 193 yX7_tryThing ∈ wsL_law := inT4 (List.mem_of_getElem? (i := 111) rfl) rfl
theorem mw_607 : Cond.instanceMethod yX7_tryThing ∈ wsL_law := inT4 (List.mem_of_getElem? (i := 113) rfl) rfl
theorem mw_608 : Cond.selects RX7 yX7_tryThing yX7_tryThing ∈ wsL_law := inP2 (List.mem_of_getElem? (i := 7) rfl) rfl
theorem mw_609 : Cond.code yX7_tryThing cX7_tryThing 7 (some .boolean) ∈ wsL_law := inT4 (List.mem_of_getElem? (i := 114) rfl) rfl
theorem mw_610 : Cond.methodLink RL 97 yX6_see ∈ wsL_law := inT2 (List.mem_of_getElem? (i := 218) rfl) rfl
theorem mw_611 : Cond.instanceMethod yX6_see ∈ wsL_law := inT2 (List.mem_of_getElem? (i := 219) rfl) rfl
theorem mw_612 : Cond.selects RX6 yX6_see yX6_see ∈ wsL_law := inT2 (List.mem_of_getElem? (i := 220) rfl) rfl
theorem mw_613 : Cond.code yX6_see cX6_see 3 (some .int) ∈ wsL_law := inT2 (List.mem_of_getElem? (i := 221) rfl) rfl
theorem mw_614 : Cond.methodLink RX6 190 yX3_add ∈ wsL_law := inT2 (List.mem_of_getElem? (i := 222) rfl) rfl
theorem mw_615 : Cond.instanceMethod yX3_add ∈ wsL_law := inT2 (List.mem_of_getElem? (i := 223) rfl) rfl
theorem mw_616 : Cond.selects RX3 yX3_add yX3_add ∈ wsL_law := inT2 (List.mem_of_getElem? (i := 224) rfl) rfl
theorem mw_617 : Cond.code yX3_add cX3_add 3 (some .boolean) ∈ wsL_law := inT2 (List.mem_of_getElem? (i := 225) rfl) rfl
theorem mw_618 : Cond.methodLink RX6 193 yX3_size ∈ wsL_law := inT2 (List.mem_of_getElem? (i := 226) rfl) rfl
theorem mw_619 : Cond.instanceMethod yX3_size ∈ wsL_law := inT2 (List.mem_of_getElem? (i := 227) rfl) rfl
theorem mw_620 : Cond.selects RX3 yX3_size yX3_size ∈ wsL_law := inT2 (List.mem_of_getElem? (i := 228) rfl) rfl
theorem mw_621 : Cond.code yX3_size cX3_size 1 (some .int) ∈ wsL_law := inT2 (List.mem_of_getElem? (i := 229) rfl) rfl
theorem mw_622 : Cond.methodLink RL 100 yX7_see ∈ wsL_law := inT4 (List.mem_of_getElem? (i := 115) rfl) rfl
theorem mw_623 : Cond.instanceMethod yX7_see ∈ wsL_law := inT4 (List.mem_of_getElem? (i := 116) rfl) rfl
theorem mw_624 : Cond.selects RX7 yX7_see yX7_see ∈ wsL_law := inT4 (List.mem_of_getElem? (i := 117) rfl) rfl
theorem mw_625 : Cond.code yX7_see cX7_see 3 (some .int) ∈ wsL_law := inT4 (List.mem_of_getElem? (i := 118) rfl) rfl
theorem mw_626 : Cond.fieldLink RX7 196 "QuarterWordsModel" "seen" "I" ∈ wsL_law := inT3 (List.mem_of_getElem? (i := 121) rfl) rfl
theorem mw_627 : Cond.methodLink RL 101 yX6_unsee ∈ wsL_law := inT2 (List.mem_of_getElem? (i := 230) rfl) rfl
theorem mw_628 : Cond.instanceMethod yX6_unsee ∈ wsL_law := inT2 (List.mem_of_getElem? (i := 231) rfl) rfl
theorem mw_629 : Cond.selects RX6 yX6_unsee yX6_unsee ∈ wsL_law := inT2 (List.mem_of_getElem? (i := 232) rfl) rfl
theorem mw_630 : Cond.code yX6_unsee cX6_unsee 2 (some .int) ∈ wsL_law := inT2 (List.mem_of_getElem? (i := 233) rfl) rfl
theorem mw_631 : Cond.methodLink RX6 194 yX3_clear ∈ wsL_law := inT2 (List.mem_of_getElem? (i := 234) rfl) rfl
theorem mw_632 : Cond.instanceMethod yX3_clear ∈ wsL_law := inT2 (List.mem_of_getElem? (i := 235) rfl) rfl
theorem mw_633 : Cond.selects RX3 yX3_clear yX3_clear ∈ wsL_law := inT2 (List.mem_of_getElem? (i := 236) rfl) rfl
theorem mw_634 : Cond.code yX3_clear cX3_clear 1 none ∈ wsL_law := inT2 (List.mem_of_getElem? (i := 237) rfl) rfl
theorem mw_635 : Cond.methodLink RL 104 yX7_unsee ∈ wsL_law := inT4 (List.mem_of_getElem? (i := 119) rfl) rfl
theorem mw_636 : Cond.instanceMethod yX7_unsee ∈ wsL_law := inT4 (List.mem_of_getElem? (i := 120) rfl) rfl
theorem mw_637 : Cond.selects RX7 yX7_unsee yX7_unsee ∈ wsL_law := inT4 (List.mem_of_getElem? (i := 121) rfl) rfl
theorem mw_638 : Cond.code yX7_unsee cX7_unsee 2 (some .int) ∈ wsL_law := inT4 (List.mem_of_getElem? (i := 122) rfl) rfl
theorem mw_639 : Cond.methodLink RL 105 yX6_leaves ∈ wsL_law := inT2 (List.mem_of_getElem? (i := 238) rfl) rfl
theorem mw_640 : Cond.instanceMethod yX6_leaves ∈ wsL_law := inT2 (List.mem_of_getElem? (i := 239) rfl) rfl
theorem mw_641 : Cond.selects RX6 yX6_leaves yX6_leaves ∈ wsL_law := inT3 (List.mem_of_getElem? (i := 0) rfl) rfl
theorem mw_642 : Cond.code yX6_leaves cX6_leaves 2 (some .int) ∈ wsL_law := inT3 (List.mem_of_getElem? (i := 1) rfl) rfl
theorem mw_643 : Cond.methodLink RX6 195 yX3_fits ∈ wsL_law := inT3 (List.mem_of_getElem? (i := 2) rfl) rfl
theorem mw_644 : Cond.instanceMethod yX3_fits ∈ wsL_law := inT3 (List.mem_of_getElem? (i := 3) rfl) rfl
theorem mw_645 : Cond.selects RX3 yX3_fits yX3_fits ∈ wsL_law := inT3 (List.mem_of_getElem? (i := 4) rfl) rfl
theorem mw_646 : Cond.code yX3_fits cX3_fits 5 (some .int) ∈ wsL_law := inT3 (List.mem_of_getElem? (i := 5) rfl) rfl
theorem mw_647 : Cond.fieldLink RX3 23 "QuarterWords$Sight" "LEAVES" "[I" ∈ wsL_law := inT3 (List.mem_of_getElem? (i := 6) rfl) rfl
theorem mw_648 : Cond.methodLink RX3 26 yX3_isSo ∈ wsL_law := inT3 (List.mem_of_getElem? (i := 8) rfl) rfl
theorem mw_649 : Cond.instanceMethod yX3_isSo ∈ wsL_law := inT3 (List.mem_of_getElem? (i := 10) rfl) rfl
theorem mw_650 : Cond.selects RX3 yX3_isSo yX3_isSo ∈ wsL_law := inP1 (List.mem_of_getElem? (i := 10) rfl) rfl
theorem mw_651 : Cond.code yX3_isSo cX3_isSo 5 (some .boolean) ∈ wsL_law := inT3 (List.mem_of_getElem? (i := 11) rfl) rfl
theorem mw_652 : Cond.methodLink RX3 34 yX2_quarterCells ∈ wsL_law := inT3 (List.mem_of_getElem? (i := 12) rfl) rfl
theorem mw_653 : Cond.static yX2_quarterCells ∈ wsL_law := inT3 (List.mem_of_getElem? (i := 13) rfl) rfl
theorem mw_654 : Cond.code yX2_quarterCells cX2_quarterCells 1 (some .long) ∈ wsL_law := inT3 (List.mem_of_getElem? (i := 14) rfl) rfl
theorem mw_655 : Cond.methodLink RX3 40 yX2_isBlack ∈ wsL_law := inT3 (List.mem_of_getElem? (i := 15) rfl) rfl
theorem mw_656 : Cond.methodLink RX3 44 yX2_pattern ∈ wsL_law := inT3 (List.mem_of_getElem? (i := 16) rfl) rfl
theorem mw_657 : Cond.methodLink RX6 198 yX3_firstFit ∈ wsL_law := inT3 (List.mem_of_getElem? (i := 17) rfl) rfl
theorem mw_658 : Cond.instanceMethod yX3_firstFit ∈ wsL_law := inT3 (List.mem_of_getElem? (i := 18) rfl) rfl
theorem mw_659 : Cond.selects RX3 yX3_firstFit yX3_firstFit ∈ wsL_law := inT3 (List.mem_of_getElem? (i := 19) rfl) rfl
theorem mw_660 : Cond.code yX3_firstFit cX3_firstFit 4 (some .int) ∈ wsL_law := inT3 (List.mem_of_getElem? (i := 20) rfl) rfl
theorem mw_661 : Cond.methodLink RX3 30 yX3_firstFigure ∈ wsL_law := inT3 (List.mem_of_getElem? (i := 21) rfl) rfl
theorem mw_662 : Cond.instanceMethod yX3_firstFigure ∈ wsL_law := inT3 (List.mem_of_getElem? (i := 23) rfl) rfl
theorem mw_663 : Cond.selects RX3 yX3_firstFigure yX3_firstFigure ∈ wsL_law := inP1 (List.mem_of_getElem? (i := 11) rfl) rfl
theorem mw_664 : Cond.code yX3_firstFigure cX3_firstFigure 3 (some .int) ∈ wsL_law := inT3 (List.mem_of_getElem? (i := 24) rfl) rfl
theorem mw_665 : Cond.methodLink RL 108 yX7_leaves ∈ wsL_law := inT4 (List.mem_of_getElem? (i := 123) rfl) rfl
theorem mw_666 : Cond.instanceMethod yX7_leaves ∈ wsL_law := inT4 (List.mem_of_getElem? (i := 124) rfl) rfl
theorem mw_667 : Cond.selects RX7 yX7_leaves yX7_leaves ∈ wsL_law := inT4 (List.mem_of_getElem? (i := 125) rfl) rfl
theorem mw_668 : Cond.code yX7_leaves cX7_leaves 5 (some .int) ∈ wsL_law := inT4 (List.mem_of_getElem? (i := 126) rfl) rfl
theorem mw_669 : Cond.methodLink RX7 202 yX7_mayBe ∈ wsL_law := inT4 (List.mem_of_getElem? (i := 127) rfl) rfl
theorem mw_670 : Cond.instanceMethod yX7_mayBe ∈ wsL_law := inT4 (List.mem_of_getElem? (i := 129) rfl) rfl
theorem mw_671 : Cond.selects RX7 yX7_mayBe yX7_mayBe ∈ wsL_law := inP2 (List.mem_of_getElem? (i := 8) rfl) rfl
theorem mw_672 : Cond.code yX7_mayBe cX7_mayBe 8 (some .boolean) ∈ wsL_law := inT4 (List.mem_of_getElem? (i := 130) rfl) rfl
theorem mw_673 : Cond.methodLink RX7 199 yX7_leafLetter ∈ wsL_law := inT4 (List.mem_of_getElem? (i := 131) rfl) rfl
theorem mw_674 : Cond.static yX7_leafLetter ∈ wsL_law := inT4 (List.mem_of_getElem? (i := 132) rfl) rfl
theorem mw_675 : Cond.code yX7_leafLetter cX7_leafLetter 1 (some .int) ∈ wsL_law := inT4 (List.mem_of_getElem? (i := 133) rfl) rfl
theorem mw_676 : Cond.methodLink RX7 205 yX7_figuresOf ∈ wsL_law := inT4 (List.mem_of_getElem? (i := 134) rfl) rfl
theorem mw_677 : Cond.static yX7_figuresOf ∈ wsL_law := inT4 (List.mem_of_getElem? (i := 135) rfl) rfl
theorem mw_678 : Cond.code yX7_figuresOf cX7_figuresOf 1 (some .int) ∈ wsL_law := inT4 (List.mem_of_getElem? (i := 136) rfl) rfl
theorem mw_679 : Cond.methodLink RL 109 yX6_share ∈ wsL_law := inT3 (List.mem_of_getElem? (i := 25) rfl) rfl
theorem mw_680 : Cond.instanceMethod yX6_share ∈ wsL_law := inT3 (List.mem_of_getElem? (i := 26) rfl) rfl
theorem mw_681 : Cond.selects RX6 yX6_share yX6_share ∈ wsL_law := inT3 (List.mem_of_getElem? (i := 27) rfl) rfl
theorem mw_682 : Cond.code yX6_share cX6_share 5 (some .int) ∈ wsL_law := inT3 (List.mem_of_getElem? (i := 28) rfl) rfl
theorem mw_683 : Cond.methodLink RX6 201 yX1_blackIn ∈ wsL_law := inT3 (List.mem_of_getElem? (i := 29) rfl) rfl
theorem mw_684 : Cond.instanceMethod yX1_blackIn ∈ wsL_law := inT3 (List.mem_of_getElem? (i := 30) rfl) rfl
theorem mw_685 : Cond.selects RX1 yX1_blackIn yX1_blackIn ∈ wsL_law := inT3 (List.mem_of_getElem? (i := 31) rfl) rfl
theorem mw_686 : Cond.code yX1_blackIn cX1_blackIn 4 (some .int) ∈ wsL_law := inT3 (List.mem_of_getElem? (i := 32) rfl) rfl
theorem mw_687 : Cond.methodLink RX1 33 yX2_isBlack ∈ wsL_law := inT3 (List.mem_of_getElem? (i := 33) rfl) rfl
theorem mw_688 : Cond.methodLink RX6 205 yX6_sixthsOfCell ∈ wsL_law := inT3 (List.mem_of_getElem? (i := 34) rfl) rfl
theorem mw_689 : Cond.static yX6_sixthsOfCell ∈ wsL_law := inT3 (List.mem_of_getElem? (i := 35) rfl) rfl
theorem mw_690 : Cond.code yX6_sixthsOfCell cX6_sixthsOfCell 1 (some .int) ∈ wsL_law := inT3 (List.mem_of_getElem? (i := 36) rfl) rfl
theorem mw_691 : Cond.methodLink RX6 208 yX6_told ∈ wsL_law := inT3 (List.mem_of_getElem? (i := 37) rfl) rfl
theorem mw_692 : Cond.static yX6_told ∈ wsL_law := inT3 (List.mem_of_getElem? (i := 38) rfl) rfl
theorem mw_693 : Cond.code yX6_told cX6_told 5 (some .int) ∈ wsL_law := inT3 (List.mem_of_getElem? (i := 39) rfl) rfl
theorem mw_694 : Cond.methodLink RX6 260 yX6_commonDivisor ∈ wsL_law := inT3 (List.mem_of_getElem? (i := 40) rfl) rfl
theorem mw_695 : Cond.static yX6_commonDivisor ∈ wsL_law := inT3 (List.mem_of_getElem? (i := 41) rfl) rfl
theorem mw_696 : Cond.code yX6_commonDivisor cX6_commonDivisor 6 (some .int) ∈ wsL_law := inT3 (List.mem_of_getElem? (i := 42) rfl) rfl
theorem mw_697 : Cond.methodLink RL 113 yX7_share ∈ wsL_law := inT4 (List.mem_of_getElem? (i := 137) rfl) rfl
theorem mw_698 : Cond.instanceMethod yX7_share ∈ wsL_law := inT4 (List.mem_of_getElem? (i := 138) rfl) rfl
theorem mw_699 : Cond.selects RX7 yX7_share yX7_share ∈ wsL_law := inT4 (List.mem_of_getElem? (i := 139) rfl) rfl
theorem mw_700 : Cond.code yX7_share cX7_share 6 (some .int) ∈ wsL_law := inT4 (List.mem_of_getElem? (i := 140) rfl) rfl
theorem mw_701 : Cond.methodLink RX7 208 yX7_areaBy ∈ wsL_law := inT4 (List.mem_of_getElem? (i := 141) rfl) rfl
theorem mw_702 : Cond.instanceMethod yX7_areaBy ∈ wsL_law := inT4 (List.mem_of_getElem? (i := 143) rfl) rfl
theorem mw_703 : Cond.selects RX7 yX7_areaBy yX7_areaBy ∈ wsL_law := inP2 (List.mem_of_getElem? (i := 9) rfl) rfl
theorem mw_704 : Cond.code yX7_areaBy cX7_areaBy 5 (some .int) ∈ wsL_law := inT4 (List.mem_of_getElem? (i := 144) rfl) rfl
theorem mw_705 : Cond.methodLink RX7 211 yX7_common ∈ wsL_law := inT4 (List.mem_of_getElem? (i := 145) rfl) rfl
theorem mw_706 : Cond.static yX7_common ∈ wsL_law := inT4 (List.mem_of_getElem? (i := 146) rfl) rfl
theorem mw_707 : Cond.code yX7_common cX7_common 5 (some .int) ∈ wsL_law := inT4 (List.mem_of_getElem? (i := 147) rfl) rfl
theorem mw_708 : Cond.methodLink RL 114 yX6_rests ∈ wsL_law := inT3 (List.mem_of_getElem? (i := 43) rfl) rfl
theorem mw_709 : Cond.instanceMethod yX6_rests ∈ wsL_law := inT3 (List.mem_of_getElem? (i := 44) rfl) rfl
theorem mw_710 : Cond.selects RX6 yX6_rests yX6_rests ∈ wsL_law := inT3 (List.mem_of_getElem? (i := 45) rfl) rfl
theorem mw_711 : Cond.code yX6_rests cX6_rests 7 (some .int) ∈ wsL_law := inT3 (List.mem_of_getElem? (i := 46) rfl) rfl
theorem mw_712 : Cond.methodLink RX6 212 yX6_isRest ∈ wsL_law := inT3 (List.mem_of_getElem? (i := 47) rfl) rfl
theorem mw_713 : Cond.instanceMethod yX6_isRest ∈ wsL_law := inT3 (List.mem_of_getElem? (i := 49) rfl) rfl
theorem mw_714 : Cond.selects RX6 yX6_isRest yX6_isRest ∈ wsL_law := inP1 (List.mem_of_getElem? (i := 12) rfl) rfl
theorem mw_715 : Cond.code yX6_isRest cX6_isRest 15 (some .boolean) ∈ wsL_law := inT3 (List.mem_of_getElem? (i := 50) rfl) rfl
theorem mw_716 : Cond.methodLink RX6 250 yX2_byWay ∈ wsL_law := inT3 (List.mem_of_getElem? (i := 51) rfl) rfl
theorem mw_717 : Cond.methodLink RX6 253 yX6_gain ∈ wsL_law := inT3 (List.mem_of_getElem? (i := 52) rfl) rfl
theorem mw_718 : Cond.static yX6_gain ∈ wsL_law := inT3 (List.mem_of_getElem? (i := 53) rfl) rfl
theorem mw_719 : Cond.code yX6_gain cX6_gain 6 (some .int) ∈ wsL_law := inT3 (List.mem_of_getElem? (i := 54) rfl) rfl
theorem mw_720 : Cond.methodLink RL 117 yX7_rests ∈ wsL_law := inT4 (List.mem_of_getElem? (i := 148) rfl) rfl
theorem mw_721 : Cond.instanceMethod yX7_rests ∈ wsL_law := inT4 (List.mem_of_getElem? (i := 149) rfl) rfl
theorem mw_722 : Cond.selects RX7 yX7_rests yX7_rests ∈ wsL_law := inT4 (List.mem_of_getElem? (i := 150) rfl) rfl
theorem mw_723 : Cond.code yX7_rests cX7_rests 7 (some .int) ∈ wsL_law := inT4 (List.mem_of_getElem? (i := 151) rfl) rfl
theorem mw_724 : Cond.methodLink RX7 218 yX7_isRest ∈ wsL_law := inT4 (List.mem_of_getElem? (i := 152) rfl) rfl
theorem mw_725 : Cond.instanceMethod yX7_isRest ∈ wsL_law := inT4 (List.mem_of_getElem? (i := 154) rfl) rfl
theorem mw_726 : Cond.selects RX7 yX7_isRest yX7_isRest ∈ wsL_law := inP2 (List.mem_of_getElem? (i := 10) rfl) rfl
theorem mw_727 : Cond.code yX7_isRest cX7_isRest 5 (some .boolean) ∈ wsL_law := inT4 (List.mem_of_getElem? (i := 155) rfl) rfl
theorem mw_728 : Cond.methodLink RX7 214 yX7_gain ∈ wsL_law := inT4 (List.mem_of_getElem? (i := 156) rfl) rfl
theorem mw_729 : Cond.instanceMethod yX7_gain ∈ wsL_law := inT4 (List.mem_of_getElem? (i := 158) rfl) rfl
theorem mw_730 : Cond.selects RX7 yX7_gain yX7_gain ∈ wsL_law := inP2 (List.mem_of_getElem? (i := 11) rfl) rfl
theorem mw_731 : Cond.code yX7_gain cX7_gain 9 (some .int) ∈ wsL_law := inT4 (List.mem_of_getElem? (i := 159) rfl) rfl
theorem mw_732 : Cond.methodLink RL 118 yX6_fades ∈ wsL_law := inT3 (List.mem_of_getElem? (i := 55) rfl) rfl
theorem mw_733 : Cond.instanceMethod yX6_fades ∈ wsL_law := inT3 (List.mem_of_getElem? (i := 56) rfl) rfl
theorem mw_734 : Cond.selects RX6 yX6_fades yX6_fades ∈ wsL_law := inT3 (List.mem_of_getElem? (i := 57) rfl) rfl
theorem mw_735 : Cond.code yX6_fades cX6_fades 7 (some .int) ∈ wsL_law := inT3 (List.mem_of_getElem? (i := 58) rfl) rfl
theorem mw_736 : Cond.methodLink RX6 216 yX6_areaLeft ∈ wsL_law := inT3 (List.mem_of_getElem? (i := 59) rfl) rfl
theorem mw_737 : Cond.static yX6_areaLeft ∈ wsL_law := inT3 (List.mem_of_getElem? (i := 60) rfl) rfl
theorem mw_738 : Cond.code yX6_areaLeft cX6_areaLeft 5 (some .int) ∈ wsL_law := inT3 (List.mem_of_getElem? (i := 61) rfl) rfl
theorem mw_739 : Cond.methodLink RX6 257 yX2_quarterCells ∈ wsL_law := inT3 (List.mem_of_getElem? (i := 62) rfl) rfl
theorem mw_740 : Cond.methodLink RX6 219 yX6_chanceOf ∈ wsL_law := inT3 (List.mem_of_getElem? (i := 63) rfl) rfl
theorem mw_741 : Cond.static yX6_chanceOf ∈ wsL_law := inT3 (List.mem_of_getElem? (i := 64) rfl) rfl
theorem mw_742 : Cond.code yX6_chanceOf cX6_chanceOf 4 (some .int) ∈ wsL_law := inT3 (List.mem_of_getElem? (i := 65) rfl) rfl
theorem mw_743 : Cond.methodLink RL 122 yX7_fades ∈ wsL_law := inT4 (List.mem_of_getElem? (i := 160) rfl) rfl
theorem mw_744 : Cond.instanceMethod yX7_fades ∈ wsL_law := inT4 (List.mem_of_getElem? (i := 161) rfl) rfl
theorem mw_745 : Cond.selects RX7 yX7_fades yX7_fades ∈ wsL_law := inT4 (List.mem_of_getElem? (i := 162) rfl) rfl
theorem mw_746 : Cond.code yX7_fades cX7_fades 12 (some .int) ∈ wsL_law := inT4 (List.mem_of_getElem? (i := 163) rfl) rfl
theorem mw_747 : Cond.constantLong RX7 222 (64) ∈ wsL_law := inT4 (List.mem_of_getElem? (i := 164) rfl) rfl
theorem mw_748 : Cond.constantLong RX7 224 (10) ∈ wsL_law := inT4 (List.mem_of_getElem? (i := 165) rfl) rfl
theorem mw_749 : Cond.methodLink RL 123 yX6_seed ∈ wsL_law := inT3 (List.mem_of_getElem? (i := 66) rfl) rfl
theorem mw_750 : Cond.instanceMethod yX6_seed ∈ wsL_law := inT3 (List.mem_of_getElem? (i := 67) rfl) rfl
theorem mw_751 : Cond.selects RX6 yX6_seed yX6_seed ∈ wsL_law := inT3 (List.mem_of_getElem? (i := 68) rfl) rfl
theorem mw_752 : Cond.code yX6_seed cX6_seed 5 (some .long) ∈ wsL_law := inT3 (List.mem_of_getElem? (i := 69) rfl) rfl
theorem mw_753 : Cond.methodLink RL 127 yX7_seed ∈ wsL_law := inT4 (List.mem_of_getElem? (i := 166) rfl) rfl
theorem mw_754 : Cond.instanceMethod yX7_seed ∈ wsL_law := inT4 (List.mem_of_getElem? (i := 167) rfl) rfl
theorem mw_755 : Cond.selects RX7 yX7_seed yX7_seed ∈ wsL_law := inT4 (List.mem_of_getElem? (i := 168) rfl) rfl
theorem mw_756 : Cond.code yX7_seed cX7_seed 5 (some .long) ∈ wsL_law := inT4 (List.mem_of_getElem? (i := 169) rfl) rfl
theorem mw_757 : Cond.fieldLink RX7 226 "QuarterWordsModel" "seed" "J" ∈ wsL_law := inT3 (List.mem_of_getElem? (i := 124) rfl) rfl
theorem mw_758 : Cond.methodLink RL 128 yX6_years ∈ wsL_law := inT3 (List.mem_of_getElem? (i := 70) rfl) rfl
theorem mw_759 : Cond.instanceMethod yX6_years ∈ wsL_law := inT3 (List.mem_of_getElem? (i := 71) rfl) rfl
theorem mw_760 : Cond.selects RX6 yX6_years yX6_years ∈ wsL_law := inT3 (List.mem_of_getElem? (i := 72) rfl) rfl
theorem mw_761 : Cond.code yX6_years cX6_years 4 (some .int) ∈ wsL_law := inT3 (List.mem_of_getElem? (i := 73) rfl) rfl
theorem mw_762 : Cond.constantLong RX6 223 (6364136223846793005) ∈ wsL_law := inT3 (List.mem_of_getElem? (i := 74) rfl) rfl
theorem mw_763 : Cond.constantLong RX6 225 (1442695040888963407) ∈ wsL_law := inT3 (List.mem_of_getElem? (i := 75) rfl) rfl
theorem mw_764 : Cond.constantLong RX6 227 (36) ∈ wsL_law := inT3 (List.mem_of_getElem? (i := 76) rfl) rfl
theorem mw_765 : Cond.methodLink RX6 229 yX6_passYear ∈ wsL_law := inT3 (List.mem_of_getElem? (i := 77) rfl) rfl
theorem mw_766 : Cond.instanceMethod yX6_passYear ∈ wsL_law := inT3 (List.mem_of_getElem? (i := 79) rfl) rfl
theorem mw_767 : Cond.selects RX6 yX6_passYear yX6_passYear ∈ wsL_law := inP1 (List.mem_of_getElem? (i := 13) rfl) rfl
theorem mw_768 : Cond.code yX6_passYear cX6_passYear 2 none ∈ wsL_law := inT3 (List.mem_of_getElem? (i := 80) rfl) rfl
theorem mw_769 : Cond.methodLink RX6 233 yX1_area ∈ wsL_law := inT3 (List.mem_of_getElem? (i := 81) rfl) rfl
theorem mw_770 : Cond.instanceMethod yX1_area ∈ wsL_law := inT3 (List.mem_of_getElem? (i := 82) rfl) rfl
theorem mw_771 : Cond.selects RX1 yX1_area yX1_area ∈ wsL_law := inT3 (List.mem_of_getElem? (i := 83) rfl) rfl
theorem mw_772 : Cond.code yX1_area cX1_area 3 (some .int) ∈ wsL_law := inT3 (List.mem_of_getElem? (i := 84) rfl) rfl
theorem mw_773 : Cond.methodLink RX1 27 yJ13_bitCount_95d88 ∈ wsL_law := inT3 (List.mem_of_getElem? (i := 85) rfl) rfl
theorem mw_774 : Cond.methodLink RL 131 yX7_years ∈ wsL_law := inT4 (List.mem_of_getElem? (i := 170) rfl) rfl
theorem mw_775 : Cond.instanceMethod yX7_years ∈ wsL_law := inT4 (List.mem_of_getElem? (i := 171) rfl) rfl
theorem mw_776 : Cond.selects RX7 yX7_years yX7_years ∈ wsL_law := inT4 (List.mem_of_getElem? (i := 172) rfl) rfl
theorem mw_777 : Cond.code yX7_years cX7_years 5 (some .int) ∈ wsL_law := inT4 (List.mem_of_getElem? (i := 173) rfl) rfl
theorem mw_778 : Cond.constantLong RX7 229 (30) ∈ wsL_law := inT4 (List.mem_of_getElem? (i := 174) rfl) rfl
theorem mw_779 : Cond.constantLong RX7 231 (6364136223846793005) ∈ wsL_law := inT4 (List.mem_of_getElem? (i := 175) rfl) rfl
theorem mw_780 : Cond.constantLong RX7 233 (1442695040888963407) ∈ wsL_law := inT4 (List.mem_of_getElem? (i := 176) rfl) rfl
theorem mw_781 : Cond.constantLong RX7 235 (36) ∈ wsL_law := inT4 (List.mem_of_getElem? (i := 177) rfl) rfl
theorem mw_782 : Cond.methodLink RX7 237 yX7_areaOf ∈ wsL_law := inT4 (List.mem_of_getElem? (i := 178) rfl) rfl
theorem mw_783 : Cond.instanceMethod yX7_areaOf ∈ wsL_law := inT4 (List.mem_of_getElem? (i := 180) rfl) rfl
theorem mw_784 : Cond.selects RX7 yX7_areaOf yX7_areaOf ∈ wsL_law := inP2 (List.mem_of_getElem? (i := 12) rfl) rfl
theorem mw_785 : Cond.code yX7_areaOf cX7_areaOf 3 (some .int) ∈ wsL_law := inT4 (List.mem_of_getElem? (i := 181) rfl) rfl
theorem mw_786 : Cond.methodLink RL 132 yX6_keep ∈ wsL_law := inT3 (List.mem_of_getElem? (i := 86) rfl) rfl
theorem mw_787 : Cond.instanceMethod yX6_keep ∈ wsL_law := inT3 (List.mem_of_getElem? (i := 87) rfl) rfl
theorem mw_788 : Cond.selects RX6 yX6_keep yX6_keep ∈ wsL_law := inT3 (List.mem_of_getElem? (i := 88) rfl) rfl
theorem mw_789 : Cond.code yX6_keep cX6_keep 3 (some .int) ∈ wsL_law := inT3 (List.mem_of_getElem? (i := 89) rfl) rfl
theorem mw_790 : Cond.methodLink RL 135 yX7_keep ∈ wsL_law := inT4 (List.mem_of_getElem? (i := 182) rfl) rfl
theorem mw_791 : Cond.instanceMethod yX7_keep ∈ wsL_law := inT4 (List.mem_of_getElem? (i := 183) rfl) rfl
theorem mw_792 : Cond.selects RX7 yX7_keep yX7_keep ∈ wsL_law := inT4 (List.mem_of_getElem? (i := 184) rfl) rfl
theorem mw_793 : Cond.code yX7_keep cX7_keep 3 (some .int) ∈ wsL_law := inT4 (List.mem_of_getElem? (i := 185) rfl) rfl
theorem mw_794 : Cond.methodLink RL 136 yX6_again ∈ wsL_law := inT3 (List.mem_of_getElem? (i := 90) rfl) rfl
theorem mw_795 : Cond.instanceMethod yX6_again ∈ wsL_law := inT3 (List.mem_of_getElem? (i := 91) rfl) rfl
theorem mw_796 : Cond.selects RX6 yX6_again yX6_again ∈ wsL_law := inT3 (List.mem_of_getElem? (i := 92) rfl) rfl
theorem mw_797 : Cond.code yX6_again cX6_again 3 (some .int) ∈ wsL_law := inT3 (List.mem_of_getElem? (i := 93) rfl) rfl
theorem mw_798 : Cond.methodLink RX6 236 yX0_clear ∈ wsL_law := inT3 (List.mem_of_getElem? (i := 94) rfl) rfl
theorem mw_799 : Cond.instanceMethod yX0_clear ∈ wsL_law := inT3 (List.mem_of_getElem? (i := 95) rfl) rfl
theorem mw_800 : Cond.selects RX0 yX0_clear yX0_clear ∈ wsL_law := inT3 (List.mem_of_getElem? (i := 96) rfl) rfl
theorem mw_801 : Cond.code yX0_clear cX0_clear 1 none ∈ wsL_law := inT3 (List.mem_of_getElem? (i := 97) rfl) rfl
theorem mw_802 : Cond.methodLink RL 139 yX7_again ∈ wsL_law := inT4 (List.mem_of_getElem? (i := 186) rfl) rfl
theorem mw_803 : Cond.instanceMethod yX7_again ∈ wsL_law := inT4 (List.mem_of_getElem? (i := 187) rfl) rfl
theorem mw_804 : Cond.selects RX7 yX7_again yX7_again ∈ wsL_law := inT4 (List.mem_of_getElem? (i := 188) rfl) rfl
theorem mw_805 : Cond.code yX7_again cX7_again 3 (some .int) ∈ wsL_law := inT4 (List.mem_of_getElem? (i := 189) rfl) rfl
theorem mw_806 : Cond.methodLink RL 140 yX6_count ∈ wsL_law := inT3 (List.mem_of_getElem? (i := 98) rfl) rfl
theorem mw_807 : Cond.instanceMethod yX6_count ∈ wsL_law := inT3 (List.mem_of_getElem? (i := 99) rfl) rfl
theorem mw_808 : Cond.selects RX6 yX6_count yX6_count ∈ wsL_law := inT3 (List.mem_of_getElem? (i := 100) rfl) rfl
theorem mw_809 : Cond.code yX6_count cX6_count 2 (some .int) ∈ wsL_law := inT3 (List.mem_of_getElem? (i := 101) rfl) rfl
theorem mw_810 : Cond.methodLink RL 143 yX7_count ∈ wsL_law := inT4 (List.mem_of_getElem? (i := 190) rfl) rfl
theorem mw_811 : Cond.instanceMethod yX7_count ∈ wsL_law := inT4 (List.mem_of_getElem? (i := 191) rfl) rfl
theorem mw_812 : Cond.selects RX7 yX7_count yX7_count ∈ wsL_law := inT4 (List.mem_of_getElem? (i := 192) rfl) rfl
theorem mw_813 : Cond.code yX7_count cX7_count 2 (some .int) ∈ wsL_law := inT4 (List.mem_of_getElem? (i := 193) rfl) rfl
theorem mw_814 : Cond.laysFinal RX0 "QuarterWords$Acts" "changed" "[I" ∈ wsL_law := inT1 (List.mem_of_getElem? (i := 73) rfl) rfl
theorem mw_815 : Cond.laysFinal RX0 "QuarterWords$Acts" "before" "[J" ∈ wsL_law := inT1 (List.mem_of_getElem? (i := 75) rfl) rfl
theorem mw_816 : Cond.lays RX0 "QuarterWords$Acts" "size" "I" ∈ wsL_law := inT1 (List.mem_of_getElem? (i := 77) rfl) rfl
theorem inlX0 : ∀ w ∈ wsX00, w ∈ wsL_law := by
  intro w hw
  obtain ⟨j, hj, rfl⟩ := List.mem_map.mp hw
  have hj := List.mem_range.mp hj
  match j, hj with
  | 0, _ => exact mw_814
  | 1, _ => exact mw_815
  | 2, _ => exact mw_816
  | j + 3, h => exact absurd h (by omega)
theorem mw_817 : Cond.laysFinal RX1 "QuarterWords$Album" "pictures" "[J" ∈ wsL_law := inT1 (List.mem_of_getElem? (i := 26) rfl) rfl
theorem inlX1 : ∀ w ∈ wsX10, w ∈ wsL_law := by
  intro w hw
  obtain ⟨j, hj, rfl⟩ := List.mem_map.mp hw
  have hj := List.mem_range.mp hj
  match j, hj with
  | 0, _ => exact mw_817
  | j + 1, h => exact absurd h (by omega)
theorem mw_818 : Cond.laysFinal RX3 "QuarterWords$Sight" "cells" "[I" ∈ wsL_law := inT1 (List.mem_of_getElem? (i := 89) rfl) rfl
theorem mw_819 : Cond.laysFinal RX3 "QuarterWords$Sight" "blacks" "[Z" ∈ wsL_law := inT1 (List.mem_of_getElem? (i := 91) rfl) rfl
theorem mw_820 : Cond.lays RX3 "QuarterWords$Sight" "size" "I" ∈ wsL_law := inT1 (List.mem_of_getElem? (i := 93) rfl) rfl
theorem inlX3 : ∀ w ∈ wsX30, w ∈ wsL_law := by
  intro w hw
  obtain ⟨j, hj, rfl⟩ := List.mem_map.mp hw
  have hj := List.mem_range.mp hj
  match j, hj with
  | 0, _ => exact mw_818
  | 1, _ => exact mw_819
  | 2, _ => exact mw_820
  | j + 3, h => exact absurd h (by omega)
theorem mw_821 : Cond.laysFinal RX4 "QuarterWords$Text" "letters" "[I" ∈ wsL_law := inT1 (List.mem_of_getElem? (i := 55) rfl) rfl
theorem mw_822 : Cond.laysFinal RX4 "QuarterWords$Text" "walk" "LQuarterWords$Walk;" ∈ wsL_law := inT1 (List.mem_of_getElem? (i := 57) rfl) rfl
theorem mw_823 : Cond.lays RX4 "QuarterWords$Text" "size" "I" ∈ wsL_law := inT1 (List.mem_of_getElem? (i := 59) rfl) rfl
theorem mw_824 : Cond.lays RX4 "QuarterWords$Text" "drawn" "J" ∈ wsL_law := inT1 (List.mem_of_getElem? (i := 61) rfl) rfl
theorem inlX4 : ∀ w ∈ wsX40, w ∈ wsL_law := by
  intro w hw
  obtain ⟨j, hj, rfl⟩ := List.mem_map.mp hw
  have hj := List.mem_range.mp hj
  match j, hj with
  | 0, _ => exact mw_821
  | 1, _ => exact mw_822
  | 2, _ => exact mw_823
  | 3, _ => exact mw_824
  | j + 4, h => exact absurd h (by omega)
theorem mw_825 : Cond.lays RX5 "QuarterWords$Walk" "place" "I" ∈ wsL_law := inT1 (List.mem_of_getElem? (i := 45) rfl) rfl
theorem mw_826 : Cond.lays RX5 "QuarterWords$Walk" "depth" "I" ∈ wsL_law := inT1 (List.mem_of_getElem? (i := 47) rfl) rfl
theorem inlX5 : ∀ w ∈ wsX50, w ∈ wsL_law := by
  intro w hw
  obtain ⟨j, hj, rfl⟩ := List.mem_map.mp hw
  have hj := List.mem_range.mp hj
  match j, hj with
  | 0, _ => exact mw_825
  | 1, _ => exact mw_826
  | j + 2, h => exact absurd h (by omega)
theorem mw_827 : Cond.laysFinal RX6 "QuarterWords" "live" "LQuarterWords$Album;" ∈ wsL_law := inT1 (List.mem_of_getElem? (i := 108) rfl) rfl
theorem mw_828 : Cond.laysFinal RX6 "QuarterWords" "trial" "LQuarterWords$Album;" ∈ wsL_law := inT1 (List.mem_of_getElem? (i := 110) rfl) rfl
theorem mw_829 : Cond.laysFinal RX6 "QuarterWords" "slots" "[LQuarterWords$Album;" ∈ wsL_law := inT1 (List.mem_of_getElem? (i := 112) rfl) rfl
theorem mw_830 : Cond.laysFinal RX6 "QuarterWords" "text" "LQuarterWords$Text;" ∈ wsL_law := inT1 (List.mem_of_getElem? (i := 114) rfl) rfl
theorem mw_831 : Cond.laysFinal RX6 "QuarterWords" "acts" "LQuarterWords$Acts;" ∈ wsL_law := inT1 (List.mem_of_getElem? (i := 116) rfl) rfl
theorem mw_832 : Cond.laysFinal RX6 "QuarterWords" "sight" "LQuarterWords$Sight;" ∈ wsL_law := inT1 (List.mem_of_getElem? (i := 118) rfl) rfl
theorem mw_833 : Cond.laysFinal RX6 "QuarterWords" "walk" "LQuarterWords$Walk;" ∈ wsL_law := inT1 (List.mem_of_getElem? (i := 120) rfl) rfl
theorem mw_834 : Cond.laysFinal RX6 "QuarterWords" "doings" "[I" ∈ wsL_law := inT1 (List.mem_of_getElem? (i := 122) rfl) rfl
theorem mw_835 : Cond.lays RX6 "QuarterWords" "theSeed" "J" ∈ wsL_law := inT1 (List.mem_of_getElem? (i := 124) rfl) rfl
theorem inlX6 : ∀ w ∈ wsX60, w ∈ wsL_law := by
  intro w hw
  obtain ⟨j, hj, rfl⟩ := List.mem_map.mp hw
  have hj := List.mem_range.mp hj
  match j, hj with
  | 0, _ => exact mw_827
  | 1, _ => exact mw_828
  | 2, _ => exact mw_829
  | 3, _ => exact mw_830
  | 4, _ => exact mw_831
  | 5, _ => exact mw_832
  | 6, _ => exact mw_833
  | 7, _ => exact mw_834
  | 8, _ => exact mw_835
  | j + 9, h => exact absurd h (by omega)
theorem mw_836 : Cond.laysFinal RX7 "QuarterWordsModel" "text" "[I" ∈ wsL_law := inT3 (List.mem_of_getElem? (i := 127) rfl) rfl
theorem mw_837 : Cond.lays RX7 "QuarterWordsModel" "length" "I" ∈ wsL_law := inT3 (List.mem_of_getElem? (i := 129) rfl) rfl
theorem mw_838 : Cond.lays RX7 "QuarterWordsModel" "read" "J" ∈ wsL_law := inT3 (List.mem_of_getElem? (i := 131) rfl) rfl
theorem mw_839 : Cond.lays RX7 "QuarterWordsModel" "depth" "I" ∈ wsL_law := inT3 (List.mem_of_getElem? (i := 133) rfl) rfl
theorem mw_840 : Cond.lays RX7 "QuarterWordsModel" "place" "I" ∈ wsL_law := inT3 (List.mem_of_getElem? (i := 135) rfl) rfl
theorem mw_841 : Cond.laysFinal RX7 "QuarterWordsModel" "now" "[J" ∈ wsL_law := inT3 (List.mem_of_getElem? (i := 137) rfl) rfl
theorem mw_842 : Cond.lays RX7 "QuarterWordsModel" "acts" "I" ∈ wsL_law := inT3 (List.mem_of_getElem? (i := 139) rfl) rfl
theorem mw_843 : Cond.lays RX7 "QuarterWordsModel" "next" "I" ∈ wsL_law := inT3 (List.mem_of_getElem? (i := 141) rfl) rfl
theorem mw_844 : Cond.laysFinal RX7 "QuarterWordsModel" "row" "[J" ∈ wsL_law := inT3 (List.mem_of_getElem? (i := 143) rfl) rfl
theorem mw_845 : Cond.laysFinal RX7 "QuarterWordsModel" "letters" "[I" ∈ wsL_law := inT3 (List.mem_of_getElem? (i := 145) rfl) rfl
theorem mw_846 : Cond.laysFinal RX7 "QuarterWordsModel" "depthAt" "[I" ∈ wsL_law := inT3 (List.mem_of_getElem? (i := 147) rfl) rfl
theorem mw_847 : Cond.laysFinal RX7 "QuarterWordsModel" "letterAt" "[I" ∈ wsL_law := inT3 (List.mem_of_getElem? (i := 149) rfl) rfl
theorem mw_848 : Cond.lays RX7 "QuarterWordsModel" "lettersMany" "I" ∈ wsL_law := inT3 (List.mem_of_getElem? (i := 151) rfl) rfl
theorem mw_849 : Cond.lays RX7 "QuarterWordsModel" "seen" "I" ∈ wsL_law := inT3 (List.mem_of_getElem? (i := 153) rfl) rfl
theorem mw_850 : Cond.laysFinal RX7 "QuarterWordsModel" "seenCell" "[I" ∈ wsL_law := inT3 (List.mem_of_getElem? (i := 155) rfl) rfl
theorem mw_851 : Cond.laysFinal RX7 "QuarterWordsModel" "seenBlack" "[I" ∈ wsL_law := inT3 (List.mem_of_getElem? (i := 157) rfl) rfl
theorem mw_852 : Cond.lays RX7 "QuarterWordsModel" "seed" "J" ∈ wsL_law := inT3 (List.mem_of_getElem? (i := 159) rfl) rfl
theorem mw_853 : Cond.laysFinal RX7 "QuarterWordsModel" "isKept" "[Z" ∈ wsL_law := inT3 (List.mem_of_getElem? (i := 161) rfl) rfl
theorem mw_854 : Cond.laysFinal RX7 "QuarterWordsModel" "kept" "[J" ∈ wsL_law := inT3 (List.mem_of_getElem? (i := 163) rfl) rfl
theorem inlX7 : ∀ w ∈ wsX70, w ∈ wsL_law := by
  intro w hw
  obtain ⟨j, hj, rfl⟩ := List.mem_map.mp hw
  have hj := List.mem_range.mp hj
  match j, hj with
  | 0, _ => exact mw_836
  | 1, _ => exact mw_837
  | 2, _ => exact mw_838
  | 3, _ => exact mw_839
  | 4, _ => exact mw_840
  | 5, _ => exact mw_841
  | 6, _ => exact mw_842
  | 7, _ => exact mw_843
  | 8, _ => exact mw_844
  | 9, _ => exact mw_845
  | 10, _ => exact mw_846
  | 11, _ => exact mw_847
  | 12, _ => exact mw_848
  | 13, _ => exact mw_849
  | 14, _ => exact mw_850
  | 15, _ => exact mw_851
  | 16, _ => exact mw_852
  | 17, _ => exact mw_853
  | 18, _ => exact mw_854
  | j + 19, h => exact absurd h (by omega)
