section
-- ===== PART A: goes FIRST, ahead of the names: the tables' words, and 'selects' of the private methods out of them =====
/-- a private method of a class that the tables say can be made, by its rows of tables_1 -/
def lw_okq (q : MethodName × Nat) : Prop := (q.1.cls ≠ "java/lang/invoke/MethodHandle" ∧ q.1.cls ≠ "java/lang/invoke/VarHandle") ∧ Cond.instantiable q.1.cls q.2 ∈ tables_1 ∧ Cond.privateMethod q.1 ∈ tables_1 ∧ Cond.instanceMethod q.1 ∈ tables_1
theorem lw_p0 : lw_okq (⟨"QuarterWords$Text", "reads", "(I)Z"⟩, 4) := ⟨⟨by decide +kernel, by decide +kernel⟩, List.mem_of_getElem? (i := 32) (by decide +kernel), List.mem_of_getElem? (i := 160) (by decide +kernel), List.mem_of_getElem? (i := 161) (by decide +kernel)⟩
theorem lw_p1 : lw_okq (⟨"QuarterWords$Walk", "cell", "()I"⟩, 2) := ⟨⟨by decide +kernel, by decide +kernel⟩, List.mem_of_getElem? (i := 38) (by decide +kernel), List.mem_of_getElem? (i := 179) (by decide +kernel), List.mem_of_getElem? (i := 180) (by decide +kernel)⟩
theorem lw_p2 : lw_okq (⟨"QuarterWords", "change", "(IJ)J"⟩, 9) := ⟨⟨by decide +kernel, by decide +kernel⟩, List.mem_of_getElem? (i := 12) (by decide +kernel), List.mem_of_getElem? (i := 212) (by decide +kernel), List.mem_of_getElem? (i := 213) (by decide +kernel)⟩
theorem lw_p3 : lw_okq (⟨"QuarterWords$Acts", "forgetFirst", "()V"⟩, 3) := ⟨⟨by decide +kernel, by decide +kernel⟩, List.mem_of_getElem? (i := 65) (by decide +kernel), List.mem_of_getElem? (i := 225) (by decide +kernel), List.mem_of_getElem? (i := 226) (by decide +kernel)⟩
theorem lw_p4 : lw_okq (⟨"QuarterWords", "combine", "(III)I"⟩, 9) := ⟨⟨by decide +kernel, by decide +kernel⟩, List.mem_of_getElem? (i := 12) (by decide +kernel), List.mem_of_getElem? (i := 243) (by decide +kernel), List.mem_of_getElem? (i := 244) (by decide +kernel)⟩
theorem lw_p5 : lw_okq (⟨"QuarterWords$Walk", "step", "(J)V"⟩, 2) := ⟨⟨by decide +kernel, by decide +kernel⟩, List.mem_of_getElem? (i := 38) (by decide +kernel), List.mem_of_getElem? (i := 341) (by decide +kernel), List.mem_of_getElem? (i := 342) (by decide +kernel)⟩
theorem lw_p6 : lw_okq (⟨"QuarterWords", "readsDoings", "(IJ)Z"⟩, 9) := ⟨⟨by decide +kernel, by decide +kernel⟩, List.mem_of_getElem? (i := 12) (by decide +kernel), List.mem_of_getElem? (i := 421) (by decide +kernel), List.mem_of_getElem? (i := 422) (by decide +kernel)⟩
theorem lw_p7 : lw_okq (⟨"QuarterWords$Album", "combines", "(III)Z"⟩, 1) := ⟨⟨by decide +kernel, by decide +kernel⟩, List.mem_of_getElem? (i := 20) (by decide +kernel), List.mem_of_getElem? (i := 439) (by decide +kernel), List.mem_of_getElem? (i := 440) (by decide +kernel)⟩
theorem lw_p8 : lw_okq (⟨"QuarterWords$Album", "moves", "(II)Z"⟩, 1) := ⟨⟨by decide +kernel, by decide +kernel⟩, List.mem_of_getElem? (i := 20) (by decide +kernel), List.mem_of_getElem? (i := 444) (by decide +kernel), List.mem_of_getElem? (i := 445) (by decide +kernel)⟩
theorem lw_p9 : lw_okq (⟨"QuarterWords$Album", "scales", "(III)Z"⟩, 1) := ⟨⟨by decide +kernel, by decide +kernel⟩, List.mem_of_getElem? (i := 20) (by decide +kernel), List.mem_of_getElem? (i := 450) (by decide +kernel), List.mem_of_getElem? (i := 451) (by decide +kernel)⟩
theorem lw_p10 : lw_okq (⟨"QuarterWords$Sight", "isSo", "(II)Z"⟩, 3) := ⟨⟨by decide +kernel, by decide +kernel⟩, List.mem_of_getElem? (i := 81) (by decide +kernel), List.mem_of_getElem? (i := 489) (by decide +kernel), List.mem_of_getElem? (i := 490) (by decide +kernel)⟩
theorem lw_p11 : lw_okq (⟨"QuarterWords$Sight", "firstFigure", "(I)I"⟩, 3) := ⟨⟨by decide +kernel, by decide +kernel⟩, List.mem_of_getElem? (i := 81) (by decide +kernel), List.mem_of_getElem? (i := 502) (by decide +kernel), List.mem_of_getElem? (i := 503) (by decide +kernel)⟩
theorem lw_p12 : lw_okq (⟨"QuarterWords", "isRest", "(IIII)Z"⟩, 9) := ⟨⟨by decide +kernel, by decide +kernel⟩, List.mem_of_getElem? (i := 12) (by decide +kernel), List.mem_of_getElem? (i := 528) (by decide +kernel), List.mem_of_getElem? (i := 529) (by decide +kernel)⟩
theorem lw_p13 : lw_okq (⟨"QuarterWords", "passYear", "(I)V"⟩, 9) := ⟨⟨by decide +kernel, by decide +kernel⟩, List.mem_of_getElem? (i := 12) (by decide +kernel), List.mem_of_getElem? (i := 558) (by decide +kernel), List.mem_of_getElem? (i := 559) (by decide +kernel)⟩
theorem lw_p14 : lw_okq (⟨"QuarterWordsModel", "readText", "()I"⟩, 19) := ⟨⟨by decide +kernel, by decide +kernel⟩, List.mem_of_getElem? (i := 583) (by decide +kernel), List.mem_of_getElem? (i := 663) (by decide +kernel), List.mem_of_getElem? (i := 664) (by decide +kernel)⟩
theorem lw_p15 : lw_okq (⟨"QuarterWordsModel", "goOn", "()V"⟩, 19) := ⟨⟨by decide +kernel, by decide +kernel⟩, List.mem_of_getElem? (i := 583) (by decide +kernel), List.mem_of_getElem? (i := 686) (by decide +kernel), List.mem_of_getElem? (i := 687) (by decide +kernel)⟩
def lw_privs_1 : List (MethodName × Nat) := [(⟨"QuarterWords$Text", "reads", "(I)Z"⟩, 4), (⟨"QuarterWords$Walk", "cell", "()I"⟩, 2), (⟨"QuarterWords", "change", "(IJ)J"⟩, 9), (⟨"QuarterWords$Acts", "forgetFirst", "()V"⟩, 3), (⟨"QuarterWords", "combine", "(III)I"⟩, 9), (⟨"QuarterWords$Walk", "step", "(J)V"⟩, 2), (⟨"QuarterWords", "readsDoings", "(IJ)Z"⟩, 9), (⟨"QuarterWords$Album", "combines", "(III)Z"⟩, 1), (⟨"QuarterWords$Album", "moves", "(II)Z"⟩, 1), (⟨"QuarterWords$Album", "scales", "(III)Z"⟩, 1), (⟨"QuarterWords$Sight", "isSo", "(II)Z"⟩, 3), (⟨"QuarterWords$Sight", "firstFigure", "(I)I"⟩, 3), (⟨"QuarterWords", "isRest", "(IIII)Z"⟩, 9), (⟨"QuarterWords", "passYear", "(I)V"⟩, 9), (⟨"QuarterWordsModel", "readText", "()I"⟩, 19), (⟨"QuarterWordsModel", "goOn", "()V"⟩, 19)]
theorem lw_r1 : ∀ q ∈ lw_privs_1, lw_okq q := List.forall_mem_cons.mpr ⟨lw_p0, List.forall_mem_cons.mpr ⟨lw_p1, List.forall_mem_cons.mpr ⟨lw_p2, List.forall_mem_cons.mpr ⟨lw_p3, List.forall_mem_cons.mpr ⟨lw_p4, List.forall_mem_cons.mpr ⟨lw_p5, List.forall_mem_cons.mpr ⟨lw_p6, List.forall_mem_cons.mpr ⟨lw_p7, List.forall_mem_cons.mpr ⟨lw_p8, List.forall_mem_cons.mpr ⟨lw_p9, List.forall_mem_cons.mpr ⟨lw_p10, List.forall_mem_cons.mpr ⟨lw_p11, List.forall_mem_cons.mpr ⟨lw_p12, List.forall_mem_cons.mpr ⟨lw_p13, List.forall_mem_cons.mpr ⟨lw_p14, List.forall_mem_cons.mpr ⟨lw_p15, fun _ h => absurd h List.not_mem_nil⟩⟩⟩⟩⟩⟩⟩⟩⟩⟩⟩⟩⟩⟩⟩⟩
theorem lw_p16 : lw_okq (⟨"QuarterWordsModel", "keepAct", "()V"⟩, 19) := ⟨⟨by decide +kernel, by decide +kernel⟩, List.mem_of_getElem? (i := 583) (by decide +kernel), List.mem_of_getElem? (i := 697) (by decide +kernel), List.mem_of_getElem? (i := 698) (by decide +kernel)⟩
theorem lw_p17 : lw_okq (⟨"QuarterWordsModel", "mix", "(III)I"⟩, 19) := ⟨⟨by decide +kernel, by decide +kernel⟩, List.mem_of_getElem? (i := 583) (by decide +kernel), List.mem_of_getElem? (i := 708) (by decide +kernel), List.mem_of_getElem? (i := 709) (by decide +kernel)⟩
theorem lw_p18 : lw_okq (⟨"QuarterWordsModel", "mixOn", "(IIII)V"⟩, 19) := ⟨⟨by decide +kernel, by decide +kernel⟩, List.mem_of_getElem? (i := 583) (by decide +kernel), List.mem_of_getElem? (i := 712) (by decide +kernel), List.mem_of_getElem? (i := 713) (by decide +kernel)⟩
theorem lw_p19 : lw_okq (⟨"QuarterWordsModel", "findWord", "(J)V"⟩, 19) := ⟨⟨by decide +kernel, by decide +kernel⟩, List.mem_of_getElem? (i := 583) (by decide +kernel), List.mem_of_getElem? (i := 770) (by decide +kernel), List.mem_of_getElem? (i := 771) (by decide +kernel)⟩
theorem lw_p20 : lw_okq (⟨"QuarterWordsModel", "leafOf", "(J)I"⟩, 19) := ⟨⟨by decide +kernel, by decide +kernel⟩, List.mem_of_getElem? (i := 583) (by decide +kernel), List.mem_of_getElem? (i := 774) (by decide +kernel), List.mem_of_getElem? (i := 775) (by decide +kernel)⟩
theorem lw_p21 : lw_okq (⟨"QuarterWordsModel", "tellCells", "(I)V"⟩, 19) := ⟨⟨by decide +kernel, by decide +kernel⟩, List.mem_of_getElem? (i := 583) (by decide +kernel), List.mem_of_getElem? (i := 781) (by decide +kernel), List.mem_of_getElem? (i := 782) (by decide +kernel)⟩
theorem lw_p22 : lw_okq (⟨"QuarterWordsModel", "layTrial", "()V"⟩, 19) := ⟨⟨by decide +kernel, by decide +kernel⟩, List.mem_of_getElem? (i := 583) (by decide +kernel), List.mem_of_getElem? (i := 828) (by decide +kernel), List.mem_of_getElem? (i := 829) (by decide +kernel)⟩
theorem lw_p23 : lw_okq (⟨"QuarterWordsModel", "tryThing", "(III)Z"⟩, 19) := ⟨⟨by decide +kernel, by decide +kernel⟩, List.mem_of_getElem? (i := 583) (by decide +kernel), List.mem_of_getElem? (i := 832) (by decide +kernel), List.mem_of_getElem? (i := 833) (by decide +kernel)⟩
theorem lw_p24 : lw_okq (⟨"QuarterWordsModel", "mayBe", "(I)Z"⟩, 19) := ⟨⟨by decide +kernel, by decide +kernel⟩, List.mem_of_getElem? (i := 583) (by decide +kernel), List.mem_of_getElem? (i := 848) (by decide +kernel), List.mem_of_getElem? (i := 849) (by decide +kernel)⟩
theorem lw_p25 : lw_okq (⟨"QuarterWordsModel", "areaBy", "(I)I"⟩, 19) := ⟨⟨by decide +kernel, by decide +kernel⟩, List.mem_of_getElem? (i := 583) (by decide +kernel), List.mem_of_getElem? (i := 862) (by decide +kernel), List.mem_of_getElem? (i := 863) (by decide +kernel)⟩
theorem lw_p26 : lw_okq (⟨"QuarterWordsModel", "isRest", "(IIII)Z"⟩, 19) := ⟨⟨by decide +kernel, by decide +kernel⟩, List.mem_of_getElem? (i := 583) (by decide +kernel), List.mem_of_getElem? (i := 873) (by decide +kernel), List.mem_of_getElem? (i := 874) (by decide +kernel)⟩
theorem lw_p27 : lw_okq (⟨"QuarterWordsModel", "gain", "(IIII)I"⟩, 19) := ⟨⟨by decide +kernel, by decide +kernel⟩, List.mem_of_getElem? (i := 583) (by decide +kernel), List.mem_of_getElem? (i := 877) (by decide +kernel), List.mem_of_getElem? (i := 878) (by decide +kernel)⟩
theorem lw_p28 : lw_okq (⟨"QuarterWordsModel", "areaOf", "(I)I"⟩, 19) := ⟨⟨by decide +kernel, by decide +kernel⟩, List.mem_of_getElem? (i := 583) (by decide +kernel), List.mem_of_getElem? (i := 899) (by decide +kernel), List.mem_of_getElem? (i := 900) (by decide +kernel)⟩
def lw_privs_2 : List (MethodName × Nat) := [(⟨"QuarterWordsModel", "keepAct", "()V"⟩, 19), (⟨"QuarterWordsModel", "mix", "(III)I"⟩, 19), (⟨"QuarterWordsModel", "mixOn", "(IIII)V"⟩, 19), (⟨"QuarterWordsModel", "findWord", "(J)V"⟩, 19), (⟨"QuarterWordsModel", "leafOf", "(J)I"⟩, 19), (⟨"QuarterWordsModel", "tellCells", "(I)V"⟩, 19), (⟨"QuarterWordsModel", "layTrial", "()V"⟩, 19), (⟨"QuarterWordsModel", "tryThing", "(III)Z"⟩, 19), (⟨"QuarterWordsModel", "mayBe", "(I)Z"⟩, 19), (⟨"QuarterWordsModel", "areaBy", "(I)I"⟩, 19), (⟨"QuarterWordsModel", "isRest", "(IIII)Z"⟩, 19), (⟨"QuarterWordsModel", "gain", "(IIII)I"⟩, 19), (⟨"QuarterWordsModel", "areaOf", "(I)I"⟩, 19)]
theorem lw_r2 : ∀ q ∈ lw_privs_2, lw_okq q := List.forall_mem_cons.mpr ⟨lw_p16, List.forall_mem_cons.mpr ⟨lw_p17, List.forall_mem_cons.mpr ⟨lw_p18, List.forall_mem_cons.mpr ⟨lw_p19, List.forall_mem_cons.mpr ⟨lw_p20, List.forall_mem_cons.mpr ⟨lw_p21, List.forall_mem_cons.mpr ⟨lw_p22, List.forall_mem_cons.mpr ⟨lw_p23, List.forall_mem_cons.mpr ⟨lw_p24, List.forall_mem_cons.mpr ⟨lw_p25, List.forall_mem_cons.mpr ⟨lw_p26, List.forall_mem_cons.mpr ⟨lw_p27, List.forall_mem_cons.mpr ⟨lw_p28, fun _ h => absurd h List.not_mem_nil⟩⟩⟩⟩⟩⟩⟩⟩⟩⟩⟩⟩⟩
def lw_privs : List (MethodName × Nat) := lw_privs_1 ++ (lw_privs_2)
def lw_tbl : List Cond := k2_sels lw_privs ++ tables_1
theorem lw_privs_ok : ∀ q ∈ lw_privs, lw_okq q := by
  show ∀ q ∈ lw_privs_1 ++ (lw_privs_2), lw_okq q
  exact List.forall_mem_append.mpr ⟨lw_r1, lw_r2⟩
end
section
def RX0 : String := "QuarterWords$Acts"
def TX0 : u_T := fun k => match k with
  | 0 => ("QuarterWords$Acts", "changed", "[I", true)
  | 1 => ("QuarterWords$Acts", "before", "[J", true)
  | _ => ("QuarterWords$Acts", "size", "I", false)
def tyX0 : Nat → FieldType := fun k => match k with
  | 0 => .array .int
  | 1 => .array .long
  | _ => .int
abbrev wsX00 : List Cond := u_ws RX0 TX0 3
theorem nmX0 : ∀ a, a < 3 → ∀ b, b < 3 → a ≠ b → (TX0 a).2.1 ≠ (TX0 b).2.1 := by decide +kernel
theorem tyX0_ok : ∀ k, k < 3 → parseFieldDescriptor (TX0 k).2.2.1 = some (tyX0 k) := by decide +kernel
abbrev cX0_init : ByteArray := prog_2_method_1_code
def yX0_init : MethodName := ⟨RX0, "<init>", "()V"⟩
abbrev cX0_size : ByteArray := prog_2_method_2_code
def yX0_size : MethodName := ⟨RX0, "size", "()I"⟩
abbrev cX0_clear : ByteArray := prog_2_method_3_code
def yX0_clear : MethodName := ⟨RX0, "clear", "()V"⟩
abbrev cX0_add : ByteArray := prog_2_method_4_code
def yX0_add : MethodName := ⟨RX0, "add", "(IJ)V"⟩
abbrev cX0_forgetFirst : ByteArray := prog_2_method_5_code
def yX0_forgetFirst : MethodName := ⟨RX0, "forgetFirst", "()V"⟩
abbrev cX0_lastPicture : ByteArray := prog_2_method_6_code
def yX0_lastPicture : MethodName := ⟨RX0, "lastPicture", "()I"⟩
abbrev cX0_lastBefore : ByteArray := prog_2_method_7_code
def yX0_lastBefore : MethodName := ⟨RX0, "lastBefore", "()J"⟩
abbrev cX0_dropLast : ByteArray := prog_2_method_8_code
def yX0_dropLast : MethodName := ⟨RX0, "dropLast", "()V"⟩
def RX1 : String := "QuarterWords$Album"
def TX1 : u_T := fun k => match k with
  | _ => ("QuarterWords$Album", "pictures", "[J", true)
def tyX1 : Nat → FieldType := fun k => match k with
  | _ => .array .long
abbrev wsX10 : List Cond := u_ws RX1 TX1 1
theorem nmX1 : ∀ a, a < 1 → ∀ b, b < 1 → a ≠ b → (TX1 a).2.1 ≠ (TX1 b).2.1 := by decide +kernel
theorem tyX1_ok : ∀ k, k < 1 → parseFieldDescriptor (TX1 k).2.2.1 = some (tyX1 k) := by decide +kernel
abbrev cX1_init : ByteArray := prog_3_method_1_code
def yX1_init : MethodName := ⟨RX1, "<init>", "()V"⟩
abbrev cX1_cells : ByteArray := prog_3_method_2_code
def yX1_cells : MethodName := ⟨RX1, "cells", "(I)J"⟩
abbrev cX1_set : ByteArray := prog_3_method_3_code
def yX1_set : MethodName := ⟨RX1, "set", "(IJ)V"⟩
abbrev cX1_copyFrom : ByteArray := prog_3_method_4_code
def yX1_copyFrom : MethodName := ⟨RX1, "copyFrom", "(LQuarterWords$Album;)V"⟩
abbrev cX1_area : ByteArray := prog_3_method_5_code
def yX1_area : MethodName := ⟨RX1, "area", "()I"⟩
abbrev cX1_blackIn : ByteArray := prog_3_method_6_code
def yX1_blackIn : MethodName := ⟨RX1, "blackIn", "(I)I"⟩
abbrev cX1_does : ByteArray := prog_3_method_7_code
def yX1_does : MethodName := ⟨RX1, "does", "(III)Z"⟩
abbrev cX1_combines : ByteArray := prog_3_method_8_code
def yX1_combines : MethodName := ⟨RX1, "combines", "(III)Z"⟩
abbrev cX1_moves : ByteArray := prog_3_method_9_code
def yX1_moves : MethodName := ⟨RX1, "moves", "(II)Z"⟩
abbrev cX1_scales : ByteArray := prog_3_method_10_code
def yX1_scales : MethodName := ⟨RX1, "scales", "(III)Z"⟩
def RX2 : String := "QuarterWords$Shapes"
def TX2 : u_T := fun k => match k with
  | _ => ("", "", "", false)
def tyX2 : Nat → FieldType := fun k => match k with
  | _ => .int
abbrev wsX20 : List Cond := u_ws RX2 TX2 0
theorem nmX2 : ∀ a, a < 0 → ∀ b, b < 0 → a ≠ b → (TX2 a).2.1 ≠ (TX2 b).2.1 := by decide +kernel
theorem tyX2_ok : ∀ k, k < 0 → parseFieldDescriptor (TX2 k).2.2.1 = some (tyX2 k) := by decide +kernel
abbrev cX2_isBlack : ByteArray := prog_4_method_2_code
def yX2_isBlack : MethodName := ⟨RX2, "isBlack", "(JI)Z"⟩
abbrev cX2_bit : ByteArray := prog_4_method_3_code
def yX2_bit : MethodName := ⟨RX2, "bit", "(II)J"⟩
abbrev cX2_lowestRow : ByteArray := prog_4_method_4_code
def yX2_lowestRow : MethodName := ⟨RX2, "lowestRow", "(J)I"⟩
abbrev cX2_isLeaf : ByteArray := prog_4_method_5_code
def yX2_isLeaf : MethodName := ⟨RX2, "isLeaf", "(I)Z"⟩
abbrev cX2_pattern : ByteArray := prog_4_method_6_code
def yX2_pattern : MethodName := ⟨RX2, "pattern", "(I)J"⟩
abbrev cX2_squareOf : ByteArray := prog_4_method_7_code
def yX2_squareOf : MethodName := ⟨RX2, "squareOf", "(II)J"⟩
abbrev cX2_quarterCells : ByteArray := prog_4_method_8_code
def yX2_quarterCells : MethodName := ⟨RX2, "quarterCells", "(I)J"⟩
abbrev cX2_quarterCorner : ByteArray := prog_4_method_9_code
def yX2_quarterCorner : MethodName := ⟨RX2, "quarterCorner", "(I)I"⟩
abbrev cX2_sign : ByteArray := prog_4_method_10_code
def yX2_sign : MethodName := ⟨RX2, "sign", "(JJ)I"⟩
abbrev cX2_depthAt : ByteArray := prog_4_method_11_code
def yX2_depthAt : MethodName := ⟨RX2, "depthAt", "(JI)I"⟩
abbrev cX2_combined : ByteArray := prog_4_method_12_code
def yX2_combined : MethodName := ⟨RX2, "combined", "(IJJ)J"⟩
abbrev cX2_turned : ByteArray := prog_4_method_13_code
def yX2_turned : MethodName := ⟨RX2, "turned", "(J)J"⟩
abbrev cX2_flipped : ByteArray := prog_4_method_14_code
def yX2_flipped : MethodName := ⟨RX2, "flipped", "(J)J"⟩
abbrev cX2_halved : ByteArray := prog_4_method_15_code
def yX2_halved : MethodName := ⟨RX2, "halved", "(JI)J"⟩
abbrev cX2_grown : ByteArray := prog_4_method_16_code
def yX2_grown : MethodName := ⟨RX2, "grown", "(JI)J"⟩
abbrev cX2_fourCells : ByteArray := prog_4_method_17_code
def yX2_fourCells : MethodName := ⟨RX2, "fourCells", "(II)J"⟩
abbrev cX2_byWay : ByteArray := prog_4_method_18_code
def yX2_byWay : MethodName := ⟨RX2, "byWay", "(JI)J"⟩
abbrev cX2_unlike : ByteArray := prog_4_method_19_code
def yX2_unlike : MethodName := ⟨RX2, "unlike", "(JJI)I"⟩
abbrev cX2_waysAlike : ByteArray := prog_4_method_20_code
def yX2_waysAlike : MethodName := ⟨RX2, "waysAlike", "(JJ)I"⟩
abbrev cX2_nearestWay : ByteArray := prog_4_method_21_code
def yX2_nearestWay : MethodName := ⟨RX2, "nearestWay", "(JJ)I"⟩
abbrev cX2_parts : ByteArray := prog_4_method_22_code
def yX2_parts : MethodName := ⟨RX2, "parts", "(J)I"⟩
abbrev cX2_partOf : ByteArray := prog_4_method_23_code
def yX2_partOf : MethodName := ⟨RX2, "partOf", "(JJ)J"⟩
abbrev cX2_leftOf : ByteArray := prog_4_method_24_code
def yX2_leftOf : MethodName := ⟨RX2, "leftOf", "(J)J"⟩
abbrev cX2_rightOf : ByteArray := prog_4_method_25_code
def yX2_rightOf : MethodName := ⟨RX2, "rightOf", "(J)J"⟩
abbrev cX2_rim : ByteArray := prog_4_method_26_code
def yX2_rim : MethodName := ⟨RX2, "rim", "(J)I"⟩
abbrev cX2_blocks : ByteArray := prog_4_method_27_code
def yX2_blocks : MethodName := ⟨RX2, "blocks", "(J)I"⟩
def RX3 : String := "QuarterWords$Sight"
def TX3 : u_T := fun k => match k with
  | 0 => ("QuarterWords$Sight", "cells", "[I", true)
  | 1 => ("QuarterWords$Sight", "blacks", "[Z", true)
  | _ => ("QuarterWords$Sight", "size", "I", false)
def tyX3 : Nat → FieldType := fun k => match k with
  | 0 => .array .int
  | 1 => .array .boolean
  | _ => .int
abbrev wsX30 : List Cond := u_ws RX3 TX3 3
theorem nmX3 : ∀ a, a < 3 → ∀ b, b < 3 → a ≠ b → (TX3 a).2.1 ≠ (TX3 b).2.1 := by decide +kernel
theorem tyX3_ok : ∀ k, k < 3 → parseFieldDescriptor (TX3 k).2.2.1 = some (tyX3 k) := by decide +kernel
abbrev cX3_init : ByteArray := prog_5_method_1_code
def yX3_init : MethodName := ⟨RX3, "<init>", "()V"⟩
abbrev cX3_size : ByteArray := prog_5_method_2_code
def yX3_size : MethodName := ⟨RX3, "size", "()I"⟩
abbrev cX3_clear : ByteArray := prog_5_method_3_code
def yX3_clear : MethodName := ⟨RX3, "clear", "()V"⟩
abbrev cX3_add : ByteArray := prog_5_method_4_code
def yX3_add : MethodName := ⟨RX3, "add", "(IZ)Z"⟩
abbrev cX3_fits : ByteArray := prog_5_method_5_code
def yX3_fits : MethodName := ⟨RX3, "fits", "()I"⟩
abbrev cX3_firstFit : ByteArray := prog_5_method_6_code
def yX3_firstFit : MethodName := ⟨RX3, "firstFit", "()I"⟩
abbrev cX3_firstFigure : ByteArray := prog_5_method_7_code
def yX3_firstFigure : MethodName := ⟨RX3, "firstFigure", "(I)I"⟩
abbrev cX3_isSo : ByteArray := prog_5_method_8_code
def yX3_isSo : MethodName := ⟨RX3, "isSo", "(II)Z"⟩
def RX4 : String := "QuarterWords$Text"
def TX4 : u_T := fun k => match k with
  | 0 => ("QuarterWords$Text", "letters", "[I", true)
  | 1 => ("QuarterWords$Text", "walk", "LQuarterWords$Walk;", true)
  | 2 => ("QuarterWords$Text", "size", "I", false)
  | _ => ("QuarterWords$Text", "drawn", "J", false)
def tyX4 : Nat → FieldType := fun k => match k with
  | 0 => .array .int
  | 1 => .object "QuarterWords$Walk"
  | 2 => .int
  | _ => .long
abbrev wsX40 : List Cond := u_ws RX4 TX4 4
theorem nmX4 : ∀ a, a < 4 → ∀ b, b < 4 → a ≠ b → (TX4 a).2.1 ≠ (TX4 b).2.1 := by decide +kernel
theorem tyX4_ok : ∀ k, k < 4 → parseFieldDescriptor (TX4 k).2.2.1 = some (tyX4 k) := by decide +kernel
abbrev cX4_init : ByteArray := prog_6_method_1_code
def yX4_init : MethodName := ⟨RX4, "<init>", "()V"⟩
abbrev cX4_size : ByteArray := prog_6_method_2_code
def yX4_size : MethodName := ⟨RX4, "size", "()I"⟩
abbrev cX4_clear : ByteArray := prog_6_method_3_code
def yX4_clear : MethodName := ⟨RX4, "clear", "()V"⟩
abbrev cX4_add : ByteArray := prog_6_method_4_code
def yX4_add : MethodName := ⟨RX4, "add", "(I)Z"⟩
abbrev cX4_firstFault : ByteArray := prog_6_method_5_code
def yX4_firstFault : MethodName := ⟨RX4, "firstFault", "()I"⟩
abbrev cX4_drawn : ByteArray := prog_6_method_6_code
def yX4_drawn : MethodName := ⟨RX4, "drawn", "()J"⟩
abbrev cX4_reads : ByteArray := prog_6_method_7_code
def yX4_reads : MethodName := ⟨RX4, "reads", "(I)Z"⟩
def RX5 : String := "QuarterWords$Walk"
def TX5 : u_T := fun k => match k with
  | 0 => ("QuarterWords$Walk", "place", "I", false)
  | _ => ("QuarterWords$Walk", "depth", "I", false)
def tyX5 : Nat → FieldType := fun k => match k with
  | 0 => .int
  | _ => .int
abbrev wsX50 : List Cond := u_ws RX5 TX5 2
theorem nmX5 : ∀ a, a < 2 → ∀ b, b < 2 → a ≠ b → (TX5 a).2.1 ≠ (TX5 b).2.1 := by decide +kernel
theorem tyX5_ok : ∀ k, k < 2 → parseFieldDescriptor (TX5 k).2.2.1 = some (tyX5 k) := by decide +kernel
abbrev cX5_init : ByteArray := prog_7_method_1_code
def yX5_init : MethodName := ⟨RX5, "<init>", "()V"⟩
abbrev cX5_start : ByteArray := prog_7_method_2_code
def yX5_start : MethodName := ⟨RX5, "start", "()V"⟩
abbrev cX5_hasEnded : ByteArray := prog_7_method_3_code
def yX5_hasEnded : MethodName := ⟨RX5, "hasEnded", "()Z"⟩
abbrev cX5_square : ByteArray := prog_7_method_4_code
def yX5_square : MethodName := ⟨RX5, "square", "()J"⟩
abbrev cX5_cut : ByteArray := prog_7_method_5_code
def yX5_cut : MethodName := ⟨RX5, "cut", "()Z"⟩
abbrev cX5_pass : ByteArray := prog_7_method_6_code
def yX5_pass : MethodName := ⟨RX5, "pass", "()V"⟩
abbrev cX5_sizeAt : ByteArray := prog_7_method_7_code
def yX5_sizeAt : MethodName := ⟨RX5, "sizeAt", "(I)I"⟩
abbrev cX5_leastLength : ByteArray := prog_7_method_8_code
def yX5_leastLength : MethodName := ⟨RX5, "leastLength", "(J)I"⟩
abbrev cX5_leastLetter : ByteArray := prog_7_method_9_code
def yX5_leastLetter : MethodName := ⟨RX5, "leastLetter", "(JI)I"⟩
abbrev cX5_step : ByteArray := prog_7_method_10_code
def yX5_step : MethodName := ⟨RX5, "step", "(J)V"⟩
abbrev cX5_cell : ByteArray := prog_7_method_11_code
def yX5_cell : MethodName := ⟨RX5, "cell", "()I"⟩
def RX6 : String := "QuarterWords"
def TX6 : u_T := fun k => match k with
  | 0 => ("QuarterWords", "live", "LQuarterWords$Album;", true)
  | 1 => ("QuarterWords", "trial", "LQuarterWords$Album;", true)
  | 2 => ("QuarterWords", "slots", "[LQuarterWords$Album;", true)
  | 3 => ("QuarterWords", "text", "LQuarterWords$Text;", true)
  | 4 => ("QuarterWords", "acts", "LQuarterWords$Acts;", true)
  | 5 => ("QuarterWords", "sight", "LQuarterWords$Sight;", true)
  | 6 => ("QuarterWords", "walk", "LQuarterWords$Walk;", true)
  | 7 => ("QuarterWords", "doings", "[I", true)
  | _ => ("QuarterWords", "theSeed", "J", false)
def tyX6 : Nat → FieldType := fun k => match k with
  | 0 => .object "QuarterWords$Album"
  | 1 => .object "QuarterWords$Album"
  | 2 => .array (.object "QuarterWords$Album")
  | 3 => .object "QuarterWords$Text"
  | 4 => .object "QuarterWords$Acts"
  | 5 => .object "QuarterWords$Sight"
  | 6 => .object "QuarterWords$Walk"
  | 7 => .array .int
  | _ => .long
abbrev wsX60 : List Cond := u_ws RX6 TX6 9
theorem nmX6 : ∀ a, a < 9 → ∀ b, b < 9 → a ≠ b → (TX6 a).2.1 ≠ (TX6 b).2.1 := by decide +kernel
theorem tyX6_ok : ∀ k, k < 9 → parseFieldDescriptor (TX6 k).2.2.1 = some (tyX6 k) := by decide +kernel
abbrev cX6_init : ByteArray := prog_1_method_1_code
def yX6_init : MethodName := ⟨RX6, "<init>", "()V"⟩
abbrev cX6_write : ByteArray := prog_1_method_2_code
def yX6_write : MethodName := ⟨RX6, "write", "(I)I"⟩
abbrev cX6_wipe : ByteArray := prog_1_method_3_code
def yX6_wipe : MethodName := ⟨RX6, "wipe", "()I"⟩
abbrev cX6_fault : ByteArray := prog_1_method_4_code
def yX6_fault : MethodName := ⟨RX6, "fault", "()I"⟩
abbrev cX6_put : ByteArray := prog_1_method_5_code
def yX6_put : MethodName := ⟨RX6, "put", "(I)I"⟩
abbrev cX6_join : ByteArray := prog_1_method_6_code
def yX6_join : MethodName := ⟨RX6, "join", "(II)I"⟩
abbrev cX6_meet : ByteArray := prog_1_method_7_code
def yX6_meet : MethodName := ⟨RX6, "meet", "(II)I"⟩
abbrev cX6_less : ByteArray := prog_1_method_8_code
def yX6_less : MethodName := ⟨RX6, "less", "(II)I"⟩
abbrev cX6_turn : ByteArray := prog_1_method_9_code
def yX6_turn : MethodName := ⟨RX6, "turn", "(I)I"⟩
abbrev cX6_flip : ByteArray := prog_1_method_10_code
def yX6_flip : MethodName := ⟨RX6, "flip", "(I)I"⟩
abbrev cX6_halve : ByteArray := prog_1_method_11_code
def yX6_halve : MethodName := ⟨RX6, "halve", "(II)I"⟩
abbrev cX6_grow : ByteArray := prog_1_method_12_code
def yX6_grow : MethodName := ⟨RX6, "grow", "(II)I"⟩
abbrev cX6_undo : ByteArray := prog_1_method_13_code
def yX6_undo : MethodName := ⟨RX6, "undo", "()I"⟩
abbrev cX6_black : ByteArray := prog_1_method_14_code
def yX6_black : MethodName := ⟨RX6, "black", "(I)J"⟩
abbrev cX6_look : ByteArray := prog_1_method_15_code
def yX6_look : MethodName := ⟨RX6, "look", "(II)I"⟩
abbrev cX6_letter : ByteArray := prog_1_method_16_code
def yX6_letter : MethodName := ⟨RX6, "letter", "(II)I"⟩
abbrev cX6_at : ByteArray := prog_1_method_17_code
def yX6_at : MethodName := ⟨RX6, "at", "(III)I"⟩
abbrev cX6_alike : ByteArray := prog_1_method_18_code
def yX6_alike : MethodName := ⟨RX6, "alike", "(II)I"⟩
abbrev cX6_near : ByteArray := prog_1_method_19_code
def yX6_near : MethodName := ⟨RX6, "near", "(III)I"⟩
abbrev cX6_judge : ByteArray := prog_1_method_20_code
def yX6_judge : MethodName := ⟨RX6, "judge", "(IJ)I"⟩
abbrev cX6_see : ByteArray := prog_1_method_21_code
def yX6_see : MethodName := ⟨RX6, "see", "(II)I"⟩
abbrev cX6_unsee : ByteArray := prog_1_method_22_code
def yX6_unsee : MethodName := ⟨RX6, "unsee", "()I"⟩
abbrev cX6_leaves : ByteArray := prog_1_method_23_code
def yX6_leaves : MethodName := ⟨RX6, "leaves", "(I)I"⟩
abbrev cX6_share : ByteArray := prog_1_method_24_code
def yX6_share : MethodName := ⟨RX6, "share", "(IZ)I"⟩
abbrev cX6_rests : ByteArray := prog_1_method_25_code
def yX6_rests : MethodName := ⟨RX6, "rests", "(III)I"⟩
abbrev cX6_fades : ByteArray := prog_1_method_26_code
def yX6_fades : MethodName := ⟨RX6, "fades", "(IIIZ)I"⟩
abbrev cX6_seed : ByteArray := prog_1_method_27_code
def yX6_seed : MethodName := ⟨RX6, "seed", "(J)J"⟩
abbrev cX6_years : ByteArray := prog_1_method_28_code
def yX6_years : MethodName := ⟨RX6, "years", "(I)I"⟩
abbrev cX6_keep : ByteArray := prog_1_method_29_code
def yX6_keep : MethodName := ⟨RX6, "keep", "(I)I"⟩
abbrev cX6_again : ByteArray := prog_1_method_30_code
def yX6_again : MethodName := ⟨RX6, "again", "(I)I"⟩
abbrev cX6_count : ByteArray := prog_1_method_31_code
def yX6_count : MethodName := ⟨RX6, "count", "(I)I"⟩
abbrev cX6_isPicture : ByteArray := prog_1_method_32_code
def yX6_isPicture : MethodName := ⟨RX6, "isPicture", "(I)Z"⟩
abbrev cX6_isCell : ByteArray := prog_1_method_33_code
def yX6_isCell : MethodName := ⟨RX6, "isCell", "(I)Z"⟩
abbrev cX6_isQuarter : ByteArray := prog_1_method_34_code
def yX6_isQuarter : MethodName := ⟨RX6, "isQuarter", "(I)Z"⟩
abbrev cX6_change : ByteArray := prog_1_method_35_code
def yX6_change : MethodName := ⟨RX6, "change", "(IJ)J"⟩
abbrev cX6_combine : ByteArray := prog_1_method_36_code
def yX6_combine : MethodName := ⟨RX6, "combine", "(III)I"⟩
abbrev cX6_readsDoings : ByteArray := prog_1_method_37_code
def yX6_readsDoings : MethodName := ⟨RX6, "readsDoings", "(IJ)Z"⟩
abbrev cX6_sixthsOfCell : ByteArray := prog_1_method_38_code
def yX6_sixthsOfCell : MethodName := ⟨RX6, "sixthsOfCell", "(I)I"⟩
abbrev cX6_isRest : ByteArray := prog_1_method_39_code
def yX6_isRest : MethodName := ⟨RX6, "isRest", "(IIII)Z"⟩
abbrev cX6_gain : ByteArray := prog_1_method_40_code
def yX6_gain : MethodName := ⟨RX6, "gain", "(JJJ)I"⟩
abbrev cX6_areaLeft : ByteArray := prog_1_method_41_code
def yX6_areaLeft : MethodName := ⟨RX6, "areaLeft", "(JI)I"⟩
abbrev cX6_chanceOf : ByteArray := prog_1_method_42_code
def yX6_chanceOf : MethodName := ⟨RX6, "chanceOf", "(II)I"⟩
abbrev cX6_told : ByteArray := prog_1_method_43_code
def yX6_told : MethodName := ⟨RX6, "told", "(IIZ)I"⟩
abbrev cX6_commonDivisor : ByteArray := prog_1_method_44_code
def yX6_commonDivisor : MethodName := ⟨RX6, "commonDivisor", "(II)I"⟩
abbrev cX6_passYear : ByteArray := prog_1_method_45_code
def yX6_passYear : MethodName := ⟨RX6, "passYear", "(I)V"⟩
def RX7 : String := "QuarterWordsModel"
def TX7 : u_T := fun k => match k with
  | 0 => ("QuarterWordsModel", "text", "[I", true)
  | 1 => ("QuarterWordsModel", "length", "I", false)
  | 2 => ("QuarterWordsModel", "read", "J", false)
  | 3 => ("QuarterWordsModel", "depth", "I", false)
  | 4 => ("QuarterWordsModel", "place", "I", false)
  | 5 => ("QuarterWordsModel", "now", "[J", true)
  | 6 => ("QuarterWordsModel", "acts", "I", false)
  | 7 => ("QuarterWordsModel", "next", "I", false)
  | 8 => ("QuarterWordsModel", "row", "[J", true)
  | 9 => ("QuarterWordsModel", "letters", "[I", true)
  | 10 => ("QuarterWordsModel", "depthAt", "[I", true)
  | 11 => ("QuarterWordsModel", "letterAt", "[I", true)
  | 12 => ("QuarterWordsModel", "lettersMany", "I", false)
  | 13 => ("QuarterWordsModel", "seen", "I", false)
  | 14 => ("QuarterWordsModel", "seenCell", "[I", true)
  | 15 => ("QuarterWordsModel", "seenBlack", "[I", true)
  | 16 => ("QuarterWordsModel", "seed", "J", false)
  | 17 => ("QuarterWordsModel", "isKept", "[Z", true)
  | _ => ("QuarterWordsModel", "kept", "[J", true)
def tyX7 : Nat → FieldType := fun k => match k with
  | 0 => .array .int
  | 1 => .int
  | 2 => .long
  | 3 => .int
  | 4 => .int
  | 5 => .array .long
  | 6 => .int
  | 7 => .int
  | 8 => .array .long
  | 9 => .array .int
  | 10 => .array .int
  | 11 => .array .int
  | 12 => .int
  | 13 => .int
  | 14 => .array .int
  | 15 => .array .int
  | 16 => .long
  | 17 => .array .boolean
  | _ => .array .long
abbrev wsX70 : List Cond := u_ws RX7 TX7 19
theorem nmX7 : ∀ a, a < 19 → ∀ b, b < 19 → a ≠ b → (TX7 a).2.1 ≠ (TX7 b).2.1 := by decide +kernel
theorem tyX7_ok : ∀ k, k < 19 → parseFieldDescriptor (TX7 k).2.2.1 = some (tyX7 k) := by decide +kernel
abbrev cX7_init : ByteArray := prog_9_method_1_code
def yX7_init : MethodName := ⟨RX7, "<init>", "()V"⟩
abbrev cX7_in : ByteArray := prog_9_method_3_code
def yX7_in : MethodName := ⟨RX7, "in", "(JJJ)Z"⟩
abbrev cX7_ones : ByteArray := prog_9_method_4_code
def yX7_ones : MethodName := ⟨RX7, "ones", "(J)I"⟩
abbrev cX7_is : ByteArray := prog_9_method_5_code
def yX7_is : MethodName := ⟨RX7, "is", "(JII)Z"⟩
abbrev cX7_widthAt : ByteArray := prog_9_method_6_code
def yX7_widthAt : MethodName := ⟨RX7, "widthAt", "(I)I"⟩
abbrev cX7_leftOf : ByteArray := prog_9_method_7_code
def yX7_leftOf : MethodName := ⟨RX7, "leftOf", "(II)I"⟩
abbrev cX7_lowOf : ByteArray := prog_9_method_8_code
def yX7_lowOf : MethodName := ⟨RX7, "lowOf", "(II)I"⟩
abbrev cX7_tells : ByteArray := prog_9_method_9_code
def yX7_tells : MethodName := ⟨RX7, "tells", "(III)Z"⟩
abbrev cX7_maskOf : ByteArray := prog_9_method_10_code
def yX7_maskOf : MethodName := ⟨RX7, "maskOf", "(II)J"⟩
abbrev cX7_paintOf : ByteArray := prog_9_method_11_code
def yX7_paintOf : MethodName := ⟨RX7, "paintOf", "(III)J"⟩
abbrev cX7_isLeaf : ByteArray := prog_9_method_12_code
def yX7_isLeaf : MethodName := ⟨RX7, "isLeaf", "(I)Z"⟩
abbrev cX7_write : ByteArray := prog_9_method_13_code
def yX7_write : MethodName := ⟨RX7, "write", "(I)I"⟩
abbrev cX7_wipe : ByteArray := prog_9_method_14_code
def yX7_wipe : MethodName := ⟨RX7, "wipe", "()I"⟩
abbrev cX7_goOn : ByteArray := prog_9_method_15_code
def yX7_goOn : MethodName := ⟨RX7, "goOn", "()V"⟩
abbrev cX7_readText : ByteArray := prog_9_method_16_code
def yX7_readText : MethodName := ⟨RX7, "readText", "()I"⟩
abbrev cX7_fault : ByteArray := prog_9_method_17_code
def yX7_fault : MethodName := ⟨RX7, "fault", "()I"⟩
abbrev cX7_isPicture : ByteArray := prog_9_method_18_code
def yX7_isPicture : MethodName := ⟨RX7, "isPicture", "(I)Z"⟩
abbrev cX7_turned : ByteArray := prog_9_method_19_code
def yX7_turned : MethodName := ⟨RX7, "turned", "(J)J"⟩
abbrev cX7_flipped : ByteArray := prog_9_method_20_code
def yX7_flipped : MethodName := ⟨RX7, "flipped", "(J)J"⟩
abbrev cX7_halved : ByteArray := prog_9_method_21_code
def yX7_halved : MethodName := ⟨RX7, "halved", "(JI)J"⟩
abbrev cX7_grown : ByteArray := prog_9_method_22_code
def yX7_grown : MethodName := ⟨RX7, "grown", "(JI)J"⟩
abbrev cX7_keepAct : ByteArray := prog_9_method_23_code
def yX7_keepAct : MethodName := ⟨RX7, "keepAct", "()V"⟩
abbrev cX7_put : ByteArray := prog_9_method_24_code
def yX7_put : MethodName := ⟨RX7, "put", "(I)I"⟩
abbrev cX7_mixOn : ByteArray := prog_9_method_25_code
def yX7_mixOn : MethodName := ⟨RX7, "mixOn", "(IIII)V"⟩
abbrev cX7_mix : ByteArray := prog_9_method_26_code
def yX7_mix : MethodName := ⟨RX7, "mix", "(III)I"⟩
abbrev cX7_join : ByteArray := prog_9_method_27_code
def yX7_join : MethodName := ⟨RX7, "join", "(II)I"⟩
abbrev cX7_meet : ByteArray := prog_9_method_28_code
def yX7_meet : MethodName := ⟨RX7, "meet", "(II)I"⟩
abbrev cX7_less : ByteArray := prog_9_method_29_code
def yX7_less : MethodName := ⟨RX7, "less", "(II)I"⟩
abbrev cX7_turn : ByteArray := prog_9_method_30_code
def yX7_turn : MethodName := ⟨RX7, "turn", "(I)I"⟩
abbrev cX7_flip : ByteArray := prog_9_method_31_code
def yX7_flip : MethodName := ⟨RX7, "flip", "(I)I"⟩
abbrev cX7_halve : ByteArray := prog_9_method_32_code
def yX7_halve : MethodName := ⟨RX7, "halve", "(II)I"⟩
abbrev cX7_grow : ByteArray := prog_9_method_33_code
def yX7_grow : MethodName := ⟨RX7, "grow", "(II)I"⟩
abbrev cX7_undo : ByteArray := prog_9_method_34_code
def yX7_undo : MethodName := ⟨RX7, "undo", "()I"⟩
abbrev cX7_black : ByteArray := prog_9_method_35_code
def yX7_black : MethodName := ⟨RX7, "black", "(I)J"⟩
abbrev cX7_leafOf : ByteArray := prog_9_method_36_code
def yX7_leafOf : MethodName := ⟨RX7, "leafOf", "(J)I"⟩
abbrev cX7_findWord : ByteArray := prog_9_method_37_code
def yX7_findWord : MethodName := ⟨RX7, "findWord", "(J)V"⟩
abbrev cX7_tellCells : ByteArray := prog_9_method_38_code
def yX7_tellCells : MethodName := ⟨RX7, "tellCells", "(I)V"⟩
abbrev cX7_partsOf : ByteArray := prog_9_method_39_code
def yX7_partsOf : MethodName := ⟨RX7, "partsOf", "(J)I"⟩
abbrev cX7_rimOf : ByteArray := prog_9_method_40_code
def yX7_rimOf : MethodName := ⟨RX7, "rimOf", "(J)I"⟩
abbrev cX7_blocksOf : ByteArray := prog_9_method_41_code
def yX7_blocksOf : MethodName := ⟨RX7, "blocksOf", "(J)I"⟩
abbrev cX7_look : ByteArray := prog_9_method_42_code
def yX7_look : MethodName := ⟨RX7, "look", "(II)I"⟩
abbrev cX7_letter : ByteArray := prog_9_method_43_code
def yX7_letter : MethodName := ⟨RX7, "letter", "(II)I"⟩
abbrev cX7_at : ByteArray := prog_9_method_44_code
def yX7_at : MethodName := ⟨RX7, "at", "(III)I"⟩
abbrev cX7_byWay : ByteArray := prog_9_method_45_code
def yX7_byWay : MethodName := ⟨RX7, "byWay", "(JI)J"⟩
abbrev cX7_waysOf : ByteArray := prog_9_method_46_code
def yX7_waysOf : MethodName := ⟨RX7, "waysOf", "(JJ)I"⟩
abbrev cX7_alike : ByteArray := prog_9_method_47_code
def yX7_alike : MethodName := ⟨RX7, "alike", "(II)I"⟩
abbrev cX7_near : ByteArray := prog_9_method_48_code
def yX7_near : MethodName := ⟨RX7, "near", "(III)I"⟩
abbrev cX7_layTrial : ByteArray := prog_9_method_49_code
def yX7_layTrial : MethodName := ⟨RX7, "layTrial", "()V"⟩
abbrev cX7_tryThing : ByteArray := prog_9_method_50_code
def yX7_tryThing : MethodName := ⟨RX7, "tryThing", "(III)Z"⟩
abbrev cX7_thousandTo : ByteArray := prog_9_method_51_code
def yX7_thousandTo : MethodName := ⟨RX7, "thousandTo", "(I)J"⟩
abbrev cX7_judge : ByteArray := prog_9_method_52_code
def yX7_judge : MethodName := ⟨RX7, "judge", "(IJ)I"⟩
abbrev cX7_see : ByteArray := prog_9_method_53_code
def yX7_see : MethodName := ⟨RX7, "see", "(II)I"⟩
abbrev cX7_unsee : ByteArray := prog_9_method_54_code
def yX7_unsee : MethodName := ⟨RX7, "unsee", "()I"⟩
abbrev cX7_leafLetter : ByteArray := prog_9_method_55_code
def yX7_leafLetter : MethodName := ⟨RX7, "leafLetter", "(I)I"⟩
abbrev cX7_mayBe : ByteArray := prog_9_method_56_code
def yX7_mayBe : MethodName := ⟨RX7, "mayBe", "(I)Z"⟩
abbrev cX7_figuresOf : ByteArray := prog_9_method_57_code
def yX7_figuresOf : MethodName := ⟨RX7, "figuresOf", "(I)I"⟩
abbrev cX7_leaves : ByteArray := prog_9_method_58_code
def yX7_leaves : MethodName := ⟨RX7, "leaves", "(I)I"⟩
abbrev cX7_common : ByteArray := prog_9_method_59_code
def yX7_common : MethodName := ⟨RX7, "common", "(II)I"⟩
abbrev cX7_areaBy : ByteArray := prog_9_method_60_code
def yX7_areaBy : MethodName := ⟨RX7, "areaBy", "(I)I"⟩
abbrev cX7_share : ByteArray := prog_9_method_61_code
def yX7_share : MethodName := ⟨RX7, "share", "(IZ)I"⟩
abbrev cX7_gain : ByteArray := prog_9_method_62_code
def yX7_gain : MethodName := ⟨RX7, "gain", "(IIII)I"⟩
abbrev cX7_isRest : ByteArray := prog_9_method_63_code
def yX7_isRest : MethodName := ⟨RX7, "isRest", "(IIII)Z"⟩
abbrev cX7_rests : ByteArray := prog_9_method_64_code
def yX7_rests : MethodName := ⟨RX7, "rests", "(III)I"⟩
abbrev cX7_fades : ByteArray := prog_9_method_65_code
def yX7_fades : MethodName := ⟨RX7, "fades", "(IIIZ)I"⟩
abbrev cX7_seed : ByteArray := prog_9_method_66_code
def yX7_seed : MethodName := ⟨RX7, "seed", "(J)J"⟩
abbrev cX7_areaOf : ByteArray := prog_9_method_67_code
def yX7_areaOf : MethodName := ⟨RX7, "areaOf", "(I)I"⟩
abbrev cX7_years : ByteArray := prog_9_method_68_code
def yX7_years : MethodName := ⟨RX7, "years", "(I)I"⟩
abbrev cX7_keep : ByteArray := prog_9_method_69_code
def yX7_keep : MethodName := ⟨RX7, "keep", "(I)I"⟩
abbrev cX7_again : ByteArray := prog_9_method_70_code
def yX7_again : MethodName := ⟨RX7, "again", "(I)I"⟩
abbrev cX7_count : ByteArray := prog_9_method_71_code
def yX7_count : MethodName := ⟨RX7, "count", "(I)I"⟩
def RJ13 : String := "java/lang/Long"
def TJ13 : u_T := fun k => match k with
  | _ => ("", "", "", false)
def tyJ13 : Nat → FieldType := fun k => match k with
  | _ => .int
abbrev wsJ130 : List Cond := u_ws RJ13 TJ13 0
theorem nmJ13 : ∀ a, a < 0 → ∀ b, b < 0 → a ≠ b → (TJ13 a).2.1 ≠ (TJ13 b).2.1 := by decide +kernel
theorem tyJ13_ok : ∀ k, k < 0 → parseFieldDescriptor (TJ13 k).2.2.1 = some (tyJ13 k) := by decide +kernel
abbrev cJ13_bitCount_95d88 : ByteArray := prog_10_method_50_code
def yJ13_bitCount_95d88 : MethodName := ⟨RJ13, "bitCount", "(J)I"⟩
def RJ9 : String := "java/lang/Math"
def TJ9 : u_T := fun k => match k with
  | _ => ("", "", "", false)
def tyJ9 : Nat → FieldType := fun k => match k with
  | _ => .int
abbrev wsJ90 : List Cond := u_ws RJ9 TJ9 0
theorem nmJ9 : ∀ a, a < 0 → ∀ b, b < 0 → a ≠ b → (TJ9 a).2.1 ≠ (TJ9 b).2.1 := by decide +kernel
theorem tyJ9_ok : ∀ k, k < 0 → parseFieldDescriptor (TJ9 k).2.2.1 = some (tyJ9 k) := by decide +kernel
abbrev cJ9_min_7cf53 : ByteArray := prog_11_method_69_code
def yJ9_min_7cf53 : MethodName := ⟨RJ9, "min", "(II)I"⟩
def RL : String := "QuarterWordsLaw"
abbrev cL_law : ByteArray := code
def yL_law : MethodName := ⟨RL, "law", "([I)Z"⟩
abbrev vwCl : List vw_C := [(RX0, TX0, 3), (RX1, TX1, 1), (RX3, TX3, 3), (RX4, TX4, 4), (RX5, TX5, 2), (RX6, TX6, 9), (RX7, TX7, 19)]
/-- the words that last, of the tables -/
def wsL_law : List Cond := lw_tbl.filter goodWord
theorem wsL_law_in : ∀ w ∈ wsL_law, w ∈ lw_tbl := fun w h => (List.mem_filter.mp h).1
theorem wsL_g : GoodIn wsL_law wsL_law := fun w h => ⟨h, good_of_word (List.mem_filter.mp h).2⟩
theorem wsL_of {w : Cond} (h : w ∈ tables_1) (hg : goodWord w = true) : w ∈ wsL_law := List.mem_filter.mpr ⟨List.mem_append_right _ h, hg⟩
theorem inT1 {w : Cond} (h : w ∈ tables_1_1) (hg : goodWord w = true) : w ∈ wsL_law := wsL_of (List.mem_append_left _ h) hg
theorem inT2 {w : Cond} (h : w ∈ tables_1_2) (hg : goodWord w = true) : w ∈ wsL_law := wsL_of (List.mem_append_right _ (List.mem_append_left _ h)) hg
theorem inT3 {w : Cond} (h : w ∈ tables_1_3) (hg : goodWord w = true) : w ∈ wsL_law := wsL_of (List.mem_append_right _ (List.mem_append_right _ (List.mem_append_left _ h))) hg
theorem inT4 {w : Cond} (h : w ∈ tables_1_4) (hg : goodWord w = true) : w ∈ wsL_law := wsL_of (List.mem_append_right _ (List.mem_append_right _ (List.mem_append_right _ h))) hg
theorem inP1 {y : MethodName} {n : Nat} (h : (y, n) ∈ lw_privs_1) (hg : goodWord (.selects y.cls y y) = true) : Cond.selects y.cls y y ∈ wsL_law := List.mem_filter.mpr ⟨List.mem_append_left _ (List.mem_map.mpr ⟨(y, n), List.mem_append_left _ h, rfl⟩), hg⟩
theorem inP2 {y : MethodName} {n : Nat} (h : (y, n) ∈ lw_privs_2) (hg : goodWord (.selects y.cls y y) = true) : Cond.selects y.cls y y ∈ wsL_law := List.mem_filter.mpr ⟨List.mem_append_left _ (List.mem_map.mpr ⟨(y, n), List.mem_append_right _ h, rfl⟩), hg⟩
theorem mw_0 : Cond.classLink RL 7 RX6 ∈ wsL_law := inT1 (List.mem_of_getElem? (i := 11) rfl) rfl
theorem mw_1 : Cond.instantiable RX6 9 ∈ wsL_law := inT1 (List.mem_of_getElem? (i := 12) rfl) rfl
theorem mw_2 : Cond.initialized RX6 ∈ wsL_law := inT1 (List.mem_of_getElem? (i := 1) rfl) rfl
theorem mw_3 : Cond.classLink RL 10 RX7 ∈ wsL_law := inT3 (List.mem_of_getElem? (i := 102) rfl) rfl
theorem mw_4 : Cond.instantiable RX7 19 ∈ wsL_law := inT3 (List.mem_of_getElem? (i := 103) rfl) rfl
theorem mw_5 : Cond.initialized RX7 ∈ wsL_law := inT1 (List.mem_of_getElem? (i := 7) rfl) rfl
theorem mw_6 : Cond.constantLong RL 90 (4294967295) ∈ wsL_law := inT4 (List.mem_of_getElem? (i := 194) rfl) rfl
theorem mw_7 : Cond.methodLink RL 9 yX6_init ∈ wsL_law := inT1 (List.mem_of_getElem? (i := 13) rfl) rfl
theorem mw_8 : Cond.instanceMethod yX6_init ∈ wsL_law := inT1 (List.mem_of_getElem? (i := 14) rfl) rfl
theorem mw_9 : Cond.code yX6_init cX6_init 1 none ∈ wsL_law := inT1 (List.mem_of_getElem? (i := 15) rfl) rfl
theorem mw_10 : Cond.methodLink RX6 1 objectInit ∈ wsL_law := inT1 (List.mem_of_getElem? (i := 16) rfl) rfl
theorem mw_11 : Cond.instanceMethod objectInit ∈ wsL_law := inT1 (List.mem_of_getElem? (i := 17) rfl) rfl
theorem mw_12 : Cond.code objectInit ⟨#[0xb1]⟩ 1 none ∈ wsL_law := inT1 (List.mem_of_getElem? (i := 18) rfl) rfl
theorem mw_13 : Cond.classLink RX6 7 RX1 ∈ wsL_law := inT1 (List.mem_of_getElem? (i := 19) rfl) rfl
theorem mw_14 : Cond.instantiable RX1 1 ∈ wsL_law := inT1 (List.mem_of_getElem? (i := 20) rfl) rfl
theorem mw_15 : Cond.initialized RX1 ∈ wsL_law := inT1 (List.mem_of_getElem? (i := 2) rfl) rfl
theorem mw_16 : Cond.fieldLink RX6 10 "QuarterWords" "live" "LQuarterWords$Album;" ∈ wsL_law := inT1 (List.mem_of_getElem? (i := 99) rfl) rfl
theorem mw_17 : Cond.fieldLink RX6 16 "QuarterWords" "trial" "LQuarterWords$Album;" ∈ wsL_law := inT1 (List.mem_of_getElem? (i := 100) rfl) rfl
theorem mw_18 : Cond.fieldLink RX6 19 "QuarterWords" "slots" "[LQuarterWords$Album;" ∈ wsL_law := inT1 (List.mem_of_getElem? (i := 101) rfl) rfl
theorem mw_19 : Cond.classLink RX6 23 RX4 ∈ wsL_law := inT1 (List.mem_of_getElem? (i := 31) rfl) rfl
theorem mw_20 : Cond.instantiable RX4 4 ∈ wsL_law := inT1 (List.mem_of_getElem? (i := 32) rfl) rfl
theorem mw_21 : Cond.initialized RX4 ∈ wsL_law := inT1 (List.mem_of_getElem? (i := 3) rfl) rfl
theorem mw_22 : Cond.fieldLink RX6 26 "QuarterWords" "text" "LQuarterWords$Text;" ∈ wsL_law := inT1 (List.mem_of_getElem? (i := 102) rfl) rfl
theorem mw_23 : Cond.classLink RX6 30 RX0 ∈ wsL_law := inT1 (List.mem_of_getElem? (i := 64) rfl) rfl
theorem mw_24 : Cond.instantiable RX0 3 ∈ wsL_law := inT1 (List.mem_of_getElem? (i := 65) rfl) rfl
theorem mw_25 : Cond.initialized RX0 ∈ wsL_law := inT1 (List.mem_of_getElem? (i := 5) rfl) rfl
theorem mw_26 : Cond.fieldLink RX6 33 "QuarterWords" "acts" "LQuarterWords$Acts;" ∈ wsL_law := inT1 (List.mem_of_getElem? (i := 103) rfl) rfl
theorem mw_27 : Cond.classLink RX6 37 RX3 ∈ wsL_law := inT1 (List.mem_of_getElem? (i := 80) rfl) rfl
theorem mw_28 : Cond.instantiable RX3 3 ∈ wsL_law := inT1 (List.mem_of_getElem? (i := 81) rfl) rfl
theorem mw_29 : Cond.initialized RX3 ∈ wsL_law := inT1 (List.mem_of_getElem? (i := 6) rfl) rfl
theorem mw_30 : Cond.fieldLink RX6 40 "QuarterWords" "sight" "LQuarterWords$Sight;" ∈ wsL_law := inT1 (List.mem_of_getElem? (i := 104) rfl) rfl
theorem mw_31 : Cond.classLink RX6 44 RX5 ∈ wsL_law := inT1 (List.mem_of_getElem? (i := 97) rfl) rfl
theorem mw_32 : Cond.instantiable RX5 2 ∈ wsL_law := inT1 (List.mem_of_getElem? (i := 38) rfl) rfl
theorem mw_33 : Cond.initialized RX5 ∈ wsL_law := inT1 (List.mem_of_getElem? (i := 4) rfl) rfl
theorem mw_34 : Cond.fieldLink RX6 47 "QuarterWords" "walk" "LQuarterWords$Walk;" ∈ wsL_law := inT1 (List.mem_of_getElem? (i := 105) rfl) rfl
theorem mw_35 : Cond.arrayClass .int ∈ wsL_law := inT1 (List.mem_of_getElem? (i := 50) rfl) rfl
theorem mw_36 : Cond.fieldLink RX6 51 "QuarterWords" "doings" "[I" ∈ wsL_law := inT1 (List.mem_of_getElem? (i := 106) rfl) rfl
theorem mw_37 : Cond.fieldLink RX6 55 "QuarterWords" "theSeed" "J" ∈ wsL_law := inT1 (List.mem_of_getElem? (i := 107) rfl) rfl
theorem mw_38 : Cond.instanceMethod yX1_init ∈ wsL_law := inT1 (List.mem_of_getElem? (i := 22) rfl) rfl
theorem mw_39 : Cond.code yX1_init cX1_init 1 none ∈ wsL_law := inT1 (List.mem_of_getElem? (i := 23) rfl) rfl
theorem mw_40 : Cond.methodLink RX1 3 objectInit ∈ wsL_law := inT1 (List.mem_of_getElem? (i := 24) rfl) rfl
theorem mw_41 : Cond.arrayClass .long ∈ wsL_law := inT1 (List.mem_of_getElem? (i := 29) rfl) rfl
theorem mw_42 : Cond.fieldLink RX1 9 "QuarterWords$Album" "pictures" "[J" ∈ wsL_law := inT1 (List.mem_of_getElem? (i := 25) rfl) rfl
theorem mw_43 : Cond.instanceMethod yX4_init ∈ wsL_law := inT1 (List.mem_of_getElem? (i := 34) rfl) rfl
theorem mw_44 : Cond.code yX4_init cX4_init 1 none ∈ wsL_law := inT1 (List.mem_of_getElem? (i := 35) rfl) rfl
theorem mw_45 : Cond.methodLink RX4 3 objectInit ∈ wsL_law := inT1 (List.mem_of_getElem? (i := 36) rfl) rfl
theorem mw_46 : Cond.fieldLink RX4 9 "QuarterWords$Text" "letters" "[I" ∈ wsL_law := inT1 (List.mem_of_getElem? (i := 51) rfl) rfl
theorem mw_47 : Cond.classLink RX4 15 RX5 ∈ wsL_law := inT1 (List.mem_of_getElem? (i := 37) rfl) rfl
theorem mw_48 : Cond.fieldLink RX4 18 "QuarterWords$Text" "walk" "LQuarterWords$Walk;" ∈ wsL_law := inT1 (List.mem_of_getElem? (i := 52) rfl) rfl
theorem mw_49 : Cond.fieldLink RX4 22 "QuarterWords$Text" "size" "I" ∈ wsL_law := inT1 (List.mem_of_getElem? (i := 53) rfl) rfl
theorem mw_50 : Cond.fieldLink RX4 26 "QuarterWords$Text" "drawn" "J" ∈ wsL_law := inT1 (List.mem_of_getElem? (i := 54) rfl) rfl
theorem mw_51 : Cond.instanceMethod yX5_init ∈ wsL_law := inT1 (List.mem_of_getElem? (i := 40) rfl) rfl
theorem mw_52 : Cond.code yX5_init cX5_init 1 none ∈ wsL_law := inT1 (List.mem_of_getElem? (i := 41) rfl) rfl
theorem mw_53 : Cond.methodLink RX5 3 objectInit ∈ wsL_law := inT1 (List.mem_of_getElem? (i := 42) rfl) rfl
theorem mw_54 : Cond.fieldLink RX5 9 "QuarterWords$Walk" "place" "I" ∈ wsL_law := inT1 (List.mem_of_getElem? (i := 43) rfl) rfl
theorem mw_55 : Cond.fieldLink RX5 15 "QuarterWords$Walk" "depth" "I" ∈ wsL_law := inT1 (List.mem_of_getElem? (i := 44) rfl) rfl
theorem mw_56 : Cond.instanceMethod yX0_init ∈ wsL_law := inT1 (List.mem_of_getElem? (i := 67) rfl) rfl
theorem mw_57 : Cond.code yX0_init cX0_init 1 none ∈ wsL_law := inT1 (List.mem_of_getElem? (i := 68) rfl) rfl
theorem mw_58 : Cond.methodLink RX0 3 objectInit ∈ wsL_law := inT1 (List.mem_of_getElem? (i := 69) rfl) rfl
theorem mw_59 : Cond.fieldLink RX0 9 "QuarterWords$Acts" "changed" "[I" ∈ wsL_law := inT1 (List.mem_of_getElem? (i := 70) rfl) rfl
theorem mw_60 : Cond.fieldLink RX0 15 "QuarterWords$Acts" "before" "[J" ∈ wsL_law := inT1 (List.mem_of_getElem? (i := 71) rfl) rfl
theorem mw_61 : Cond.fieldLink RX0 19 "QuarterWords$Acts" "size" "I" ∈ wsL_law := inT1 (List.mem_of_getElem? (i := 72) rfl) rfl
theorem mw_62 : Cond.instanceMethod yX3_init ∈ wsL_law := inT1 (List.mem_of_getElem? (i := 83) rfl) rfl
theorem mw_63 : Cond.code yX3_init cX3_init 1 none ∈ wsL_law := inT1 (List.mem_of_getElem? (i := 84) rfl) rfl
theorem mw_64 : Cond.methodLink RX3 3 objectInit ∈ wsL_law := inT1 (List.mem_of_getElem? (i := 85) rfl) rfl
theorem mw_65 : Cond.fieldLink RX3 9 "QuarterWords$Sight" "cells" "[I" ∈ wsL_law := inT1 (List.mem_of_getElem? (i := 86) rfl) rfl
theorem mw_66 : Cond.arrayClass .boolean ∈ wsL_law := inT1 (List.mem_of_getElem? (i := 96) rfl) rfl
theorem mw_67 : Cond.fieldLink RX3 15 "QuarterWords$Sight" "blacks" "[Z" ∈ wsL_law := inT1 (List.mem_of_getElem? (i := 87) rfl) rfl
theorem mw_68 : Cond.fieldLink RX3 19 "QuarterWords$Sight" "size" "I" ∈ wsL_law := inT1 (List.mem_of_getElem? (i := 88) rfl) rfl
theorem mw_69 : Cond.methodLink RL 12 yX7_init ∈ wsL_law := inT3 (List.mem_of_getElem? (i := 104) rfl) rfl
theorem mw_70 : Cond.instanceMethod yX7_init ∈ wsL_law := inT3 (List.mem_of_getElem? (i := 105) rfl) rfl
theorem mw_71 : Cond.code yX7_init cX7_init 1 none ∈ wsL_law := inT3 (List.mem_of_getElem? (i := 106) rfl) rfl
theorem mw_72 : Cond.methodLink RX7 1 objectInit ∈ wsL_law := inT3 (List.mem_of_getElem? (i := 107) rfl) rfl
theorem mw_73 : Cond.fieldLink RX7 7 "QuarterWordsModel" "text" "[I" ∈ wsL_law := inT3 (List.mem_of_getElem? (i := 108) rfl) rfl
theorem mw_74 : Cond.fieldLink RX7 13 "QuarterWordsModel" "now" "[J" ∈ wsL_law := inT3 (List.mem_of_getElem? (i := 113) rfl) rfl
theorem mw_75 : Cond.fieldLink RX7 17 "QuarterWordsModel" "row" "[J" ∈ wsL_law := inT3 (List.mem_of_getElem? (i := 116) rfl) rfl
theorem mw_76 : Cond.fieldLink RX7 20 "QuarterWordsModel" "letters" "[I" ∈ wsL_law := inT3 (List.mem_of_getElem? (i := 117) rfl) rfl
theorem mw_77 : Cond.fieldLink RX7 23 "QuarterWordsModel" "depthAt" "[I" ∈ wsL_law := inT3 (List.mem_of_getElem? (i := 118) rfl) rfl
theorem mw_78 : Cond.fieldLink RX7 26 "QuarterWordsModel" "letterAt" "[I" ∈ wsL_law := inT3 (List.mem_of_getElem? (i := 119) rfl) rfl
theorem mw_79 : Cond.fieldLink RX7 29 "QuarterWordsModel" "seenCell" "[I" ∈ wsL_law := inT3 (List.mem_of_getElem? (i := 122) rfl) rfl
theorem mw_80 : Cond.fieldLink RX7 32 "QuarterWordsModel" "seenBlack" "[I" ∈ wsL_law := inT3 (List.mem_of_getElem? (i := 123) rfl) rfl
theorem mw_81 : Cond.fieldLink RX7 35 "QuarterWordsModel" "isKept" "[Z" ∈ wsL_law := inT3 (List.mem_of_getElem? (i := 125) rfl) rfl
theorem mw_82 : Cond.fieldLink RX7 39 "QuarterWordsModel" "kept" "[J" ∈ wsL_law := inT3 (List.mem_of_getElem? (i := 126) rfl) rfl
theorem mw_83 : Cond.methodLink RL 13 yX6_write ∈ wsL_law := inT1 (List.mem_of_getElem? (i := 127) rfl) rfl
theorem mw_84 : Cond.instanceMethod yX6_write ∈ wsL_law := inT1 (List.mem_of_getElem? (i := 128) rfl) rfl
theorem mw_85 : Cond.selects RX6 yX6_write yX6_write ∈ wsL_law := inT1 (List.mem_of_getElem? (i := 129) rfl) rfl
theorem mw_86 : Cond.code yX6_write cX6_write 2 (some .int) ∈ wsL_law := inT1 (List.mem_of_getElem? (i := 130) rfl) rfl
theorem mw_87 : Cond.methodLink RX6 59 yX4_add ∈ wsL_law := inT1 (List.mem_of_getElem? (i := 131) rfl) rfl
theorem mw_88 : Cond.instanceMethod yX4_add ∈ wsL_law := inT1 (List.mem_of_getElem? (i := 132) rfl) rfl
theorem mw_89 : Cond.selects RX4 yX4_add yX4_add ∈ wsL_law := inT1 (List.mem_of_getElem? (i := 133) rfl) rfl
theorem mw_90 : Cond.code yX4_add cX4_add 2 (some .boolean) ∈ wsL_law := inT1 (List.mem_of_getElem? (i := 134) rfl) rfl
theorem mw_91 : Cond.methodLink RX6 63 yX4_size ∈ wsL_law := inT1 (List.mem_of_getElem? (i := 135) rfl) rfl
theorem mw_92 : Cond.instanceMethod yX4_size ∈ wsL_law := inT1 (List.mem_of_getElem? (i := 136) rfl) rfl
theorem mw_93 : Cond.selects RX4 yX4_size yX4_size ∈ wsL_law := inT1 (List.mem_of_getElem? (i := 137) rfl) rfl
theorem mw_94 : Cond.code yX4_size cX4_size 1 (some .int) ∈ wsL_law := inT1 (List.mem_of_getElem? (i := 138) rfl) rfl
theorem mw_95 : Cond.methodLink RL 17 yX7_write ∈ wsL_law := inT3 (List.mem_of_getElem? (i := 166) rfl) rfl
theorem mw_96 : Cond.instanceMethod yX7_write ∈ wsL_law := inT3 (List.mem_of_getElem? (i := 167) rfl) rfl
theorem mw_97 : Cond.selects RX7 yX7_write yX7_write ∈ wsL_law := inT3 (List.mem_of_getElem? (i := 168) rfl) rfl
theorem mw_98 : Cond.code yX7_write cX7_write 2 (some .int) ∈ wsL_law := inT3 (List.mem_of_getElem? (i := 169) rfl) rfl
theorem mw_99 : Cond.constantLong RX7 67 (255) ∈ wsL_law := inT3 (List.mem_of_getElem? (i := 170) rfl) rfl
theorem mw_100 : Cond.fieldLink RX7 69 "QuarterWordsModel" "length" "I" ∈ wsL_law := inT3 (List.mem_of_getElem? (i := 109) rfl) rfl
theorem mw_101 : Cond.methodLink RX7 44 yX7_in ∈ wsL_law := inT3 (List.mem_of_getElem? (i := 171) rfl) rfl
theorem mw_102 : Cond.static yX7_in ∈ wsL_law := inT3 (List.mem_of_getElem? (i := 172) rfl) rfl
theorem mw_103 : Cond.code yX7_in cX7_in 6 (some .boolean) ∈ wsL_law := inT3 (List.mem_of_getElem? (i := 173) rfl) rfl
theorem mw_104 : Cond.methodLink RL 18 yX6_wipe ∈ wsL_law := inT1 (List.mem_of_getElem? (i := 139) rfl) rfl
theorem mw_105 : Cond.instanceMethod yX6_wipe ∈ wsL_law := inT1 (List.mem_of_getElem? (i := 140) rfl) rfl
theorem mw_106 : Cond.selects RX6 yX6_wipe yX6_wipe ∈ wsL_law := inT1 (List.mem_of_getElem? (i := 141) rfl) rfl
theorem mw_107 : Cond.code yX6_wipe cX6_wipe 2 (some .int) ∈ wsL_law := inT1 (List.mem_of_getElem? (i := 142) rfl) rfl
theorem mw_108 : Cond.methodLink RX6 67 yX4_clear ∈ wsL_law := inT1 (List.mem_of_getElem? (i := 143) rfl) rfl
theorem mw_109 : Cond.instanceMethod yX4_clear ∈ wsL_law := inT1 (List.mem_of_getElem? (i := 144) rfl) rfl
theorem mw_110 : Cond.selects RX4 yX4_clear yX4_clear ∈ wsL_law := inT1 (List.mem_of_getElem? (i := 145) rfl) rfl
theorem mw_111 : Cond.code yX4_clear cX4_clear 1 none ∈ wsL_law := inT1 (List.mem_of_getElem? (i := 146) rfl) rfl
theorem mw_112 : Cond.methodLink RL 22 yX7_wipe ∈ wsL_law := inT3 (List.mem_of_getElem? (i := 174) rfl) rfl
theorem mw_113 : Cond.instanceMethod yX7_wipe ∈ wsL_law := inT3 (List.mem_of_getElem? (i := 175) rfl) rfl
theorem mw_114 : Cond.selects RX7 yX7_wipe yX7_wipe ∈ wsL_law := inT3 (List.mem_of_getElem? (i := 176) rfl) rfl
theorem mw_115 : Cond.code yX7_wipe cX7_wipe 2 (some .int) ∈ wsL_law := inT3 (List.mem_of_getElem? (i := 177) rfl) rfl
theorem mw_116 : Cond.methodLink RL 23 yX6_fault ∈ wsL_law := inT1 (List.mem_of_getElem? (i := 147) rfl) rfl
theorem mw_117 : Cond.instanceMethod yX6_fault ∈ wsL_law := inT1 (List.mem_of_getElem? (i := 148) rfl) rfl
theorem mw_118 : Cond.selects RX6 yX6_fault yX6_fault ∈ wsL_law := inT1 (List.mem_of_getElem? (i := 149) rfl) rfl
theorem mw_119 : Cond.code yX6_fault cX6_fault 1 (some .int) ∈ wsL_law := inT1 (List.mem_of_getElem? (i := 150) rfl) rfl
theorem mw_120 : Cond.methodLink RX6 70 yX4_firstFault ∈ wsL_law := inT1 (List.mem_of_getElem? (i := 151) rfl) rfl
theorem mw_121 : Cond.instanceMethod yX4_firstFault ∈ wsL_law := inT1 (List.mem_of_getElem? (i := 152) rfl) rfl
theorem mw_122 : Cond.selects RX4 yX4_firstFault yX4_firstFault ∈ wsL_law := inT1 (List.mem_of_getElem? (i := 153) rfl) rfl
theorem mw_123 : Cond.code yX4_firstFault cX4_firstFault 2 (some .int) ∈ wsL_law := inT1 (List.mem_of_getElem? (i := 154) rfl) rfl
theorem mw_124 : Cond.methodLink RX4 30 yX5_start ∈ wsL_law := inT1 (List.mem_of_getElem? (i := 155) rfl) rfl
theorem mw_125 : Cond.instanceMethod yX5_start ∈ wsL_law := inT1 (List.mem_of_getElem? (i := 156) rfl) rfl
theorem mw_126 : Cond.selects RX5 yX5_start yX5_start ∈ wsL_law := inT1 (List.mem_of_getElem? (i := 157) rfl) rfl
theorem mw_127 : Cond.code yX5_start cX5_start 1 none ∈ wsL_law := inT1 (List.mem_of_getElem? (i := 158) rfl) rfl
theorem mw_128 : Cond.methodLink RX4 33 yX4_reads ∈ wsL_law := inT1 (List.mem_of_getElem? (i := 159) rfl) rfl
theorem mw_129 : Cond.instanceMethod yX4_reads ∈ wsL_law := inT1 (List.mem_of_getElem? (i := 161) rfl) rfl
theorem mw_130 : Cond.selects RX4 yX4_reads yX4_reads ∈ wsL_law := inP1 (List.mem_of_getElem? (i := 0) rfl) rfl
theorem mw_131 : Cond.code yX4_reads cX4_reads 2 (some .boolean) ∈ wsL_law := inT1 (List.mem_of_getElem? (i := 162) rfl) rfl
theorem mw_132 : Cond.methodLink RX4 37 yX5_hasEnded ∈ wsL_law := inT1 (List.mem_of_getElem? (i := 163) rfl) rfl
theorem mw_133 : Cond.instanceMethod yX5_hasEnded ∈ wsL_law := inT1 (List.mem_of_getElem? (i := 164) rfl) rfl
theorem mw_134 : Cond.selects RX5 yX5_hasEnded yX5_hasEnded ∈ wsL_law := inT1 (List.mem_of_getElem? (i := 165) rfl) rfl
theorem mw_135 : Cond.code yX5_hasEnded cX5_hasEnded 1 (some .boolean) ∈ wsL_law := inT1 (List.mem_of_getElem? (i := 166) rfl) rfl
theorem mw_136 : Cond.methodLink RX4 41 yX5_cut ∈ wsL_law := inT1 (List.mem_of_getElem? (i := 167) rfl) rfl
theorem mw_137 : Cond.instanceMethod yX5_cut ∈ wsL_law := inT1 (List.mem_of_getElem? (i := 168) rfl) rfl
theorem mw_138 : Cond.selects RX5 yX5_cut yX5_cut ∈ wsL_law := inT1 (List.mem_of_getElem? (i := 169) rfl) rfl
theorem mw_139 : Cond.code yX5_cut cX5_cut 1 (some .boolean) ∈ wsL_law := inT1 (List.mem_of_getElem? (i := 170) rfl) rfl
theorem mw_140 : Cond.methodLink RX4 44 yX2_isLeaf ∈ wsL_law := inT1 (List.mem_of_getElem? (i := 171) rfl) rfl
theorem mw_141 : Cond.static yX2_isLeaf ∈ wsL_law := inT1 (List.mem_of_getElem? (i := 172) rfl) rfl
theorem mw_142 : Cond.initialized RX2 ∈ wsL_law := inT1 (List.mem_of_getElem? (i := 8) rfl) rfl
theorem mw_143 : Cond.code yX2_isLeaf cX2_isLeaf 1 (some .boolean) ∈ wsL_law := inT1 (List.mem_of_getElem? (i := 173) rfl) rfl
theorem mw_144 : Cond.methodLink RX4 49 yX5_square ∈ wsL_law := inT1 (List.mem_of_getElem? (i := 174) rfl) rfl
theorem mw_145 : Cond.instanceMethod yX5_square ∈ wsL_law := inT1 (List.mem_of_getElem? (i := 175) rfl) rfl
theorem mw_146 : Cond.selects RX5 yX5_square yX5_square ∈ wsL_law := inT1 (List.mem_of_getElem? (i := 176) rfl) rfl
theorem mw_147 : Cond.code yX5_square cX5_square 1 (some .long) ∈ wsL_law := inT1 (List.mem_of_getElem? (i := 177) rfl) rfl
theorem mw_148 : Cond.methodLink RX5 18 yX5_cell ∈ wsL_law := inT1 (List.mem_of_getElem? (i := 178) rfl) rfl
theorem mw_149 : Cond.instanceMethod yX5_cell ∈ wsL_law := inT1 (List.mem_of_getElem? (i := 180) rfl) rfl
theorem mw_150 : Cond.selects RX5 yX5_cell yX5_cell ∈ wsL_law := inP1 (List.mem_of_getElem? (i := 1) rfl) rfl
theorem mw_151 : Cond.code yX5_cell cX5_cell 3 (some .int) ∈ wsL_law := inT1 (List.mem_of_getElem? (i := 181) rfl) rfl
theorem mw_152 : Cond.methodLink RX5 22 yX2_squareOf ∈ wsL_law := inT1 (List.mem_of_getElem? (i := 182) rfl) rfl
theorem mw_153 : Cond.static yX2_squareOf ∈ wsL_law := inT1 (List.mem_of_getElem? (i := 183) rfl) rfl
theorem mw_154 : Cond.code yX2_squareOf cX2_squareOf 4 (some .long) ∈ wsL_law := inT1 (List.mem_of_getElem? (i := 184) rfl) rfl
theorem mw_155 : Cond.fieldLink RX2 19 "QuarterWords$Shapes" "CORNERS" "[J" ∈ wsL_law := inT1 (List.mem_of_getElem? (i := 185) rfl) rfl
theorem mw_156 : Cond.methodLink RX4 53 yX2_pattern ∈ wsL_law := inT1 (List.mem_of_getElem? (i := 187) rfl) rfl
theorem mw_157 : Cond.static yX2_pattern ∈ wsL_law := inT1 (List.mem_of_getElem? (i := 188) rfl) rfl
theorem mw_158 : Cond.code yX2_pattern cX2_pattern 1 (some .long) ∈ wsL_law := inT1 (List.mem_of_getElem? (i := 189) rfl) rfl
theorem mw_159 : Cond.constantLong RX2 13 (-1) ∈ wsL_law := inT1 (List.mem_of_getElem? (i := 190) rfl) rfl
theorem mw_160 : Cond.constantLong RX2 15 (-6172840429334713771) ∈ wsL_law := inT1 (List.mem_of_getElem? (i := 191) rfl) rfl
theorem mw_161 : Cond.constantLong RX2 17 (71777214294589695) ∈ wsL_law := inT1 (List.mem_of_getElem? (i := 192) rfl) rfl
theorem mw_162 : Cond.methodLink RX4 57 yX5_pass ∈ wsL_law := inT1 (List.mem_of_getElem? (i := 193) rfl) rfl
theorem mw_163 : Cond.instanceMethod yX5_pass ∈ wsL_law := inT1 (List.mem_of_getElem? (i := 194) rfl) rfl
theorem mw_164 : Cond.selects RX5 yX5_pass yX5_pass ∈ wsL_law := inT1 (List.mem_of_getElem? (i := 195) rfl) rfl
theorem mw_165 : Cond.code yX5_pass cX5_pass 1 none ∈ wsL_law := inT1 (List.mem_of_getElem? (i := 196) rfl) rfl
theorem mw_166 : Cond.methodLink RX5 28 yX5_sizeAt ∈ wsL_law := inT1 (List.mem_of_getElem? (i := 197) rfl) rfl
theorem mw_167 : Cond.static yX5_sizeAt ∈ wsL_law := inT1 (List.mem_of_getElem? (i := 198) rfl) rfl
theorem mw_168 : Cond.code yX5_sizeAt cX5_sizeAt 1 (some .int) ∈ wsL_law := inT1 (List.mem_of_getElem? (i := 199) rfl) rfl
theorem mw_169 : Cond.methodLink RL 26 yX7_fault ∈ wsL_law := inT3 (List.mem_of_getElem? (i := 178) rfl) rfl
theorem mw_170 : Cond.instanceMethod yX7_fault ∈ wsL_law := inT3 (List.mem_of_getElem? (i := 179) rfl) rfl
theorem mw_171 : Cond.selects RX7 yX7_fault yX7_fault ∈ wsL_law := inT3 (List.mem_of_getElem? (i := 180) rfl) rfl
theorem mw_172 : Cond.code yX7_fault cX7_fault 1 (some .int) ∈ wsL_law := inT3 (List.mem_of_getElem? (i := 181) rfl) rfl
theorem mw_173 : Cond.methodLink RX7 92 yX7_readText ∈ wsL_law := inT3 (List.mem_of_getElem? (i := 182) rfl) rfl
theorem mw_174 : Cond.instanceMethod yX7_readText ∈ wsL_law := inT3 (List.mem_of_getElem? (i := 184) rfl) rfl
theorem mw_175 : Cond.selects RX7 yX7_readText yX7_readText ∈ wsL_law := inP1 (List.mem_of_getElem? (i := 14) rfl) rfl
theorem mw_176 : Cond.code yX7_readText cX7_readText 3 (some .int) ∈ wsL_law := inT3 (List.mem_of_getElem? (i := 185) rfl) rfl
theorem mw_177 : Cond.fieldLink RX7 73 "QuarterWordsModel" "depth" "I" ∈ wsL_law := inT3 (List.mem_of_getElem? (i := 111) rfl) rfl
theorem mw_178 : Cond.fieldLink RX7 76 "QuarterWordsModel" "place" "I" ∈ wsL_law := inT3 (List.mem_of_getElem? (i := 112) rfl) rfl
theorem mw_179 : Cond.fieldLink RX7 79 "QuarterWordsModel" "read" "J" ∈ wsL_law := inT3 (List.mem_of_getElem? (i := 110) rfl) rfl
theorem mw_180 : Cond.constantLong RX7 83 (2) ∈ wsL_law := inT3 (List.mem_of_getElem? (i := 186) rfl) rfl
theorem mw_181 : Cond.methodLink RX7 85 yX7_isLeaf ∈ wsL_law := inT3 (List.mem_of_getElem? (i := 187) rfl) rfl
theorem mw_182 : Cond.static yX7_isLeaf ∈ wsL_law := inT3 (List.mem_of_getElem? (i := 188) rfl) rfl
theorem mw_183 : Cond.code yX7_isLeaf cX7_isLeaf 1 (some .boolean) ∈ wsL_law := inT3 (List.mem_of_getElem? (i := 189) rfl) rfl
theorem mw_184 : Cond.methodLink RX7 52 yX7_paintOf ∈ wsL_law := inT3 (List.mem_of_getElem? (i := 190) rfl) rfl
theorem mw_185 : Cond.static yX7_paintOf ∈ wsL_law := inT3 (List.mem_of_getElem? (i := 191) rfl) rfl
theorem mw_186 : Cond.code yX7_paintOf cX7_paintOf 9 (some .long) ∈ wsL_law := inT3 (List.mem_of_getElem? (i := 192) rfl) rfl
theorem mw_187 : Cond.methodLink RX7 56 yX7_leftOf ∈ wsL_law := inT3 (List.mem_of_getElem? (i := 193) rfl) rfl
theorem mw_188 : Cond.static yX7_leftOf ∈ wsL_law := inT3 (List.mem_of_getElem? (i := 194) rfl) rfl
theorem mw_189 : Cond.code yX7_leftOf cX7_leftOf 5 (some .int) ∈ wsL_law := inT3 (List.mem_of_getElem? (i := 195) rfl) rfl
theorem mw_190 : Cond.methodLink RX7 48 yX7_widthAt ∈ wsL_law := inT3 (List.mem_of_getElem? (i := 196) rfl) rfl
theorem mw_191 : Cond.static yX7_widthAt ∈ wsL_law := inT3 (List.mem_of_getElem? (i := 197) rfl) rfl
theorem mw_192 : Cond.code yX7_widthAt cX7_widthAt 1 (some .int) ∈ wsL_law := inT3 (List.mem_of_getElem? (i := 198) rfl) rfl
theorem mw_193 : Cond.methodLink RX7 60 yX7_lowOf ∈ wsL_law := inT3 (List.mem_of_getElem? (i := 199) rfl) rfl
theorem mw_194 : Cond.static yX7_lowOf ∈ wsL_law := inT3 (List.mem_of_getElem? (i := 200) rfl) rfl
theorem mw_195 : Cond.code yX7_lowOf cX7_lowOf 5 (some .int) ∈ wsL_law := inT3 (List.mem_of_getElem? (i := 201) rfl) rfl
theorem mw_196 : Cond.methodLink RX7 63 yX7_tells ∈ wsL_law := inT3 (List.mem_of_getElem? (i := 202) rfl) rfl
theorem mw_197 : Cond.static yX7_tells ∈ wsL_law := inT3 (List.mem_of_getElem? (i := 203) rfl) rfl
theorem mw_198 : Cond.code yX7_tells cX7_tells 3 (some .boolean) ∈ wsL_law := inT3 (List.mem_of_getElem? (i := 204) rfl) rfl
theorem mw_199 : Cond.methodLink RX7 89 yX7_goOn ∈ wsL_law := inT3 (List.mem_of_getElem? (i := 205) rfl) rfl
theorem mw_200 : Cond.instanceMethod yX7_goOn ∈ wsL_law := inT3 (List.mem_of_getElem? (i := 207) rfl) rfl
theorem mw_201 : Cond.selects RX7 yX7_goOn yX7_goOn ∈ wsL_law := inP1 (List.mem_of_getElem? (i := 15) rfl) rfl
theorem mw_202 : Cond.code yX7_goOn cX7_goOn 1 none ∈ wsL_law := inT3 (List.mem_of_getElem? (i := 208) rfl) rfl
theorem mw_203 : Cond.methodLink RL 27 yX6_put ∈ wsL_law := inT1 (List.mem_of_getElem? (i := 200) rfl) rfl
theorem mw_204 : Cond.instanceMethod yX6_put ∈ wsL_law := inT1 (List.mem_of_getElem? (i := 201) rfl) rfl
theorem mw_205 : Cond.selects RX6 yX6_put yX6_put ∈ wsL_law := inT1 (List.mem_of_getElem? (i := 202) rfl) rfl
theorem mw_206 : Cond.code yX6_put cX6_put 2 (some .int) ∈ wsL_law := inT1 (List.mem_of_getElem? (i := 203) rfl) rfl
theorem mw_207 : Cond.methodLink RX6 73 yX6_isPicture ∈ wsL_law := inT1 (List.mem_of_getElem? (i := 204) rfl) rfl
theorem mw_208 : Cond.static yX6_isPicture ∈ wsL_law := inT1 (List.mem_of_getElem? (i := 205) rfl) rfl
theorem mw_209 : Cond.code yX6_isPicture cX6_isPicture 1 (some .boolean) ∈ wsL_law := inT1 (List.mem_of_getElem? (i := 206) rfl) rfl
theorem mw_210 : Cond.methodLink RX6 76 yX4_drawn ∈ wsL_law := inT1 (List.mem_of_getElem? (i := 207) rfl) rfl
theorem mw_211 : Cond.instanceMethod yX4_drawn ∈ wsL_law := inT1 (List.mem_of_getElem? (i := 208) rfl) rfl
theorem mw_212 : Cond.selects RX4 yX4_drawn yX4_drawn ∈ wsL_law := inT1 (List.mem_of_getElem? (i := 209) rfl) rfl
theorem mw_213 : Cond.code yX4_drawn cX4_drawn 1 (some .long) ∈ wsL_law := inT1 (List.mem_of_getElem? (i := 210) rfl) rfl
theorem mw_214 : Cond.methodLink RX6 80 yX6_change ∈ wsL_law := inT1 (List.mem_of_getElem? (i := 211) rfl) rfl
theorem mw_215 : Cond.instanceMethod yX6_change ∈ wsL_law := inT1 (List.mem_of_getElem? (i := 213) rfl) rfl
theorem mw_216 : Cond.selects RX6 yX6_change yX6_change ∈ wsL_law := inP1 (List.mem_of_getElem? (i := 2) rfl) rfl
theorem mw_217 : Cond.code yX6_change cX6_change 4 (some .long) ∈ wsL_law := inT1 (List.mem_of_getElem? (i := 214) rfl) rfl
theorem mw_218 : Cond.methodLink RX6 94 yX1_cells ∈ wsL_law := inT1 (List.mem_of_getElem? (i := 215) rfl) rfl
theorem mw_219 : Cond.instanceMethod yX1_cells ∈ wsL_law := inT1 (List.mem_of_getElem? (i := 216) rfl) rfl
theorem mw_220 : Cond.selects RX1 yX1_cells yX1_cells ∈ wsL_law := inT1 (List.mem_of_getElem? (i := 217) rfl) rfl
theorem mw_221 : Cond.code yX1_cells cX1_cells 2 (some .long) ∈ wsL_law := inT1 (List.mem_of_getElem? (i := 218) rfl) rfl
theorem mw_222 : Cond.methodLink RX6 237 yX0_add ∈ wsL_law := inT1 (List.mem_of_getElem? (i := 220) rfl) rfl
theorem mw_223 : Cond.instanceMethod yX0_add ∈ wsL_law := inT1 (List.mem_of_getElem? (i := 221) rfl) rfl
theorem mw_224 : Cond.selects RX0 yX0_add yX0_add ∈ wsL_law := inT1 (List.mem_of_getElem? (i := 222) rfl) rfl
theorem mw_225 : Cond.code yX0_add cX0_add 4 none ∈ wsL_law := inT1 (List.mem_of_getElem? (i := 223) rfl) rfl
theorem mw_226 : Cond.methodLink RX0 23 yX0_forgetFirst ∈ wsL_law := inT1 (List.mem_of_getElem? (i := 224) rfl) rfl
theorem mw_227 : Cond.instanceMethod yX0_forgetFirst ∈ wsL_law := inT1 (List.mem_of_getElem? (i := 226) rfl) rfl
theorem mw_228 : Cond.selects RX0 yX0_forgetFirst yX0_forgetFirst ∈ wsL_law := inP1 (List.mem_of_getElem? (i := 3) rfl) rfl
theorem mw_229 : Cond.code yX0_forgetFirst cX0_forgetFirst 2 none ∈ wsL_law := inT1 (List.mem_of_getElem? (i := 227) rfl) rfl
theorem mw_230 : Cond.methodLink RX6 127 yX1_set ∈ wsL_law := inT1 (List.mem_of_getElem? (i := 228) rfl) rfl
theorem mw_231 : Cond.instanceMethod yX1_set ∈ wsL_law := inT1 (List.mem_of_getElem? (i := 229) rfl) rfl
theorem mw_232 : Cond.selects RX1 yX1_set yX1_set ∈ wsL_law := inT1 (List.mem_of_getElem? (i := 230) rfl) rfl
theorem mw_233 : Cond.code yX1_set cX1_set 4 none ∈ wsL_law := inT1 (List.mem_of_getElem? (i := 231) rfl) rfl
theorem mw_234 : Cond.methodLink RX6 84 yJ13_bitCount_95d88 ∈ wsL_law := inT1 (List.mem_of_getElem? (i := 232) rfl) rfl
theorem mw_235 : Cond.static yJ13_bitCount_95d88 ∈ wsL_law := inT1 (List.mem_of_getElem? (i := 233) rfl) rfl
theorem mw_236 : Cond.initialized RJ13 ∈ wsL_law := inT1 (List.mem_of_getElem? (i := 9) rfl) rfl
theorem mw_237 : Cond.code yJ13_bitCount_95d88 cJ13_bitCount_95d88 2 (some .int) ∈ wsL_law := inT1 (List.mem_of_getElem? (i := 234) rfl) rfl
theorem mw_238 : Cond.constantLong RJ13 314 (6148914691236517205) ∈ wsL_law := inT1 (List.mem_of_getElem? (i := 235) rfl) rfl
theorem mw_239 : Cond.constantLong RJ13 316 (3689348814741910323) ∈ wsL_law := inT1 (List.mem_of_getElem? (i := 236) rfl) rfl
theorem mw_240 : Cond.constantLong RJ13 318 (1085102592571150095) ∈ wsL_law := inT1 (List.mem_of_getElem? (i := 237) rfl) rfl
theorem mw_241 : Cond.methodLink RL 30 yX7_put ∈ wsL_law := inT3 (List.mem_of_getElem? (i := 209) rfl) rfl
theorem mw_242 : Cond.instanceMethod yX7_put ∈ wsL_law := inT3 (List.mem_of_getElem? (i := 210) rfl) rfl
theorem mw_243 : Cond.selects RX7 yX7_put yX7_put ∈ wsL_law := inT3 (List.mem_of_getElem? (i := 211) rfl) rfl
theorem mw_244 : Cond.code yX7_put cX7_put 2 (some .int) ∈ wsL_law := inT3 (List.mem_of_getElem? (i := 212) rfl) rfl
theorem mw_245 : Cond.methodLink RX7 106 yX7_isPicture ∈ wsL_law := inT3 (List.mem_of_getElem? (i := 213) rfl) rfl
theorem mw_246 : Cond.static yX7_isPicture ∈ wsL_law := inT3 (List.mem_of_getElem? (i := 214) rfl) rfl
theorem mw_247 : Cond.code yX7_isPicture cX7_isPicture 1 (some .boolean) ∈ wsL_law := inT3 (List.mem_of_getElem? (i := 215) rfl) rfl
theorem mw_248 : Cond.methodLink RX7 109 yX7_keepAct ∈ wsL_law := inT3 (List.mem_of_getElem? (i := 216) rfl) rfl
theorem mw_249 : Cond.instanceMethod yX7_keepAct ∈ wsL_law := inT3 (List.mem_of_getElem? (i := 218) rfl) rfl
theorem mw_250 : Cond.selects RX7 yX7_keepAct yX7_keepAct ∈ wsL_law := inP2 (List.mem_of_getElem? (i := 0) rfl) rfl
theorem mw_251 : Cond.code yX7_keepAct cX7_keepAct 2 none ∈ wsL_law := inT3 (List.mem_of_getElem? (i := 219) rfl) rfl
theorem mw_252 : Cond.fieldLink RX7 100 "QuarterWordsModel" "next" "I" ∈ wsL_law := inT3 (List.mem_of_getElem? (i := 115) rfl) rfl
theorem mw_253 : Cond.fieldLink RX7 103 "QuarterWordsModel" "acts" "I" ∈ wsL_law := inT3 (List.mem_of_getElem? (i := 114) rfl) rfl
theorem mw_254 : Cond.methodLink RX7 112 yX7_ones ∈ wsL_law := inT3 (List.mem_of_getElem? (i := 220) rfl) rfl
theorem mw_255 : Cond.static yX7_ones ∈ wsL_law := inT3 (List.mem_of_getElem? (i := 221) rfl) rfl
theorem mw_256 : Cond.code yX7_ones cX7_ones 4 (some .int) ∈ wsL_law := inT3 (List.mem_of_getElem? (i := 222) rfl) rfl
theorem mw_257 : Cond.methodLink RL 31 yX6_join ∈ wsL_law := inT1 (List.mem_of_getElem? (i := 238) rfl) rfl
theorem mw_258 : Cond.instanceMethod yX6_join ∈ wsL_law := inT1 (List.mem_of_getElem? (i := 239) rfl) rfl
theorem mw_259 : Cond.selects RX6 yX6_join yX6_join ∈ wsL_law := inT2 (List.mem_of_getElem? (i := 0) rfl) rfl
theorem mw_260 : Cond.code yX6_join cX6_join 3 (some .int) ∈ wsL_law := inT2 (List.mem_of_getElem? (i := 1) rfl) rfl
theorem mw_261 : Cond.methodLink RX6 90 yX6_combine ∈ wsL_law := inT2 (List.mem_of_getElem? (i := 2) rfl) rfl
theorem mw_262 : Cond.instanceMethod yX6_combine ∈ wsL_law := inT2 (List.mem_of_getElem? (i := 4) rfl) rfl
theorem mw_263 : Cond.selects RX6 yX6_combine yX6_combine ∈ wsL_law := inP1 (List.mem_of_getElem? (i := 4) rfl) rfl
theorem mw_264 : Cond.code yX6_combine cX6_combine 4 (some .int) ∈ wsL_law := inT2 (List.mem_of_getElem? (i := 5) rfl) rfl
theorem mw_265 : Cond.methodLink RX6 239 yX2_combined ∈ wsL_law := inT2 (List.mem_of_getElem? (i := 6) rfl) rfl
theorem mw_266 : Cond.static yX2_combined ∈ wsL_law := inT2 (List.mem_of_getElem? (i := 7) rfl) rfl
theorem mw_267 : Cond.code yX2_combined cX2_combined 5 (some .long) ∈ wsL_law := inT2 (List.mem_of_getElem? (i := 8) rfl) rfl
theorem mw_268 : Cond.methodLink RL 35 yX7_join ∈ wsL_law := inT3 (List.mem_of_getElem? (i := 223) rfl) rfl
theorem mw_269 : Cond.instanceMethod yX7_join ∈ wsL_law := inT3 (List.mem_of_getElem? (i := 224) rfl) rfl
theorem mw_270 : Cond.selects RX7 yX7_join yX7_join ∈ wsL_law := inT3 (List.mem_of_getElem? (i := 225) rfl) rfl
theorem mw_271 : Cond.code yX7_join cX7_join 3 (some .int) ∈ wsL_law := inT3 (List.mem_of_getElem? (i := 226) rfl) rfl
theorem mw_272 : Cond.methodLink RX7 122 yX7_mix ∈ wsL_law := inT3 (List.mem_of_getElem? (i := 227) rfl) rfl
theorem mw_273 : Cond.instanceMethod yX7_mix ∈ wsL_law := inT3 (List.mem_of_getElem? (i := 229) rfl) rfl
theorem mw_274 : Cond.selects RX7 yX7_mix yX7_mix ∈ wsL_law := inP2 (List.mem_of_getElem? (i := 1) rfl) rfl
theorem mw_275 : Cond.code yX7_mix cX7_mix 4 (some .int) ∈ wsL_law := inT3 (List.mem_of_getElem? (i := 230) rfl) rfl
theorem mw_276 : Cond.methodLink RX7 118 yX7_mixOn ∈ wsL_law := inT3 (List.mem_of_getElem? (i := 231) rfl) rfl
theorem mw_277 : Cond.instanceMethod yX7_mixOn ∈ wsL_law := inT3 (List.mem_of_getElem? (i := 233) rfl) rfl
theorem mw_278 : Cond.selects RX7 yX7_mixOn yX7_mixOn ∈ wsL_law := inP2 (List.mem_of_getElem? (i := 2) rfl) rfl
theorem mw_279 : Cond.code yX7_mixOn cX7_mixOn 9 none ∈ wsL_law := inT3 (List.mem_of_getElem? (i := 234) rfl) rfl
theorem mw_280 : Cond.constantLong RX7 116 (-1) ∈ wsL_law := inT3 (List.mem_of_getElem? (i := 235) rfl) rfl
theorem mw_281 : Cond.methodLink RL 36 yX6_meet ∈ wsL_law := inT2 (List.mem_of_getElem? (i := 9) rfl) rfl
theorem mw_282 : Cond.instanceMethod yX6_meet ∈ wsL_law := inT2 (List.mem_of_getElem? (i := 10) rfl) rfl
theorem mw_283 : Cond.selects RX6 yX6_meet yX6_meet ∈ wsL_law := inT2 (List.mem_of_getElem? (i := 11) rfl) rfl
theorem mw_284 : Cond.code yX6_meet cX6_meet 3 (some .int) ∈ wsL_law := inT2 (List.mem_of_getElem? (i := 12) rfl) rfl
theorem mw_285 : Cond.methodLink RL 39 yX7_meet ∈ wsL_law := inT3 (List.mem_of_getElem? (i := 236) rfl) rfl
theorem mw_286 : Cond.instanceMethod yX7_meet ∈ wsL_law := inT3 (List.mem_of_getElem? (i := 237) rfl) rfl
theorem mw_287 : Cond.selects RX7 yX7_meet yX7_meet ∈ wsL_law := inT3 (List.mem_of_getElem? (i := 238) rfl) rfl
theorem mw_288 : Cond.code yX7_meet cX7_meet 3 (some .int) ∈ wsL_law := inT3 (List.mem_of_getElem? (i := 239) rfl) rfl
theorem mw_289 : Cond.methodLink RL 40 yX6_less ∈ wsL_law := inT2 (List.mem_of_getElem? (i := 13) rfl) rfl
theorem mw_290 : Cond.instanceMethod yX6_less ∈ wsL_law := inT2 (List.mem_of_getElem? (i := 14) rfl) rfl
theorem mw_291 : Cond.selects RX6 yX6_less yX6_less ∈ wsL_law := inT2 (List.mem_of_getElem? (i := 15) rfl) rfl
theorem mw_292 : Cond.code yX6_less cX6_less 3 (some .int) ∈ wsL_law := inT2 (List.mem_of_getElem? (i := 16) rfl) rfl
theorem mw_293 : Cond.methodLink RL 43 yX7_less ∈ wsL_law := inT4 (List.mem_of_getElem? (i := 0) rfl) rfl
theorem mw_294 : Cond.instanceMethod yX7_less ∈ wsL_law := inT4 (List.mem_of_getElem? (i := 1) rfl) rfl
theorem mw_295 : Cond.selects RX7 yX7_less yX7_less ∈ wsL_law := inT4 (List.mem_of_getElem? (i := 2) rfl) rfl
theorem mw_296 : Cond.code yX7_less cX7_less 3 (some .int) ∈ wsL_law := inT4 (List.mem_of_getElem? (i := 3) rfl) rfl
theorem mw_297 : Cond.methodLink RL 44 yX6_turn ∈ wsL_law := inT2 (List.mem_of_getElem? (i := 17) rfl) rfl
theorem mw_298 : Cond.instanceMethod yX6_turn ∈ wsL_law := inT2 (List.mem_of_getElem? (i := 18) rfl) rfl
theorem mw_299 : Cond.selects RX6 yX6_turn yX6_turn ∈ wsL_law := inT2 (List.mem_of_getElem? (i := 19) rfl) rfl
theorem mw_300 : Cond.code yX6_turn cX6_turn 2 (some .int) ∈ wsL_law := inT2 (List.mem_of_getElem? (i := 20) rfl) rfl
theorem mw_301 : Cond.methodLink RX6 98 yX2_turned ∈ wsL_law := inT2 (List.mem_of_getElem? (i := 21) rfl) rfl
theorem mw_302 : Cond.static yX2_turned ∈ wsL_law := inT2 (List.mem_of_getElem? (i := 22) rfl) rfl
theorem mw_303 : Cond.code yX2_turned cX2_turned 5 (some .long) ∈ wsL_law := inT2 (List.mem_of_getElem? (i := 23) rfl) rfl
theorem mw_304 : Cond.methodLink RX2 35 yX2_isBlack ∈ wsL_law := inT2 (List.mem_of_getElem? (i := 24) rfl) rfl
theorem mw_305 : Cond.static yX2_isBlack ∈ wsL_law := inT2 (List.mem_of_getElem? (i := 25) rfl) rfl
theorem mw_306 : Cond.code yX2_isBlack cX2_isBlack 3 (some .boolean) ∈ wsL_law := inT2 (List.mem_of_getElem? (i := 26) rfl) rfl
theorem mw_307 : Cond.methodLink RX2 39 yX2_bit ∈ wsL_law := inT2 (List.mem_of_getElem? (i := 27) rfl) rfl
theorem mw_308 : Cond.static yX2_bit ∈ wsL_law := inT2 (List.mem_of_getElem? (i := 28) rfl) rfl
theorem mw_309 : Cond.code yX2_bit cX2_bit 2 (some .long) ∈ wsL_law := inT2 (List.mem_of_getElem? (i := 29) rfl) rfl
theorem mw_310 : Cond.methodLink RX6 104 yX2_lowestRow ∈ wsL_law := inT2 (List.mem_of_getElem? (i := 30) rfl) rfl
theorem mw_311 : Cond.static yX2_lowestRow ∈ wsL_law := inT2 (List.mem_of_getElem? (i := 31) rfl) rfl
theorem mw_312 : Cond.code yX2_lowestRow cX2_lowestRow 2 (some .int) ∈ wsL_law := inT2 (List.mem_of_getElem? (i := 32) rfl) rfl
theorem mw_313 : Cond.constantLong RX2 11 (255) ∈ wsL_law := inT2 (List.mem_of_getElem? (i := 33) rfl) rfl
theorem mw_314 : Cond.methodLink RL 47 yX7_turn ∈ wsL_law := inT4 (List.mem_of_getElem? (i := 4) rfl) rfl
theorem mw_315 : Cond.instanceMethod yX7_turn ∈ wsL_law := inT4 (List.mem_of_getElem? (i := 5) rfl) rfl
theorem mw_316 : Cond.selects RX7 yX7_turn yX7_turn ∈ wsL_law := inT4 (List.mem_of_getElem? (i := 6) rfl) rfl
theorem mw_317 : Cond.code yX7_turn cX7_turn 2 (some .int) ∈ wsL_law := inT4 (List.mem_of_getElem? (i := 7) rfl) rfl
theorem mw_318 : Cond.methodLink RX7 126 yX7_turned ∈ wsL_law := inT4 (List.mem_of_getElem? (i := 8) rfl) rfl
theorem mw_319 : Cond.static yX7_turned ∈ wsL_law := inT4 (List.mem_of_getElem? (i := 9) rfl) rfl
theorem mw_320 : Cond.code yX7_turned cX7_turned 7 (some .long) ∈ wsL_law := inT4 (List.mem_of_getElem? (i := 10) rfl) rfl
theorem mw_321 : Cond.methodLink RX7 96 yX7_is ∈ wsL_law := inT4 (List.mem_of_getElem? (i := 11) rfl) rfl
theorem mw_322 : Cond.static yX7_is ∈ wsL_law := inT4 (List.mem_of_getElem? (i := 12) rfl) rfl
theorem mw_323 : Cond.code yX7_is cX7_is 4 (some .boolean) ∈ wsL_law := inT4 (List.mem_of_getElem? (i := 13) rfl) rfl
theorem mw_324 : Cond.constantLong RX7 42 (7) ∈ wsL_law := inT4 (List.mem_of_getElem? (i := 14) rfl) rfl
theorem mw_325 : Cond.methodLink RL 48 yX6_flip ∈ wsL_law := inT2 (List.mem_of_getElem? (i := 34) rfl) rfl
theorem mw_326 : Cond.instanceMethod yX6_flip ∈ wsL_law := inT2 (List.mem_of_getElem? (i := 35) rfl) rfl
theorem mw_327 : Cond.selects RX6 yX6_flip yX6_flip ∈ wsL_law := inT2 (List.mem_of_getElem? (i := 36) rfl) rfl
theorem mw_328 : Cond.code yX6_flip cX6_flip 2 (some .int) ∈ wsL_law := inT2 (List.mem_of_getElem? (i := 37) rfl) rfl
theorem mw_329 : Cond.methodLink RX6 107 yX2_flipped ∈ wsL_law := inT2 (List.mem_of_getElem? (i := 38) rfl) rfl
theorem mw_330 : Cond.static yX2_flipped ∈ wsL_law := inT2 (List.mem_of_getElem? (i := 39) rfl) rfl
theorem mw_331 : Cond.code yX2_flipped cX2_flipped 5 (some .long) ∈ wsL_law := inT2 (List.mem_of_getElem? (i := 40) rfl) rfl
theorem mw_332 : Cond.methodLink RL 51 yX7_flip ∈ wsL_law := inT4 (List.mem_of_getElem? (i := 15) rfl) rfl
theorem mw_333 : Cond.instanceMethod yX7_flip ∈ wsL_law := inT4 (List.mem_of_getElem? (i := 16) rfl) rfl
theorem mw_334 : Cond.selects RX7 yX7_flip yX7_flip ∈ wsL_law := inT4 (List.mem_of_getElem? (i := 17) rfl) rfl
theorem mw_335 : Cond.code yX7_flip cX7_flip 2 (some .int) ∈ wsL_law := inT4 (List.mem_of_getElem? (i := 18) rfl) rfl
theorem mw_336 : Cond.methodLink RX7 130 yX7_flipped ∈ wsL_law := inT4 (List.mem_of_getElem? (i := 19) rfl) rfl
theorem mw_337 : Cond.static yX7_flipped ∈ wsL_law := inT4 (List.mem_of_getElem? (i := 20) rfl) rfl
theorem mw_338 : Cond.code yX7_flipped cX7_flipped 5 (some .long) ∈ wsL_law := inT4 (List.mem_of_getElem? (i := 21) rfl) rfl
theorem mw_339 : Cond.methodLink RL 52 yX6_halve ∈ wsL_law := inT2 (List.mem_of_getElem? (i := 41) rfl) rfl
theorem mw_340 : Cond.instanceMethod yX6_halve ∈ wsL_law := inT2 (List.mem_of_getElem? (i := 42) rfl) rfl
theorem mw_341 : Cond.selects RX6 yX6_halve yX6_halve ∈ wsL_law := inT2 (List.mem_of_getElem? (i := 43) rfl) rfl
theorem mw_342 : Cond.code yX6_halve cX6_halve 3 (some .int) ∈ wsL_law := inT2 (List.mem_of_getElem? (i := 44) rfl) rfl
theorem mw_343 : Cond.methodLink RX6 110 yX6_isQuarter ∈ wsL_law := inT2 (List.mem_of_getElem? (i := 45) rfl) rfl
theorem mw_344 : Cond.static yX6_isQuarter ∈ wsL_law := inT2 (List.mem_of_getElem? (i := 46) rfl) rfl
theorem mw_345 : Cond.code yX6_isQuarter cX6_isQuarter 1 (some .boolean) ∈ wsL_law := inT2 (List.mem_of_getElem? (i := 47) rfl) rfl
theorem mw_346 : Cond.methodLink RX6 113 yX2_halved ∈ wsL_law := inT2 (List.mem_of_getElem? (i := 48) rfl) rfl
theorem mw_347 : Cond.static yX2_halved ∈ wsL_law := inT2 (List.mem_of_getElem? (i := 49) rfl) rfl
theorem mw_348 : Cond.code yX2_halved cX2_halved 7 (some .long) ∈ wsL_law := inT2 (List.mem_of_getElem? (i := 50) rfl) rfl
theorem mw_349 : Cond.methodLink RX2 42 yX2_fourCells ∈ wsL_law := inT2 (List.mem_of_getElem? (i := 51) rfl) rfl
theorem mw_350 : Cond.static yX2_fourCells ∈ wsL_law := inT2 (List.mem_of_getElem? (i := 52) rfl) rfl
theorem mw_351 : Cond.code yX2_fourCells cX2_fourCells 2 (some .long) ∈ wsL_law := inT2 (List.mem_of_getElem? (i := 53) rfl) rfl
theorem mw_352 : Cond.constantLong RX2 51 (771) ∈ wsL_law := inT2 (List.mem_of_getElem? (i := 54) rfl) rfl
theorem mw_353 : Cond.methodLink RX2 45 yJ13_bitCount_95d88 ∈ wsL_law := inT2 (List.mem_of_getElem? (i := 55) rfl) rfl
theorem mw_354 : Cond.methodLink RX2 23 yX2_quarterCorner ∈ wsL_law := inT2 (List.mem_of_getElem? (i := 56) rfl) rfl
theorem mw_355 : Cond.static yX2_quarterCorner ∈ wsL_law := inT2 (List.mem_of_getElem? (i := 57) rfl) rfl
theorem mw_356 : Cond.code yX2_quarterCorner cX2_quarterCorner 1 (some .int) ∈ wsL_law := inT2 (List.mem_of_getElem? (i := 58) rfl) rfl
theorem mw_357 : Cond.methodLink RL 55 yX7_halve ∈ wsL_law := inT4 (List.mem_of_getElem? (i := 22) rfl) rfl
theorem mw_358 : Cond.instanceMethod yX7_halve ∈ wsL_law := inT4 (List.mem_of_getElem? (i := 23) rfl) rfl
theorem mw_359 : Cond.selects RX7 yX7_halve yX7_halve ∈ wsL_law := inT4 (List.mem_of_getElem? (i := 24) rfl) rfl
theorem mw_360 : Cond.code yX7_halve cX7_halve 3 (some .int) ∈ wsL_law := inT4 (List.mem_of_getElem? (i := 25) rfl) rfl
theorem mw_361 : Cond.constantLong RX7 133 (3) ∈ wsL_law := inT4 (List.mem_of_getElem? (i := 26) rfl) rfl
theorem mw_362 : Cond.methodLink RX7 135 yX7_halved ∈ wsL_law := inT4 (List.mem_of_getElem? (i := 27) rfl) rfl
theorem mw_363 : Cond.static yX7_halved ∈ wsL_law := inT4 (List.mem_of_getElem? (i := 28) rfl) rfl
theorem mw_364 : Cond.code yX7_halved cX7_halved 10 (some .long) ∈ wsL_law := inT4 (List.mem_of_getElem? (i := 29) rfl) rfl
theorem mw_365 : Cond.methodLink RL 56 yX6_grow ∈ wsL_law := inT2 (List.mem_of_getElem? (i := 59) rfl) rfl
theorem mw_366 : Cond.instanceMethod yX6_grow ∈ wsL_law := inT2 (List.mem_of_getElem? (i := 60) rfl) rfl
theorem mw_367 : Cond.selects RX6 yX6_grow yX6_grow ∈ wsL_law := inT2 (List.mem_of_getElem? (i := 61) rfl) rfl
theorem mw_368 : Cond.code yX6_grow cX6_grow 3 (some .int) ∈ wsL_law := inT2 (List.mem_of_getElem? (i := 62) rfl) rfl
theorem mw_369 : Cond.methodLink RX6 117 yX2_grown ∈ wsL_law := inT2 (List.mem_of_getElem? (i := 63) rfl) rfl
theorem mw_370 : Cond.static yX2_grown ∈ wsL_law := inT2 (List.mem_of_getElem? (i := 64) rfl) rfl
theorem mw_371 : Cond.code yX2_grown cX2_grown 7 (some .long) ∈ wsL_law := inT2 (List.mem_of_getElem? (i := 65) rfl) rfl
theorem mw_372 : Cond.methodLink RL 59 yX7_grow ∈ wsL_law := inT4 (List.mem_of_getElem? (i := 30) rfl) rfl
theorem mw_373 : Cond.instanceMethod yX7_grow ∈ wsL_law := inT4 (List.mem_of_getElem? (i := 31) rfl) rfl
theorem mw_374 : Cond.selects RX7 yX7_grow yX7_grow ∈ wsL_law := inT4 (List.mem_of_getElem? (i := 32) rfl) rfl
theorem mw_375 : Cond.code yX7_grow cX7_grow 3 (some .int) ∈ wsL_law := inT4 (List.mem_of_getElem? (i := 33) rfl) rfl
theorem mw_376 : Cond.methodLink RX7 139 yX7_grown ∈ wsL_law := inT4 (List.mem_of_getElem? (i := 34) rfl) rfl
theorem mw_377 : Cond.static yX7_grown ∈ wsL_law := inT4 (List.mem_of_getElem? (i := 35) rfl) rfl
theorem mw_378 : Cond.code yX7_grown cX7_grown 8 (some .long) ∈ wsL_law := inT4 (List.mem_of_getElem? (i := 36) rfl) rfl
theorem mw_379 : Cond.methodLink RL 60 yX6_undo ∈ wsL_law := inT2 (List.mem_of_getElem? (i := 66) rfl) rfl
theorem mw_380 : Cond.instanceMethod yX6_undo ∈ wsL_law := inT2 (List.mem_of_getElem? (i := 67) rfl) rfl
theorem mw_381 : Cond.selects RX6 yX6_undo yX6_undo ∈ wsL_law := inT2 (List.mem_of_getElem? (i := 68) rfl) rfl
theorem mw_382 : Cond.code yX6_undo cX6_undo 1 (some .int) ∈ wsL_law := inT2 (List.mem_of_getElem? (i := 69) rfl) rfl
theorem mw_383 : Cond.methodLink RX6 120 yX0_size ∈ wsL_law := inT2 (List.mem_of_getElem? (i := 70) rfl) rfl
theorem mw_384 : Cond.instanceMethod yX0_size ∈ wsL_law := inT2 (List.mem_of_getElem? (i := 71) rfl) rfl
theorem mw_385 : Cond.selects RX0 yX0_size yX0_size ∈ wsL_law := inT2 (List.mem_of_getElem? (i := 72) rfl) rfl
theorem mw_386 : Cond.code yX0_size cX0_size 1 (some .int) ∈ wsL_law := inT2 (List.mem_of_getElem? (i := 73) rfl) rfl
theorem mw_387 : Cond.methodLink RX6 121 yX0_lastPicture ∈ wsL_law := inT2 (List.mem_of_getElem? (i := 74) rfl) rfl
theorem mw_388 : Cond.instanceMethod yX0_lastPicture ∈ wsL_law := inT2 (List.mem_of_getElem? (i := 75) rfl) rfl
theorem mw_389 : Cond.selects RX0 yX0_lastPicture yX0_lastPicture ∈ wsL_law := inT2 (List.mem_of_getElem? (i := 76) rfl) rfl
theorem mw_390 : Cond.code yX0_lastPicture cX0_lastPicture 1 (some .int) ∈ wsL_law := inT2 (List.mem_of_getElem? (i := 77) rfl) rfl
theorem mw_391 : Cond.methodLink RX6 124 yX0_lastBefore ∈ wsL_law := inT2 (List.mem_of_getElem? (i := 78) rfl) rfl
theorem mw_392 : Cond.instanceMethod yX0_lastBefore ∈ wsL_law := inT2 (List.mem_of_getElem? (i := 79) rfl) rfl
theorem mw_393 : Cond.selects RX0 yX0_lastBefore yX0_lastBefore ∈ wsL_law := inT2 (List.mem_of_getElem? (i := 80) rfl) rfl
theorem mw_394 : Cond.code yX0_lastBefore cX0_lastBefore 1 (some .long) ∈ wsL_law := inT2 (List.mem_of_getElem? (i := 81) rfl) rfl
theorem mw_395 : Cond.methodLink RX6 131 yX0_dropLast ∈ wsL_law := inT2 (List.mem_of_getElem? (i := 82) rfl) rfl
theorem mw_396 : Cond.instanceMethod yX0_dropLast ∈ wsL_law := inT2 (List.mem_of_getElem? (i := 83) rfl) rfl
theorem mw_397 : Cond.selects RX0 yX0_dropLast yX0_dropLast ∈ wsL_law := inT2 (List.mem_of_getElem? (i := 84) rfl) rfl
theorem mw_398 : Cond.code yX0_dropLast cX0_dropLast 1 none ∈ wsL_law := inT2 (List.mem_of_getElem? (i := 85) rfl) rfl
theorem mw_399 : Cond.methodLink RL 63 yX7_undo ∈ wsL_law := inT4 (List.mem_of_getElem? (i := 37) rfl) rfl
theorem mw_400 : Cond.instanceMethod yX7_undo ∈ wsL_law := inT4 (List.mem_of_getElem? (i := 38) rfl) rfl
theorem mw_401 : Cond.selects RX7 yX7_undo yX7_undo ∈ wsL_law := inT4 (List.mem_of_getElem? (i := 39) rfl) rfl
theorem mw_402 : Cond.code yX7_undo cX7_undo 2 (some .int) ∈ wsL_law := inT4 (List.mem_of_getElem? (i := 40) rfl) rfl
theorem mw_403 : Cond.methodLink RL 64 yX6_black ∈ wsL_law := inT2 (List.mem_of_getElem? (i := 86) rfl) rfl
theorem mw_404 : Cond.instanceMethod yX6_black ∈ wsL_law := inT2 (List.mem_of_getElem? (i := 87) rfl) rfl
theorem mw_405 : Cond.selects RX6 yX6_black yX6_black ∈ wsL_law := inT2 (List.mem_of_getElem? (i := 88) rfl) rfl
theorem mw_406 : Cond.code yX6_black cX6_black 2 (some .long) ∈ wsL_law := inT2 (List.mem_of_getElem? (i := 89) rfl) rfl
theorem mw_407 : Cond.methodLink RL 68 yX7_black ∈ wsL_law := inT4 (List.mem_of_getElem? (i := 41) rfl) rfl
theorem mw_408 : Cond.instanceMethod yX7_black ∈ wsL_law := inT4 (List.mem_of_getElem? (i := 42) rfl) rfl
theorem mw_409 : Cond.selects RX7 yX7_black yX7_black ∈ wsL_law := inT4 (List.mem_of_getElem? (i := 43) rfl) rfl
theorem mw_410 : Cond.code yX7_black cX7_black 2 (some .long) ∈ wsL_law := inT4 (List.mem_of_getElem? (i := 44) rfl) rfl
theorem mw_411 : Cond.methodLink RL 69 yX6_look ∈ wsL_law := inT2 (List.mem_of_getElem? (i := 90) rfl) rfl
theorem mw_412 : Cond.instanceMethod yX6_look ∈ wsL_law := inT2 (List.mem_of_getElem? (i := 91) rfl) rfl
theorem mw_413 : Cond.selects RX6 yX6_look yX6_look ∈ wsL_law := inT2 (List.mem_of_getElem? (i := 92) rfl) rfl
theorem mw_414 : Cond.code yX6_look cX6_look 5 (some .int) ∈ wsL_law := inT2 (List.mem_of_getElem? (i := 93) rfl) rfl
theorem mw_415 : Cond.methodLink RX6 134 yX5_leastLength ∈ wsL_law := inT2 (List.mem_of_getElem? (i := 94) rfl) rfl
theorem mw_416 : Cond.instanceMethod yX5_leastLength ∈ wsL_law := inT2 (List.mem_of_getElem? (i := 95) rfl) rfl
theorem mw_417 : Cond.selects RX5 yX5_leastLength yX5_leastLength ∈ wsL_law := inT2 (List.mem_of_getElem? (i := 96) rfl) rfl
theorem mw_418 : Cond.code yX5_leastLength cX5_leastLength 4 (some .int) ∈ wsL_law := inT2 (List.mem_of_getElem? (i := 97) rfl) rfl
theorem mw_419 : Cond.methodLink RX5 32 yX5_start ∈ wsL_law := inT2 (List.mem_of_getElem? (i := 98) rfl) rfl
theorem mw_420 : Cond.methodLink RX5 35 yX5_hasEnded ∈ wsL_law := inT2 (List.mem_of_getElem? (i := 99) rfl) rfl
theorem mw_421 : Cond.methodLink RX5 39 yX5_step ∈ wsL_law := inT2 (List.mem_of_getElem? (i := 100) rfl) rfl
theorem mw_422 : Cond.instanceMethod yX5_step ∈ wsL_law := inT2 (List.mem_of_getElem? (i := 102) rfl) rfl
theorem mw_423 : Cond.selects RX5 yX5_step yX5_step ∈ wsL_law := inP1 (List.mem_of_getElem? (i := 5) rfl) rfl
theorem mw_424 : Cond.code yX5_step cX5_step 3 none ∈ wsL_law := inT2 (List.mem_of_getElem? (i := 103) rfl) rfl
theorem mw_425 : Cond.methodLink RX5 43 yX5_square ∈ wsL_law := inT2 (List.mem_of_getElem? (i := 104) rfl) rfl
theorem mw_426 : Cond.methodLink RX5 47 yX2_sign ∈ wsL_law := inT2 (List.mem_of_getElem? (i := 105) rfl) rfl
theorem mw_427 : Cond.static yX2_sign ∈ wsL_law := inT2 (List.mem_of_getElem? (i := 106) rfl) rfl
theorem mw_428 : Cond.code yX2_sign cX2_sign 6 (some .int) ∈ wsL_law := inT2 (List.mem_of_getElem? (i := 107) rfl) rfl
theorem mw_429 : Cond.methodLink RX5 51 yX5_cut ∈ wsL_law := inT2 (List.mem_of_getElem? (i := 108) rfl) rfl
theorem mw_430 : Cond.methodLink RX5 54 yX5_pass ∈ wsL_law := inT2 (List.mem_of_getElem? (i := 109) rfl) rfl
theorem mw_431 : Cond.methodLink RX6 137 yX2_parts ∈ wsL_law := inT2 (List.mem_of_getElem? (i := 110) rfl) rfl
theorem mw_432 : Cond.static yX2_parts ∈ wsL_law := inT2 (List.mem_of_getElem? (i := 111) rfl) rfl
theorem mw_433 : Cond.code yX2_parts cX2_parts 5 (some .int) ∈ wsL_law := inT2 (List.mem_of_getElem? (i := 112) rfl) rfl
theorem mw_434 : Cond.methodLink RX2 68 yX2_partOf ∈ wsL_law := inT2 (List.mem_of_getElem? (i := 113) rfl) rfl
theorem mw_435 : Cond.static yX2_partOf ∈ wsL_law := inT2 (List.mem_of_getElem? (i := 114) rfl) rfl
theorem mw_436 : Cond.code yX2_partOf cX2_partOf 9 (some .long) ∈ wsL_law := inT2 (List.mem_of_getElem? (i := 115) rfl) rfl
theorem mw_437 : Cond.methodLink RX2 72 yX2_leftOf ∈ wsL_law := inT2 (List.mem_of_getElem? (i := 116) rfl) rfl
theorem mw_438 : Cond.static yX2_leftOf ∈ wsL_law := inT2 (List.mem_of_getElem? (i := 117) rfl) rfl
theorem mw_439 : Cond.code yX2_leftOf cX2_leftOf 2 (some .long) ∈ wsL_law := inT2 (List.mem_of_getElem? (i := 118) rfl) rfl
theorem mw_440 : Cond.constantLong RX2 78 (-72340172838076674) ∈ wsL_law := inT2 (List.mem_of_getElem? (i := 119) rfl) rfl
theorem mw_441 : Cond.methodLink RX2 75 yX2_rightOf ∈ wsL_law := inT2 (List.mem_of_getElem? (i := 120) rfl) rfl
theorem mw_442 : Cond.static yX2_rightOf ∈ wsL_law := inT2 (List.mem_of_getElem? (i := 121) rfl) rfl
theorem mw_443 : Cond.code yX2_rightOf cX2_rightOf 2 (some .long) ∈ wsL_law := inT2 (List.mem_of_getElem? (i := 122) rfl) rfl
theorem mw_444 : Cond.constantLong RX2 80 (9187201950435737471) ∈ wsL_law := inT2 (List.mem_of_getElem? (i := 123) rfl) rfl
theorem mw_445 : Cond.methodLink RX6 140 yX2_rim ∈ wsL_law := inT2 (List.mem_of_getElem? (i := 124) rfl) rfl
theorem mw_446 : Cond.static yX2_rim ∈ wsL_law := inT2 (List.mem_of_getElem? (i := 125) rfl) rfl
theorem mw_447 : Cond.code yX2_rim cX2_rim 2 (some .int) ∈ wsL_law := inT2 (List.mem_of_getElem? (i := 126) rfl) rfl
theorem mw_448 : Cond.methodLink RX6 143 yX2_blocks ∈ wsL_law := inT2 (List.mem_of_getElem? (i := 127) rfl) rfl
theorem mw_449 : Cond.static yX2_blocks ∈ wsL_law := inT2 (List.mem_of_getElem? (i := 128) rfl) rfl
theorem mw_450 : Cond.code yX2_blocks cX2_blocks 9 (some .int) ∈ wsL_law := inT2 (List.mem_of_getElem? (i := 129) rfl) rfl
theorem mw_451 : Cond.methodLink RX2 27 yX2_squareOf ∈ wsL_law := inT2 (List.mem_of_getElem? (i := 130) rfl) rfl
theorem mw_452 : Cond.methodLink RL 72 yX7_look ∈ wsL_law := inT4 (List.mem_of_getElem? (i := 45) rfl) rfl
theorem mw_453 : Cond.instanceMethod yX7_look ∈ wsL_law := inT4 (List.mem_of_getElem? (i := 46) rfl) rfl
theorem mw_454 : Cond.selects RX7 yX7_look yX7_look ∈ wsL_law := inT4 (List.mem_of_getElem? (i := 47) rfl) rfl
theorem mw_455 : Cond.code yX7_look cX7_look 3 (some .int) ∈ wsL_law := inT4 (List.mem_of_getElem? (i := 48) rfl) rfl
theorem mw_456 : Cond.fieldLink RX7 146 "QuarterWordsModel" "lettersMany" "I" ∈ wsL_law := inT3 (List.mem_of_getElem? (i := 120) rfl) rfl
theorem mw_457 : Cond.methodLink RX7 160 yX7_findWord ∈ wsL_law := inT4 (List.mem_of_getElem? (i := 49) rfl) rfl
theorem mw_458 : Cond.instanceMethod yX7_findWord ∈ wsL_law := inT4 (List.mem_of_getElem? (i := 51) rfl) rfl
theorem mw_459 : Cond.selects RX7 yX7_findWord yX7_findWord ∈ wsL_law := inP2 (List.mem_of_getElem? (i := 3) rfl) rfl
theorem mw_460 : Cond.code yX7_findWord cX7_findWord 4 none ∈ wsL_law := inT4 (List.mem_of_getElem? (i := 52) rfl) rfl
theorem mw_461 : Cond.methodLink RX7 149 yX7_leafOf ∈ wsL_law := inT4 (List.mem_of_getElem? (i := 53) rfl) rfl
theorem mw_462 : Cond.instanceMethod yX7_leafOf ∈ wsL_law := inT4 (List.mem_of_getElem? (i := 55) rfl) rfl
theorem mw_463 : Cond.selects RX7 yX7_leafOf yX7_leafOf ∈ wsL_law := inP2 (List.mem_of_getElem? (i := 4) rfl) rfl
theorem mw_464 : Cond.code yX7_leafOf cX7_leafOf 5 (some .int) ∈ wsL_law := inT4 (List.mem_of_getElem? (i := 56) rfl) rfl
theorem mw_465 : Cond.methodLink RX7 142 yX7_maskOf ∈ wsL_law := inT4 (List.mem_of_getElem? (i := 57) rfl) rfl
theorem mw_466 : Cond.static yX7_maskOf ∈ wsL_law := inT4 (List.mem_of_getElem? (i := 58) rfl) rfl
theorem mw_467 : Cond.code yX7_maskOf cX7_maskOf 2 (some .long) ∈ wsL_law := inT4 (List.mem_of_getElem? (i := 59) rfl) rfl
theorem mw_468 : Cond.methodLink RX7 152 yX7_tellCells ∈ wsL_law := inT4 (List.mem_of_getElem? (i := 60) rfl) rfl
theorem mw_469 : Cond.instanceMethod yX7_tellCells ∈ wsL_law := inT4 (List.mem_of_getElem? (i := 62) rfl) rfl
theorem mw_470 : Cond.selects RX7 yX7_tellCells yX7_tellCells ∈ wsL_law := inP2 (List.mem_of_getElem? (i := 5) rfl) rfl
theorem mw_471 : Cond.code yX7_tellCells cX7_tellCells 5 none ∈ wsL_law := inT4 (List.mem_of_getElem? (i := 63) rfl) rfl
theorem mw_472 : Cond.methodLink RX7 164 yX7_partsOf ∈ wsL_law := inT4 (List.mem_of_getElem? (i := 64) rfl) rfl
theorem mw_473 : Cond.static yX7_partsOf ∈ wsL_law := inT4 (List.mem_of_getElem? (i := 65) rfl) rfl
theorem mw_474 : Cond.code yX7_partsOf cX7_partsOf 9 (some .int) ∈ wsL_law := inT4 (List.mem_of_getElem? (i := 66) rfl) rfl
theorem mw_475 : Cond.constantLong RX7 156 (-72340172838076674) ∈ wsL_law := inT4 (List.mem_of_getElem? (i := 67) rfl) rfl
theorem mw_476 : Cond.constantLong RX7 158 (9187201950435737471) ∈ wsL_law := inT4 (List.mem_of_getElem? (i := 68) rfl) rfl
theorem mw_477 : Cond.methodLink RX7 167 yX7_rimOf ∈ wsL_law := inT4 (List.mem_of_getElem? (i := 69) rfl) rfl
theorem mw_478 : Cond.static yX7_rimOf ∈ wsL_law := inT4 (List.mem_of_getElem? (i := 70) rfl) rfl
theorem mw_479 : Cond.code yX7_rimOf cX7_rimOf 6 (some .int) ∈ wsL_law := inT4 (List.mem_of_getElem? (i := 71) rfl) rfl
theorem mw_480 : Cond.methodLink RX7 170 yX7_blocksOf ∈ wsL_law := inT4 (List.mem_of_getElem? (i := 72) rfl) rfl
theorem mw_481 : Cond.static yX7_blocksOf ∈ wsL_law := inT4 (List.mem_of_getElem? (i := 73) rfl) rfl
theorem mw_482 : Cond.code yX7_blocksOf cX7_blocksOf 10 (some .int) ∈ wsL_law := inT4 (List.mem_of_getElem? (i := 74) rfl) rfl
theorem mw_483 : Cond.methodLink RL 73 yX6_letter ∈ wsL_law := inT2 (List.mem_of_getElem? (i := 131) rfl) rfl
theorem mw_484 : Cond.instanceMethod yX6_letter ∈ wsL_law := inT2 (List.mem_of_getElem? (i := 132) rfl) rfl
theorem mw_485 : Cond.selects RX6 yX6_letter yX6_letter ∈ wsL_law := inT2 (List.mem_of_getElem? (i := 133) rfl) rfl
theorem mw_486 : Cond.code yX6_letter cX6_letter 3 (some .int) ∈ wsL_law := inT2 (List.mem_of_getElem? (i := 134) rfl) rfl
theorem mw_487 : Cond.methodLink RX6 146 yX5_leastLetter ∈ wsL_law := inT2 (List.mem_of_getElem? (i := 135) rfl) rfl
theorem mw_488 : Cond.instanceMethod yX5_leastLetter ∈ wsL_law := inT2 (List.mem_of_getElem? (i := 136) rfl) rfl
theorem mw_489 : Cond.selects RX5 yX5_leastLetter yX5_leastLetter ∈ wsL_law := inT2 (List.mem_of_getElem? (i := 137) rfl) rfl
theorem mw_490 : Cond.code yX5_leastLetter cX5_leastLetter 5 (some .int) ∈ wsL_law := inT2 (List.mem_of_getElem? (i := 138) rfl) rfl
theorem mw_491 : Cond.methodLink RL 76 yX7_letter ∈ wsL_law := inT4 (List.mem_of_getElem? (i := 75) rfl) rfl
theorem mw_492 : Cond.instanceMethod yX7_letter ∈ wsL_law := inT4 (List.mem_of_getElem? (i := 76) rfl) rfl
theorem mw_493 : Cond.selects RX7 yX7_letter yX7_letter ∈ wsL_law := inT4 (List.mem_of_getElem? (i := 77) rfl) rfl
theorem mw_494 : Cond.code yX7_letter cX7_letter 3 (some .int) ∈ wsL_law := inT4 (List.mem_of_getElem? (i := 78) rfl) rfl
theorem mw_495 : Cond.methodLink RL 77 yX6_at ∈ wsL_law := inT2 (List.mem_of_getElem? (i := 139) rfl) rfl
theorem mw_496 : Cond.instanceMethod yX6_at ∈ wsL_law := inT2 (List.mem_of_getElem? (i := 140) rfl) rfl
theorem mw_497 : Cond.selects RX6 yX6_at yX6_at ∈ wsL_law := inT2 (List.mem_of_getElem? (i := 141) rfl) rfl
theorem mw_498 : Cond.code yX6_at cX6_at 6 (some .int) ∈ wsL_law := inT2 (List.mem_of_getElem? (i := 142) rfl) rfl
theorem mw_499 : Cond.methodLink RX6 150 yX6_isCell ∈ wsL_law := inT2 (List.mem_of_getElem? (i := 143) rfl) rfl
theorem mw_500 : Cond.static yX6_isCell ∈ wsL_law := inT2 (List.mem_of_getElem? (i := 144) rfl) rfl
theorem mw_501 : Cond.code yX6_isCell cX6_isCell 1 (some .boolean) ∈ wsL_law := inT2 (List.mem_of_getElem? (i := 145) rfl) rfl
theorem mw_502 : Cond.methodLink RX6 153 yX2_isBlack ∈ wsL_law := inT2 (List.mem_of_getElem? (i := 146) rfl) rfl
theorem mw_503 : Cond.methodLink RX6 157 yX2_depthAt ∈ wsL_law := inT2 (List.mem_of_getElem? (i := 147) rfl) rfl
theorem mw_504 : Cond.static yX2_depthAt ∈ wsL_law := inT2 (List.mem_of_getElem? (i := 148) rfl) rfl
theorem mw_505 : Cond.code yX2_depthAt cX2_depthAt 4 (some .int) ∈ wsL_law := inT2 (List.mem_of_getElem? (i := 149) rfl) rfl
theorem mw_506 : Cond.methodLink RX2 31 yX2_sign ∈ wsL_law := inT2 (List.mem_of_getElem? (i := 150) rfl) rfl
theorem mw_507 : Cond.methodLink RX6 160 yX2_squareOf ∈ wsL_law := inT2 (List.mem_of_getElem? (i := 151) rfl) rfl
theorem mw_508 : Cond.methodLink RX6 164 yX2_sign ∈ wsL_law := inT2 (List.mem_of_getElem? (i := 152) rfl) rfl
theorem mw_509 : Cond.methodLink RL 81 yX7_at ∈ wsL_law := inT4 (List.mem_of_getElem? (i := 79) rfl) rfl
theorem mw_510 : Cond.instanceMethod yX7_at ∈ wsL_law := inT4 (List.mem_of_getElem? (i := 80) rfl) rfl
theorem mw_511 : Cond.selects RX7 yX7_at yX7_at ∈ wsL_law := inT4 (List.mem_of_getElem? (i := 81) rfl) rfl
theorem mw_512 : Cond.code yX7_at cX7_at 4 (some .int) ∈ wsL_law := inT4 (List.mem_of_getElem? (i := 82) rfl) rfl
theorem mw_513 : Cond.constantLong RX7 173 (63) ∈ wsL_law := inT4 (List.mem_of_getElem? (i := 83) rfl) rfl
theorem mw_514 : Cond.methodLink RL 82 yX6_alike ∈ wsL_law := inT2 (List.mem_of_getElem? (i := 153) rfl) rfl
theorem mw_515 : Cond.instanceMethod yX6_alike ∈ wsL_law := inT2 (List.mem_of_getElem? (i := 154) rfl) rfl
theorem mw_516 : Cond.selects RX6 yX6_alike yX6_alike ∈ wsL_law := inT2 (List.mem_of_getElem? (i := 155) rfl) rfl
theorem mw_517 : Cond.code yX6_alike cX6_alike 3 (some .int) ∈ wsL_law := inT2 (List.mem_of_getElem? (i := 156) rfl) rfl
theorem mw_518 : Cond.methodLink RX6 168 yX2_waysAlike ∈ wsL_law := inT2 (List.mem_of_getElem? (i := 157) rfl) rfl
theorem mw_519 : Cond.static yX2_waysAlike ∈ wsL_law := inT2 (List.mem_of_getElem? (i := 158) rfl) rfl
theorem mw_520 : Cond.code yX2_waysAlike cX2_waysAlike 6 (some .int) ∈ wsL_law := inT2 (List.mem_of_getElem? (i := 159) rfl) rfl
theorem mw_521 : Cond.methodLink RX2 64 yX2_unlike ∈ wsL_law := inT2 (List.mem_of_getElem? (i := 160) rfl) rfl
theorem mw_522 : Cond.static yX2_unlike ∈ wsL_law := inT2 (List.mem_of_getElem? (i := 161) rfl) rfl
theorem mw_523 : Cond.code yX2_unlike cX2_unlike 5 (some .int) ∈ wsL_law := inT2 (List.mem_of_getElem? (i := 162) rfl) rfl
theorem mw_524 : Cond.methodLink RX2 60 yX2_byWay ∈ wsL_law := inT2 (List.mem_of_getElem? (i := 163) rfl) rfl
theorem mw_525 : Cond.static yX2_byWay ∈ wsL_law := inT2 (List.mem_of_getElem? (i := 164) rfl) rfl
theorem mw_526 : Cond.code yX2_byWay cX2_byWay 6 (some .long) ∈ wsL_law := inT2 (List.mem_of_getElem? (i := 165) rfl) rfl
theorem mw_527 : Cond.methodLink RX2 53 yX2_flipped ∈ wsL_law := inT2 (List.mem_of_getElem? (i := 166) rfl) rfl
theorem mw_528 : Cond.methodLink RX2 57 yX2_turned ∈ wsL_law := inT2 (List.mem_of_getElem? (i := 167) rfl) rfl
theorem mw_529 : Cond.methodLink RL 85 yX7_alike ∈ wsL_law := inT4 (List.mem_of_getElem? (i := 84) rfl) rfl
theorem mw_530 : Cond.instanceMethod yX7_alike ∈ wsL_law := inT4 (List.mem_of_getElem? (i := 85) rfl) rfl
theorem mw_531 : Cond.selects RX7 yX7_alike yX7_alike ∈ wsL_law := inT4 (List.mem_of_getElem? (i := 86) rfl) rfl
theorem mw_532 : Cond.code yX7_alike cX7_alike 3 (some .int) ∈ wsL_law := inT4 (List.mem_of_getElem? (i := 87) rfl) rfl
theorem mw_533 : Cond.methodLink RX7 178 yX7_waysOf ∈ wsL_law := inT4 (List.mem_of_getElem? (i := 88) rfl) rfl
theorem mw_534 : Cond.static yX7_waysOf ∈ wsL_law := inT4 (List.mem_of_getElem? (i := 89) rfl) rfl
theorem mw_535 : Cond.code yX7_waysOf cX7_waysOf 6 (some .int) ∈ wsL_law := inT4 (List.mem_of_getElem? (i := 90) rfl) rfl
theorem mw_536 : Cond.methodLink RX7 175 yX7_byWay ∈ wsL_law := inT4 (List.mem_of_getElem? (i := 91) rfl) rfl
theorem mw_537 : Cond.static yX7_byWay ∈ wsL_law := inT4 (List.mem_of_getElem? (i := 92) rfl) rfl
theorem mw_538 : Cond.code yX7_byWay cX7_byWay 6 (some .long) ∈ wsL_law := inT4 (List.mem_of_getElem? (i := 93) rfl) rfl
theorem mw_539 : Cond.methodLink RL 86 yX6_near ∈ wsL_law := inT2 (List.mem_of_getElem? (i := 168) rfl) rfl
theorem mw_540 : Cond.instanceMethod yX6_near ∈ wsL_law := inT2 (List.mem_of_getElem? (i := 169) rfl) rfl
theorem mw_541 : Cond.selects RX6 yX6_near yX6_near ∈ wsL_law := inT2 (List.mem_of_getElem? (i := 170) rfl) rfl
theorem mw_542 : Cond.code yX6_near cX6_near 5 (some .int) ∈ wsL_law := inT2 (List.mem_of_getElem? (i := 171) rfl) rfl
theorem mw_543 : Cond.methodLink RX6 171 yX2_nearestWay ∈ wsL_law := inT2 (List.mem_of_getElem? (i := 172) rfl) rfl
theorem mw_544 : Cond.static yX2_nearestWay ∈ wsL_law := inT2 (List.mem_of_getElem? (i := 173) rfl) rfl
theorem mw_545 : Cond.code yX2_nearestWay cX2_nearestWay 8 (some .int) ∈ wsL_law := inT2 (List.mem_of_getElem? (i := 174) rfl) rfl
theorem mw_546 : Cond.methodLink RX6 174 yX2_unlike ∈ wsL_law := inT2 (List.mem_of_getElem? (i := 175) rfl) rfl
theorem mw_547 : Cond.methodLink RL 89 yX7_near ∈ wsL_law := inT4 (List.mem_of_getElem? (i := 94) rfl) rfl
theorem mw_548 : Cond.instanceMethod yX7_near ∈ wsL_law := inT4 (List.mem_of_getElem? (i := 95) rfl) rfl
theorem mw_549 : Cond.selects RX7 yX7_near yX7_near ∈ wsL_law := inT4 (List.mem_of_getElem? (i := 96) rfl) rfl
theorem mw_550 : Cond.code yX7_near cX7_near 8 (some .int) ∈ wsL_law := inT4 (List.mem_of_getElem? (i := 97) rfl) rfl
theorem mw_551 : Cond.methodLink RL 92 yX6_judge ∈ wsL_law := inT2 (List.mem_of_getElem? (i := 176) rfl) rfl
theorem mw_552 : Cond.instanceMethod yX6_judge ∈ wsL_law := inT2 (List.mem_of_getElem? (i := 177) rfl) rfl
theorem mw_553 : Cond.selects RX6 yX6_judge yX6_judge ∈ wsL_law := inT2 (List.mem_of_getElem? (i := 178) rfl) rfl
theorem mw_554 : Cond.code yX6_judge cX6_judge 6 (some .int) ∈ wsL_law := inT2 (List.mem_of_getElem? (i := 179) rfl) rfl
theorem mw_555 : Cond.methodLink RX6 178 yX6_readsDoings ∈ wsL_law := inT2 (List.mem_of_getElem? (i := 180) rfl) rfl
theorem mw_556 : Cond.instanceMethod yX6_readsDoings ∈ wsL_law := inT2 (List.mem_of_getElem? (i := 182) rfl) rfl
theorem mw_557 : Cond.selects RX6 yX6_readsDoings yX6_readsDoings ∈ wsL_law := inP1 (List.mem_of_getElem? (i := 6) rfl) rfl
theorem mw_558 : Cond.code yX6_readsDoings cX6_readsDoings 7 (some .boolean) ∈ wsL_law := inT2 (List.mem_of_getElem? (i := 183) rfl) rfl
theorem mw_559 : Cond.methodLink RX6 243 Lib.Math.min.name ∈ wsL_law := inT2 (List.mem_of_getElem? (i := 184) rfl) rfl
theorem mw_560 : Cond.static Lib.Math.min.name ∈ wsL_law := inT2 (List.mem_of_getElem? (i := 185) rfl) rfl
theorem mw_561 : Cond.initialized "java/lang/Math" ∈ wsL_law := inT1 (List.mem_of_getElem? (i := 10) rfl) rfl
theorem mw_562 : Cond.code Lib.Math.min.name Lib.Math.min.code 2 (some .int) ∈ wsL_law := inT2 (List.mem_of_getElem? (i := 186) rfl) rfl
theorem mw_563 : Cond.constantLong RX6 248 (1000) ∈ wsL_law := inT2 (List.mem_of_getElem? (i := 187) rfl) rfl
theorem mw_564 : Cond.methodLink RX6 182 yX1_copyFrom ∈ wsL_law := inT2 (List.mem_of_getElem? (i := 188) rfl) rfl
theorem mw_565 : Cond.instanceMethod yX1_copyFrom ∈ wsL_law := inT2 (List.mem_of_getElem? (i := 189) rfl) rfl
theorem mw_566 : Cond.selects RX1 yX1_copyFrom yX1_copyFrom ∈ wsL_law := inT2 (List.mem_of_getElem? (i := 190) rfl) rfl
theorem mw_567 : Cond.code yX1_copyFrom cX1_copyFrom 3 none ∈ wsL_law := inT2 (List.mem_of_getElem? (i := 191) rfl) rfl
theorem mw_568 : Cond.methodLink RX1 19 yX1_cells ∈ wsL_law := inT2 (List.mem_of_getElem? (i := 192) rfl) rfl
theorem mw_569 : Cond.methodLink RX1 23 yX1_set ∈ wsL_law := inT2 (List.mem_of_getElem? (i := 193) rfl) rfl
theorem mw_570 : Cond.methodLink RX6 186 yX1_does ∈ wsL_law := inT2 (List.mem_of_getElem? (i := 194) rfl) rfl
theorem mw_571 : Cond.instanceMethod yX1_does ∈ wsL_law := inT2 (List.mem_of_getElem? (i := 195) rfl) rfl
theorem mw_572 : Cond.selects RX1 yX1_does yX1_does ∈ wsL_law := inT2 (List.mem_of_getElem? (i := 196) rfl) rfl
theorem mw_573 : Cond.code yX1_does cX1_does 4 (some .boolean) ∈ wsL_law := inT2 (List.mem_of_getElem? (i := 197) rfl) rfl
theorem mw_574 : Cond.methodLink RX1 39 yX1_combines ∈ wsL_law := inT2 (List.mem_of_getElem? (i := 198) rfl) rfl
theorem mw_575 : Cond.instanceMethod yX1_combines ∈ wsL_law := inT2 (List.mem_of_getElem? (i := 200) rfl) rfl
theorem mw_576 : Cond.selects RX1 yX1_combines yX1_combines ∈ wsL_law := inP1 (List.mem_of_getElem? (i := 7) rfl) rfl
theorem mw_577 : Cond.code yX1_combines cX1_combines 4 (some .boolean) ∈ wsL_law := inT2 (List.mem_of_getElem? (i := 201) rfl) rfl
theorem mw_578 : Cond.methodLink RX1 57 yX2_combined ∈ wsL_law := inT2 (List.mem_of_getElem? (i := 202) rfl) rfl
theorem mw_579 : Cond.methodLink RX1 43 yX1_moves ∈ wsL_law := inT2 (List.mem_of_getElem? (i := 203) rfl) rfl
theorem mw_580 : Cond.instanceMethod yX1_moves ∈ wsL_law := inT2 (List.mem_of_getElem? (i := 205) rfl) rfl
theorem mw_581 : Cond.selects RX1 yX1_moves yX1_moves ∈ wsL_law := inP1 (List.mem_of_getElem? (i := 8) rfl) rfl
theorem mw_582 : Cond.code yX1_moves cX1_moves 5 (some .boolean) ∈ wsL_law := inT2 (List.mem_of_getElem? (i := 206) rfl) rfl
theorem mw_583 : Cond.methodLink RX1 61 yX2_turned ∈ wsL_law := inT2 (List.mem_of_getElem? (i := 207) rfl) rfl
theorem mw_584 : Cond.methodLink RX1 65 yX2_flipped ∈ wsL_law := inT2 (List.mem_of_getElem? (i := 208) rfl) rfl
theorem mw_585 : Cond.methodLink RX1 47 yX1_scales ∈ wsL_law := inT2 (List.mem_of_getElem? (i := 209) rfl) rfl
theorem mw_586 : Cond.instanceMethod yX1_scales ∈ wsL_law := inT2 (List.mem_of_getElem? (i := 211) rfl) rfl
theorem mw_587 : Cond.selects RX1 yX1_scales yX1_scales ∈ wsL_law := inP1 (List.mem_of_getElem? (i := 9) rfl) rfl
theorem mw_588 : Cond.code yX1_scales cX1_scales 6 (some .boolean) ∈ wsL_law := inT2 (List.mem_of_getElem? (i := 212) rfl) rfl
theorem mw_589 : Cond.methodLink RX1 71 yX2_halved ∈ wsL_law := inT2 (List.mem_of_getElem? (i := 214) rfl) rfl
theorem mw_590 : Cond.methodLink RX1 75 yX2_grown ∈ wsL_law := inT2 (List.mem_of_getElem? (i := 215) rfl) rfl
theorem mw_591 : Cond.methodLink RX1 50 yX2_parts ∈ wsL_law := inT2 (List.mem_of_getElem? (i := 216) rfl) rfl
theorem mw_592 : Cond.methodLink RX1 53 yX2_waysAlike ∈ wsL_law := inT2 (List.mem_of_getElem? (i := 217) rfl) rfl
theorem mw_593 : Cond.methodLink RL 96 yX7_judge ∈ wsL_law := inT4 (List.mem_of_getElem? (i := 98) rfl) rfl
theorem mw_594 : Cond.instanceMethod yX7_judge ∈ wsL_law := inT4 (List.mem_of_getElem? (i := 99) rfl) rfl
theorem mw_595 : Cond.selects RX7 yX7_judge yX7_judge ∈ wsL_law := inT4 (List.mem_of_getElem? (i := 100) rfl) rfl
theorem mw_596 : Cond.code yX7_judge cX7_judge 6 (some .int) ∈ wsL_law := inT4 (List.mem_of_getElem? (i := 101) rfl) rfl
theorem mw_597 : Cond.constantLong RX7 184 (4) ∈ wsL_law := inT4 (List.mem_of_getElem? (i := 102) rfl) rfl
theorem mw_598 : Cond.constantLong RX7 182 (1000) ∈ wsL_law := inT4 (List.mem_of_getElem? (i := 106) rfl) rfl
theorem mw_599 : Cond.methodLink RX7 186 yX7_thousandTo ∈ wsL_law := inT4 (List.mem_of_getElem? (i := 103) rfl) rfl
theorem mw_600 : Cond.static yX7_thousandTo ∈ wsL_law := inT4 (List.mem_of_getElem? (i := 104) rfl) rfl
theorem mw_601 : Cond.code yX7_thousandTo cX7_thousandTo 4 (some .long) ∈ wsL_law := inT4 (List.mem_of_getElem? (i := 105) rfl) rfl
theorem mw_602 : Cond.methodLink RX7 190 yX7_layTrial ∈ wsL_law := inT4 (List.mem_of_getElem? (i := 107) rfl) rfl
theorem mw_603 : Cond.instanceMethod yX7_layTrial ∈ wsL_law := inT4 (List.mem_of_getElem? (i := 109) rfl) rfl
theorem mw_604 : Cond.selects RX7 yX7_layTrial yX7_layTrial ∈ wsL_law := inP2 (List.mem_of_getElem? (i := 6) rfl) rfl
theorem mw_605 : Cond.code yX7_layTrial cX7_layTrial 2 none ∈ wsL_law := inT4 (List.mem_of_getElem? (i := 110) rfl) rfl
theorem mw_606 : Cond.methodLink RX7 193 yX7_tryThing ∈ wsL_law := inT4 (List.mem_of_getElem? (i := 111) rfl) rfl
theorem mw_607 : Cond.instanceMethod yX7_tryThing ∈ wsL_law := inT4 (List.mem_of_getElem? (i := 113) rfl) rfl
theorem mw_608 : Cond.selects RX7 yX7_tryThing yX7_tryThing ∈ wsL_law := inP2 (List.mem_of_getElem? (i := 7) rfl) rfl
theorem mw_609 : Cond.code yX7_tryThing cX7_tryThing 7 (some .boolean) ∈ wsL_law := inT4 (List.mem_of_getElem? (i := 114) rfl) rfl
theorem mw_610 : Cond.methodLink RL 97 yX6_see ∈ wsL_law := inT2 (List.mem_of_getElem? (i := 218) rfl) rfl
theorem mw_611 : Cond.instanceMethod yX6_see ∈ wsL_law := inT2 (List.mem_of_getElem? (i := 219) rfl) rfl
theorem mw_612 : Cond.selects RX6 yX6_see yX6_see ∈ wsL_law := inT2 (List.mem_of_getElem? (i := 220) rfl) rfl
theorem mw_613 : Cond.code yX6_see cX6_see 3 (some .int) ∈ wsL_law := inT2 (List.mem_of_getElem? (i := 221) rfl) rfl
theorem mw_614 : Cond.methodLink RX6 190 yX3_add ∈ wsL_law := inT2 (List.mem_of_getElem? (i := 222) rfl) rfl
theorem mw_615 : Cond.instanceMethod yX3_add ∈ wsL_law := inT2 (List.mem_of_getElem? (i := 223) rfl) rfl
theorem mw_616 : Cond.selects RX3 yX3_add yX3_add ∈ wsL_law := inT2 (List.mem_of_getElem? (i := 224) rfl) rfl
theorem mw_617 : Cond.code yX3_add cX3_add 3 (some .boolean) ∈ wsL_law := inT2 (List.mem_of_getElem? (i := 225) rfl) rfl
theorem mw_618 : Cond.methodLink RX6 193 yX3_size ∈ wsL_law := inT2 (List.mem_of_getElem? (i := 226) rfl) rfl
theorem mw_619 : Cond.instanceMethod yX3_size ∈ wsL_law := inT2 (List.mem_of_getElem? (i := 227) rfl) rfl
theorem mw_620 : Cond.selects RX3 yX3_size yX3_size ∈ wsL_law := inT2 (List.mem_of_getElem? (i := 228) rfl) rfl
theorem mw_621 : Cond.code yX3_size cX3_size 1 (some .int) ∈ wsL_law := inT2 (List.mem_of_getElem? (i := 229) rfl) rfl
theorem mw_622 : Cond.methodLink RL 100 yX7_see ∈ wsL_law := inT4 (List.mem_of_getElem? (i := 115) rfl) rfl
theorem mw_623 : Cond.instanceMethod yX7_see ∈ wsL_law := inT4 (List.mem_of_getElem? (i := 116) rfl) rfl
theorem mw_624 : Cond.selects RX7 yX7_see yX7_see ∈ wsL_law := inT4 (List.mem_of_getElem? (i := 117) rfl) rfl
theorem mw_625 : Cond.code yX7_see cX7_see 3 (some .int) ∈ wsL_law := inT4 (List.mem_of_getElem? (i := 118) rfl) rfl
theorem mw_626 : Cond.fieldLink RX7 196 "QuarterWordsModel" "seen" "I" ∈ wsL_law := inT3 (List.mem_of_getElem? (i := 121) rfl) rfl
theorem mw_627 : Cond.methodLink RL 101 yX6_unsee ∈ wsL_law := inT2 (List.mem_of_getElem? (i := 230) rfl) rfl
theorem mw_628 : Cond.instanceMethod yX6_unsee ∈ wsL_law := inT2 (List.mem_of_getElem? (i := 231) rfl) rfl
theorem mw_629 : Cond.selects RX6 yX6_unsee yX6_unsee ∈ wsL_law := inT2 (List.mem_of_getElem? (i := 232) rfl) rfl
theorem mw_630 : Cond.code yX6_unsee cX6_unsee 2 (some .int) ∈ wsL_law := inT2 (List.mem_of_getElem? (i := 233) rfl) rfl
theorem mw_631 : Cond.methodLink RX6 194 yX3_clear ∈ wsL_law := inT2 (List.mem_of_getElem? (i := 234) rfl) rfl
theorem mw_632 : Cond.instanceMethod yX3_clear ∈ wsL_law := inT2 (List.mem_of_getElem? (i := 235) rfl) rfl
theorem mw_633 : Cond.selects RX3 yX3_clear yX3_clear ∈ wsL_law := inT2 (List.mem_of_getElem? (i := 236) rfl) rfl
theorem mw_634 : Cond.code yX3_clear cX3_clear 1 none ∈ wsL_law := inT2 (List.mem_of_getElem? (i := 237) rfl) rfl
theorem mw_635 : Cond.methodLink RL 104 yX7_unsee ∈ wsL_law := inT4 (List.mem_of_getElem? (i := 119) rfl) rfl
theorem mw_636 : Cond.instanceMethod yX7_unsee ∈ wsL_law := inT4 (List.mem_of_getElem? (i := 120) rfl) rfl
theorem mw_637 : Cond.selects RX7 yX7_unsee yX7_unsee ∈ wsL_law := inT4 (List.mem_of_getElem? (i := 121) rfl) rfl
theorem mw_638 : Cond.code yX7_unsee cX7_unsee 2 (some .int) ∈ wsL_law := inT4 (List.mem_of_getElem? (i := 122) rfl) rfl
theorem mw_639 : Cond.methodLink RL 105 yX6_leaves ∈ wsL_law := inT2 (List.mem_of_getElem? (i := 238) rfl) rfl
theorem mw_640 : Cond.instanceMethod yX6_leaves ∈ wsL_law := inT2 (List.mem_of_getElem? (i := 239) rfl) rfl
theorem mw_641 : Cond.selects RX6 yX6_leaves yX6_leaves ∈ wsL_law := inT3 (List.mem_of_getElem? (i := 0) rfl) rfl
theorem mw_642 : Cond.code yX6_leaves cX6_leaves 2 (some .int) ∈ wsL_law := inT3 (List.mem_of_getElem? (i := 1) rfl) rfl
theorem mw_643 : Cond.methodLink RX6 195 yX3_fits ∈ wsL_law := inT3 (List.mem_of_getElem? (i := 2) rfl) rfl
theorem mw_644 : Cond.instanceMethod yX3_fits ∈ wsL_law := inT3 (List.mem_of_getElem? (i := 3) rfl) rfl
theorem mw_645 : Cond.selects RX3 yX3_fits yX3_fits ∈ wsL_law := inT3 (List.mem_of_getElem? (i := 4) rfl) rfl
theorem mw_646 : Cond.code yX3_fits cX3_fits 5 (some .int) ∈ wsL_law := inT3 (List.mem_of_getElem? (i := 5) rfl) rfl
theorem mw_647 : Cond.fieldLink RX3 23 "QuarterWords$Sight" "LEAVES" "[I" ∈ wsL_law := inT3 (List.mem_of_getElem? (i := 6) rfl) rfl
theorem mw_648 : Cond.methodLink RX3 26 yX3_isSo ∈ wsL_law := inT3 (List.mem_of_getElem? (i := 8) rfl) rfl
theorem mw_649 : Cond.instanceMethod yX3_isSo ∈ wsL_law := inT3 (List.mem_of_getElem? (i := 10) rfl) rfl
theorem mw_650 : Cond.selects RX3 yX3_isSo yX3_isSo ∈ wsL_law := inP1 (List.mem_of_getElem? (i := 10) rfl) rfl
theorem mw_651 : Cond.code yX3_isSo cX3_isSo 5 (some .boolean) ∈ wsL_law := inT3 (List.mem_of_getElem? (i := 11) rfl) rfl
theorem mw_652 : Cond.methodLink RX3 34 yX2_quarterCells ∈ wsL_law := inT3 (List.mem_of_getElem? (i := 12) rfl) rfl
theorem mw_653 : Cond.static yX2_quarterCells ∈ wsL_law := inT3 (List.mem_of_getElem? (i := 13) rfl) rfl
theorem mw_654 : Cond.code yX2_quarterCells cX2_quarterCells 1 (some .long) ∈ wsL_law := inT3 (List.mem_of_getElem? (i := 14) rfl) rfl
theorem mw_655 : Cond.methodLink RX3 40 yX2_isBlack ∈ wsL_law := inT3 (List.mem_of_getElem? (i := 15) rfl) rfl
theorem mw_656 : Cond.methodLink RX3 44 yX2_pattern ∈ wsL_law := inT3 (List.mem_of_getElem? (i := 16) rfl) rfl
theorem mw_657 : Cond.methodLink RX6 198 yX3_firstFit ∈ wsL_law := inT3 (List.mem_of_getElem? (i := 17) rfl) rfl
theorem mw_658 : Cond.instanceMethod yX3_firstFit ∈ wsL_law := inT3 (List.mem_of_getElem? (i := 18) rfl) rfl
theorem mw_659 : Cond.selects RX3 yX3_firstFit yX3_firstFit ∈ wsL_law := inT3 (List.mem_of_getElem? (i := 19) rfl) rfl
theorem mw_660 : Cond.code yX3_firstFit cX3_firstFit 4 (some .int) ∈ wsL_law := inT3 (List.mem_of_getElem? (i := 20) rfl) rfl
theorem mw_661 : Cond.methodLink RX3 30 yX3_firstFigure ∈ wsL_law := inT3 (List.mem_of_getElem? (i := 21) rfl) rfl
theorem mw_662 : Cond.instanceMethod yX3_firstFigure ∈ wsL_law := inT3 (List.mem_of_getElem? (i := 23) rfl) rfl
theorem mw_663 : Cond.selects RX3 yX3_firstFigure yX3_firstFigure ∈ wsL_law := inP1 (List.mem_of_getElem? (i := 11) rfl) rfl
theorem mw_664 : Cond.code yX3_firstFigure cX3_firstFigure 3 (some .int) ∈ wsL_law := inT3 (List.mem_of_getElem? (i := 24) rfl) rfl
theorem mw_665 : Cond.methodLink RL 108 yX7_leaves ∈ wsL_law := inT4 (List.mem_of_getElem? (i := 123) rfl) rfl
theorem mw_666 : Cond.instanceMethod yX7_leaves ∈ wsL_law := inT4 (List.mem_of_getElem? (i := 124) rfl) rfl
theorem mw_667 : Cond.selects RX7 yX7_leaves yX7_leaves ∈ wsL_law := inT4 (List.mem_of_getElem? (i := 125) rfl) rfl
theorem mw_668 : Cond.code yX7_leaves cX7_leaves 5 (some .int) ∈ wsL_law := inT4 (List.mem_of_getElem? (i := 126) rfl) rfl
theorem mw_669 : Cond.methodLink RX7 202 yX7_mayBe ∈ wsL_law := inT4 (List.mem_of_getElem? (i := 127) rfl) rfl
theorem mw_670 : Cond.instanceMethod yX7_mayBe ∈ wsL_law := inT4 (List.mem_of_getElem? (i := 129) rfl) rfl
theorem mw_671 : Cond.selects RX7 yX7_mayBe yX7_mayBe ∈ wsL_law := inP2 (List.mem_of_getElem? (i := 8) rfl) rfl
theorem mw_672 : Cond.code yX7_mayBe cX7_mayBe 8 (some .boolean) ∈ wsL_law := inT4 (List.mem_of_getElem? (i := 130) rfl) rfl
theorem mw_673 : Cond.methodLink RX7 199 yX7_leafLetter ∈ wsL_law := inT4 (List.mem_of_getElem? (i := 131) rfl) rfl
theorem mw_674 : Cond.static yX7_leafLetter ∈ wsL_law := inT4 (List.mem_of_getElem? (i := 132) rfl) rfl
theorem mw_675 : Cond.code yX7_leafLetter cX7_leafLetter 1 (some .int) ∈ wsL_law := inT4 (List.mem_of_getElem? (i := 133) rfl) rfl
theorem mw_676 : Cond.methodLink RX7 205 yX7_figuresOf ∈ wsL_law := inT4 (List.mem_of_getElem? (i := 134) rfl) rfl
theorem mw_677 : Cond.static yX7_figuresOf ∈ wsL_law := inT4 (List.mem_of_getElem? (i := 135) rfl) rfl
theorem mw_678 : Cond.code yX7_figuresOf cX7_figuresOf 1 (some .int) ∈ wsL_law := inT4 (List.mem_of_getElem? (i := 136) rfl) rfl
theorem mw_679 : Cond.methodLink RL 109 yX6_share ∈ wsL_law := inT3 (List.mem_of_getElem? (i := 25) rfl) rfl
theorem mw_680 : Cond.instanceMethod yX6_share ∈ wsL_law := inT3 (List.mem_of_getElem? (i := 26) rfl) rfl
theorem mw_681 : Cond.selects RX6 yX6_share yX6_share ∈ wsL_law := inT3 (List.mem_of_getElem? (i := 27) rfl) rfl
theorem mw_682 : Cond.code yX6_share cX6_share 5 (some .int) ∈ wsL_law := inT3 (List.mem_of_getElem? (i := 28) rfl) rfl
theorem mw_683 : Cond.methodLink RX6 201 yX1_blackIn ∈ wsL_law := inT3 (List.mem_of_getElem? (i := 29) rfl) rfl
theorem mw_684 : Cond.instanceMethod yX1_blackIn ∈ wsL_law := inT3 (List.mem_of_getElem? (i := 30) rfl) rfl
theorem mw_685 : Cond.selects RX1 yX1_blackIn yX1_blackIn ∈ wsL_law := inT3 (List.mem_of_getElem? (i := 31) rfl) rfl
theorem mw_686 : Cond.code yX1_blackIn cX1_blackIn 4 (some .int) ∈ wsL_law := inT3 (List.mem_of_getElem? (i := 32) rfl) rfl
theorem mw_687 : Cond.methodLink RX1 33 yX2_isBlack ∈ wsL_law := inT3 (List.mem_of_getElem? (i := 33) rfl) rfl
theorem mw_688 : Cond.methodLink RX6 205 yX6_sixthsOfCell ∈ wsL_law := inT3 (List.mem_of_getElem? (i := 34) rfl) rfl
theorem mw_689 : Cond.static yX6_sixthsOfCell ∈ wsL_law := inT3 (List.mem_of_getElem? (i := 35) rfl) rfl
theorem mw_690 : Cond.code yX6_sixthsOfCell cX6_sixthsOfCell 1 (some .int) ∈ wsL_law := inT3 (List.mem_of_getElem? (i := 36) rfl) rfl
theorem mw_691 : Cond.methodLink RX6 208 yX6_told ∈ wsL_law := inT3 (List.mem_of_getElem? (i := 37) rfl) rfl
theorem mw_692 : Cond.static yX6_told ∈ wsL_law := inT3 (List.mem_of_getElem? (i := 38) rfl) rfl
theorem mw_693 : Cond.code yX6_told cX6_told 5 (some .int) ∈ wsL_law := inT3 (List.mem_of_getElem? (i := 39) rfl) rfl
theorem mw_694 : Cond.methodLink RX6 260 yX6_commonDivisor ∈ wsL_law := inT3 (List.mem_of_getElem? (i := 40) rfl) rfl
theorem mw_695 : Cond.static yX6_commonDivisor ∈ wsL_law := inT3 (List.mem_of_getElem? (i := 41) rfl) rfl
theorem mw_696 : Cond.code yX6_commonDivisor cX6_commonDivisor 6 (some .int) ∈ wsL_law := inT3 (List.mem_of_getElem? (i := 42) rfl) rfl
theorem mw_697 : Cond.methodLink RL 113 yX7_share ∈ wsL_law := inT4 (List.mem_of_getElem? (i := 137) rfl) rfl
theorem mw_698 : Cond.instanceMethod yX7_share ∈ wsL_law := inT4 (List.mem_of_getElem? (i := 138) rfl) rfl
theorem mw_699 : Cond.selects RX7 yX7_share yX7_share ∈ wsL_law := inT4 (List.mem_of_getElem? (i := 139) rfl) rfl
theorem mw_700 : Cond.code yX7_share cX7_share 6 (some .int) ∈ wsL_law := inT4 (List.mem_of_getElem? (i := 140) rfl) rfl
theorem mw_701 : Cond.methodLink RX7 208 yX7_areaBy ∈ wsL_law := inT4 (List.mem_of_getElem? (i := 141) rfl) rfl
theorem mw_702 : Cond.instanceMethod yX7_areaBy ∈ wsL_law := inT4 (List.mem_of_getElem? (i := 143) rfl) rfl
theorem mw_703 : Cond.selects RX7 yX7_areaBy yX7_areaBy ∈ wsL_law := inP2 (List.mem_of_getElem? (i := 9) rfl) rfl
theorem mw_704 : Cond.code yX7_areaBy cX7_areaBy 5 (some .int) ∈ wsL_law := inT4 (List.mem_of_getElem? (i := 144) rfl) rfl
theorem mw_705 : Cond.methodLink RX7 211 yX7_common ∈ wsL_law := inT4 (List.mem_of_getElem? (i := 145) rfl) rfl
theorem mw_706 : Cond.static yX7_common ∈ wsL_law := inT4 (List.mem_of_getElem? (i := 146) rfl) rfl
theorem mw_707 : Cond.code yX7_common cX7_common 5 (some .int) ∈ wsL_law := inT4 (List.mem_of_getElem? (i := 147) rfl) rfl
theorem mw_708 : Cond.methodLink RL 114 yX6_rests ∈ wsL_law := inT3 (List.mem_of_getElem? (i := 43) rfl) rfl
theorem mw_709 : Cond.instanceMethod yX6_rests ∈ wsL_law := inT3 (List.mem_of_getElem? (i := 44) rfl) rfl
theorem mw_710 : Cond.selects RX6 yX6_rests yX6_rests ∈ wsL_law := inT3 (List.mem_of_getElem? (i := 45) rfl) rfl
theorem mw_711 : Cond.code yX6_rests cX6_rests 7 (some .int) ∈ wsL_law := inT3 (List.mem_of_getElem? (i := 46) rfl) rfl
theorem mw_712 : Cond.methodLink RX6 212 yX6_isRest ∈ wsL_law := inT3 (List.mem_of_getElem? (i := 47) rfl) rfl
theorem mw_713 : Cond.instanceMethod yX6_isRest ∈ wsL_law := inT3 (List.mem_of_getElem? (i := 49) rfl) rfl
theorem mw_714 : Cond.selects RX6 yX6_isRest yX6_isRest ∈ wsL_law := inP1 (List.mem_of_getElem? (i := 12) rfl) rfl
theorem mw_715 : Cond.code yX6_isRest cX6_isRest 15 (some .boolean) ∈ wsL_law := inT3 (List.mem_of_getElem? (i := 50) rfl) rfl
theorem mw_716 : Cond.methodLink RX6 250 yX2_byWay ∈ wsL_law := inT3 (List.mem_of_getElem? (i := 51) rfl) rfl
theorem mw_717 : Cond.methodLink RX6 253 yX6_gain ∈ wsL_law := inT3 (List.mem_of_getElem? (i := 52) rfl) rfl
theorem mw_718 : Cond.static yX6_gain ∈ wsL_law := inT3 (List.mem_of_getElem? (i := 53) rfl) rfl
theorem mw_719 : Cond.code yX6_gain cX6_gain 6 (some .int) ∈ wsL_law := inT3 (List.mem_of_getElem? (i := 54) rfl) rfl
theorem mw_720 : Cond.methodLink RL 117 yX7_rests ∈ wsL_law := inT4 (List.mem_of_getElem? (i := 148) rfl) rfl
theorem mw_721 : Cond.instanceMethod yX7_rests ∈ wsL_law := inT4 (List.mem_of_getElem? (i := 149) rfl) rfl
theorem mw_722 : Cond.selects RX7 yX7_rests yX7_rests ∈ wsL_law := inT4 (List.mem_of_getElem? (i := 150) rfl) rfl
theorem mw_723 : Cond.code yX7_rests cX7_rests 7 (some .int) ∈ wsL_law := inT4 (List.mem_of_getElem? (i := 151) rfl) rfl
theorem mw_724 : Cond.methodLink RX7 218 yX7_isRest ∈ wsL_law := inT4 (List.mem_of_getElem? (i := 152) rfl) rfl
theorem mw_725 : Cond.instanceMethod yX7_isRest ∈ wsL_law := inT4 (List.mem_of_getElem? (i := 154) rfl) rfl
theorem mw_726 : Cond.selects RX7 yX7_isRest yX7_isRest ∈ wsL_law := inP2 (List.mem_of_getElem? (i := 10) rfl) rfl
theorem mw_727 : Cond.code yX7_isRest cX7_isRest 5 (some .boolean) ∈ wsL_law := inT4 (List.mem_of_getElem? (i := 155) rfl) rfl
theorem mw_728 : Cond.methodLink RX7 214 yX7_gain ∈ wsL_law := inT4 (List.mem_of_getElem? (i := 156) rfl) rfl
theorem mw_729 : Cond.instanceMethod yX7_gain ∈ wsL_law := inT4 (List.mem_of_getElem? (i := 158) rfl) rfl
theorem mw_730 : Cond.selects RX7 yX7_gain yX7_gain ∈ wsL_law := inP2 (List.mem_of_getElem? (i := 11) rfl) rfl
theorem mw_731 : Cond.code yX7_gain cX7_gain 9 (some .int) ∈ wsL_law := inT4 (List.mem_of_getElem? (i := 159) rfl) rfl
theorem mw_732 : Cond.methodLink RL 118 yX6_fades ∈ wsL_law := inT3 (List.mem_of_getElem? (i := 55) rfl) rfl
theorem mw_733 : Cond.instanceMethod yX6_fades ∈ wsL_law := inT3 (List.mem_of_getElem? (i := 56) rfl) rfl
theorem mw_734 : Cond.selects RX6 yX6_fades yX6_fades ∈ wsL_law := inT3 (List.mem_of_getElem? (i := 57) rfl) rfl
theorem mw_735 : Cond.code yX6_fades cX6_fades 7 (some .int) ∈ wsL_law := inT3 (List.mem_of_getElem? (i := 58) rfl) rfl
theorem mw_736 : Cond.methodLink RX6 216 yX6_areaLeft ∈ wsL_law := inT3 (List.mem_of_getElem? (i := 59) rfl) rfl
theorem mw_737 : Cond.static yX6_areaLeft ∈ wsL_law := inT3 (List.mem_of_getElem? (i := 60) rfl) rfl
theorem mw_738 : Cond.code yX6_areaLeft cX6_areaLeft 5 (some .int) ∈ wsL_law := inT3 (List.mem_of_getElem? (i := 61) rfl) rfl
theorem mw_739 : Cond.methodLink RX6 257 yX2_quarterCells ∈ wsL_law := inT3 (List.mem_of_getElem? (i := 62) rfl) rfl
theorem mw_740 : Cond.methodLink RX6 219 yX6_chanceOf ∈ wsL_law := inT3 (List.mem_of_getElem? (i := 63) rfl) rfl
theorem mw_741 : Cond.static yX6_chanceOf ∈ wsL_law := inT3 (List.mem_of_getElem? (i := 64) rfl) rfl
theorem mw_742 : Cond.code yX6_chanceOf cX6_chanceOf 4 (some .int) ∈ wsL_law := inT3 (List.mem_of_getElem? (i := 65) rfl) rfl
theorem mw_743 : Cond.methodLink RL 122 yX7_fades ∈ wsL_law := inT4 (List.mem_of_getElem? (i := 160) rfl) rfl
theorem mw_744 : Cond.instanceMethod yX7_fades ∈ wsL_law := inT4 (List.mem_of_getElem? (i := 161) rfl) rfl
theorem mw_745 : Cond.selects RX7 yX7_fades yX7_fades ∈ wsL_law := inT4 (List.mem_of_getElem? (i := 162) rfl) rfl
theorem mw_746 : Cond.code yX7_fades cX7_fades 12 (some .int) ∈ wsL_law := inT4 (List.mem_of_getElem? (i := 163) rfl) rfl
theorem mw_747 : Cond.constantLong RX7 222 (64) ∈ wsL_law := inT4 (List.mem_of_getElem? (i := 164) rfl) rfl
theorem mw_748 : Cond.constantLong RX7 224 (10) ∈ wsL_law := inT4 (List.mem_of_getElem? (i := 165) rfl) rfl
theorem mw_749 : Cond.methodLink RL 123 yX6_seed ∈ wsL_law := inT3 (List.mem_of_getElem? (i := 66) rfl) rfl
theorem mw_750 : Cond.instanceMethod yX6_seed ∈ wsL_law := inT3 (List.mem_of_getElem? (i := 67) rfl) rfl
theorem mw_751 : Cond.selects RX6 yX6_seed yX6_seed ∈ wsL_law := inT3 (List.mem_of_getElem? (i := 68) rfl) rfl
theorem mw_752 : Cond.code yX6_seed cX6_seed 5 (some .long) ∈ wsL_law := inT3 (List.mem_of_getElem? (i := 69) rfl) rfl
theorem mw_753 : Cond.methodLink RL 127 yX7_seed ∈ wsL_law := inT4 (List.mem_of_getElem? (i := 166) rfl) rfl
theorem mw_754 : Cond.instanceMethod yX7_seed ∈ wsL_law := inT4 (List.mem_of_getElem? (i := 167) rfl) rfl
theorem mw_755 : Cond.selects RX7 yX7_seed yX7_seed ∈ wsL_law := inT4 (List.mem_of_getElem? (i := 168) rfl) rfl
theorem mw_756 : Cond.code yX7_seed cX7_seed 5 (some .long) ∈ wsL_law := inT4 (List.mem_of_getElem? (i := 169) rfl) rfl
theorem mw_757 : Cond.fieldLink RX7 226 "QuarterWordsModel" "seed" "J" ∈ wsL_law := inT3 (List.mem_of_getElem? (i := 124) rfl) rfl
theorem mw_758 : Cond.methodLink RL 128 yX6_years ∈ wsL_law := inT3 (List.mem_of_getElem? (i := 70) rfl) rfl
theorem mw_759 : Cond.instanceMethod yX6_years ∈ wsL_law := inT3 (List.mem_of_getElem? (i := 71) rfl) rfl
theorem mw_760 : Cond.selects RX6 yX6_years yX6_years ∈ wsL_law := inT3 (List.mem_of_getElem? (i := 72) rfl) rfl
theorem mw_761 : Cond.code yX6_years cX6_years 4 (some .int) ∈ wsL_law := inT3 (List.mem_of_getElem? (i := 73) rfl) rfl
theorem mw_762 : Cond.constantLong RX6 223 (6364136223846793005) ∈ wsL_law := inT3 (List.mem_of_getElem? (i := 74) rfl) rfl
theorem mw_763 : Cond.constantLong RX6 225 (1442695040888963407) ∈ wsL_law := inT3 (List.mem_of_getElem? (i := 75) rfl) rfl
theorem mw_764 : Cond.constantLong RX6 227 (36) ∈ wsL_law := inT3 (List.mem_of_getElem? (i := 76) rfl) rfl
theorem mw_765 : Cond.methodLink RX6 229 yX6_passYear ∈ wsL_law := inT3 (List.mem_of_getElem? (i := 77) rfl) rfl
theorem mw_766 : Cond.instanceMethod yX6_passYear ∈ wsL_law := inT3 (List.mem_of_getElem? (i := 79) rfl) rfl
theorem mw_767 : Cond.selects RX6 yX6_passYear yX6_passYear ∈ wsL_law := inP1 (List.mem_of_getElem? (i := 13) rfl) rfl
theorem mw_768 : Cond.code yX6_passYear cX6_passYear 2 none ∈ wsL_law := inT3 (List.mem_of_getElem? (i := 80) rfl) rfl
theorem mw_769 : Cond.methodLink RX6 233 yX1_area ∈ wsL_law := inT3 (List.mem_of_getElem? (i := 81) rfl) rfl
theorem mw_770 : Cond.instanceMethod yX1_area ∈ wsL_law := inT3 (List.mem_of_getElem? (i := 82) rfl) rfl
theorem mw_771 : Cond.selects RX1 yX1_area yX1_area ∈ wsL_law := inT3 (List.mem_of_getElem? (i := 83) rfl) rfl
theorem mw_772 : Cond.code yX1_area cX1_area 3 (some .int) ∈ wsL_law := inT3 (List.mem_of_getElem? (i := 84) rfl) rfl
theorem mw_773 : Cond.methodLink RX1 27 yJ13_bitCount_95d88 ∈ wsL_law := inT3 (List.mem_of_getElem? (i := 85) rfl) rfl
theorem mw_774 : Cond.methodLink RL 131 yX7_years ∈ wsL_law := inT4 (List.mem_of_getElem? (i := 170) rfl) rfl
theorem mw_775 : Cond.instanceMethod yX7_years ∈ wsL_law := inT4 (List.mem_of_getElem? (i := 171) rfl) rfl
theorem mw_776 : Cond.selects RX7 yX7_years yX7_years ∈ wsL_law := inT4 (List.mem_of_getElem? (i := 172) rfl) rfl
theorem mw_777 : Cond.code yX7_years cX7_years 5 (some .int) ∈ wsL_law := inT4 (List.mem_of_getElem? (i := 173) rfl) rfl
theorem mw_778 : Cond.constantLong RX7 229 (30) ∈ wsL_law := inT4 (List.mem_of_getElem? (i := 174) rfl) rfl
theorem mw_779 : Cond.constantLong RX7 231 (6364136223846793005) ∈ wsL_law := inT4 (List.mem_of_getElem? (i := 175) rfl) rfl
theorem mw_780 : Cond.constantLong RX7 233 (1442695040888963407) ∈ wsL_law := inT4 (List.mem_of_getElem? (i := 176) rfl) rfl
theorem mw_781 : Cond.constantLong RX7 235 (36) ∈ wsL_law := inT4 (List.mem_of_getElem? (i := 177) rfl) rfl
theorem mw_782 : Cond.methodLink RX7 237 yX7_areaOf ∈ wsL_law := inT4 (List.mem_of_getElem? (i := 178) rfl) rfl
theorem mw_783 : Cond.instanceMethod yX7_areaOf ∈ wsL_law := inT4 (List.mem_of_getElem? (i := 180) rfl) rfl
theorem mw_784 : Cond.selects RX7 yX7_areaOf yX7_areaOf ∈ wsL_law := inP2 (List.mem_of_getElem? (i := 12) rfl) rfl
theorem mw_785 : Cond.code yX7_areaOf cX7_areaOf 3 (some .int) ∈ wsL_law := inT4 (List.mem_of_getElem? (i := 181) rfl) rfl
theorem mw_786 : Cond.methodLink RL 132 yX6_keep ∈ wsL_law := inT3 (List.mem_of_getElem? (i := 86) rfl) rfl
theorem mw_787 : Cond.instanceMethod yX6_keep ∈ wsL_law := inT3 (List.mem_of_getElem? (i := 87) rfl) rfl
theorem mw_788 : Cond.selects RX6 yX6_keep yX6_keep ∈ wsL_law := inT3 (List.mem_of_getElem? (i := 88) rfl) rfl
theorem mw_789 : Cond.code yX6_keep cX6_keep 3 (some .int) ∈ wsL_law := inT3 (List.mem_of_getElem? (i := 89) rfl) rfl
theorem mw_790 : Cond.methodLink RL 135 yX7_keep ∈ wsL_law := inT4 (List.mem_of_getElem? (i := 182) rfl) rfl
theorem mw_791 : Cond.instanceMethod yX7_keep ∈ wsL_law := inT4 (List.mem_of_getElem? (i := 183) rfl) rfl
theorem mw_792 : Cond.selects RX7 yX7_keep yX7_keep ∈ wsL_law := inT4 (List.mem_of_getElem? (i := 184) rfl) rfl
theorem mw_793 : Cond.code yX7_keep cX7_keep 3 (some .int) ∈ wsL_law := inT4 (List.mem_of_getElem? (i := 185) rfl) rfl
theorem mw_794 : Cond.methodLink RL 136 yX6_again ∈ wsL_law := inT3 (List.mem_of_getElem? (i := 90) rfl) rfl
theorem mw_795 : Cond.instanceMethod yX6_again ∈ wsL_law := inT3 (List.mem_of_getElem? (i := 91) rfl) rfl
theorem mw_796 : Cond.selects RX6 yX6_again yX6_again ∈ wsL_law := inT3 (List.mem_of_getElem? (i := 92) rfl) rfl
theorem mw_797 : Cond.code yX6_again cX6_again 3 (some .int) ∈ wsL_law := inT3 (List.mem_of_getElem? (i := 93) rfl) rfl
theorem mw_798 : Cond.methodLink RX6 236 yX0_clear ∈ wsL_law := inT3 (List.mem_of_getElem? (i := 94) rfl) rfl
theorem mw_799 : Cond.instanceMethod yX0_clear ∈ wsL_law := inT3 (List.mem_of_getElem? (i := 95) rfl) rfl
theorem mw_800 : Cond.selects RX0 yX0_clear yX0_clear ∈ wsL_law := inT3 (List.mem_of_getElem? (i := 96) rfl) rfl
theorem mw_801 : Cond.code yX0_clear cX0_clear 1 none ∈ wsL_law := inT3 (List.mem_of_getElem? (i := 97) rfl) rfl
theorem mw_802 : Cond.methodLink RL 139 yX7_again ∈ wsL_law := inT4 (List.mem_of_getElem? (i := 186) rfl) rfl
theorem mw_803 : Cond.instanceMethod yX7_again ∈ wsL_law := inT4 (List.mem_of_getElem? (i := 187) rfl) rfl
theorem mw_804 : Cond.selects RX7 yX7_again yX7_again ∈ wsL_law := inT4 (List.mem_of_getElem? (i := 188) rfl) rfl
theorem mw_805 : Cond.code yX7_again cX7_again 3 (some .int) ∈ wsL_law := inT4 (List.mem_of_getElem? (i := 189) rfl) rfl
theorem mw_806 : Cond.methodLink RL 140 yX6_count ∈ wsL_law := inT3 (List.mem_of_getElem? (i := 98) rfl) rfl
theorem mw_807 : Cond.instanceMethod yX6_count ∈ wsL_law := inT3 (List.mem_of_getElem? (i := 99) rfl) rfl
theorem mw_808 : Cond.selects RX6 yX6_count yX6_count ∈ wsL_law := inT3 (List.mem_of_getElem? (i := 100) rfl) rfl
theorem mw_809 : Cond.code yX6_count cX6_count 2 (some .int) ∈ wsL_law := inT3 (List.mem_of_getElem? (i := 101) rfl) rfl
theorem mw_810 : Cond.methodLink RL 143 yX7_count ∈ wsL_law := inT4 (List.mem_of_getElem? (i := 190) rfl) rfl
theorem mw_811 : Cond.instanceMethod yX7_count ∈ wsL_law := inT4 (List.mem_of_getElem? (i := 191) rfl) rfl
theorem mw_812 : Cond.selects RX7 yX7_count yX7_count ∈ wsL_law := inT4 (List.mem_of_getElem? (i := 192) rfl) rfl
theorem mw_813 : Cond.code yX7_count cX7_count 2 (some .int) ∈ wsL_law := inT4 (List.mem_of_getElem? (i := 193) rfl) rfl
theorem mw_814 : Cond.laysFinal RX0 "QuarterWords$Acts" "changed" "[I" ∈ wsL_law := inT1 (List.mem_of_getElem? (i := 73) rfl) rfl
theorem mw_815 : Cond.laysFinal RX0 "QuarterWords$Acts" "before" "[J" ∈ wsL_law := inT1 (List.mem_of_getElem? (i := 75) rfl) rfl
theorem mw_816 : Cond.lays RX0 "QuarterWords$Acts" "size" "I" ∈ wsL_law := inT1 (List.mem_of_getElem? (i := 77) rfl) rfl
theorem inlX0 : ∀ w ∈ wsX00, w ∈ wsL_law := by
  intro w hw
  obtain ⟨j, hj, rfl⟩ := List.mem_map.mp hw
  have hj := List.mem_range.mp hj
  match j, hj with
  | 0, _ => exact mw_814
  | 1, _ => exact mw_815
  | 2, _ => exact mw_816
  | j + 3, h => exact absurd h (by omega)
theorem mw_817 : Cond.laysFinal RX1 "QuarterWords$Album" "pictures" "[J" ∈ wsL_law := inT1 (List.mem_of_getElem? (i := 26) rfl) rfl
theorem inlX1 : ∀ w ∈ wsX10, w ∈ wsL_law := by
  intro w hw
  obtain ⟨j, hj, rfl⟩ := List.mem_map.mp hw
  have hj := List.mem_range.mp hj
  match j, hj with
  | 0, _ => exact mw_817
  | j + 1, h => exact absurd h (by omega)
theorem mw_818 : Cond.laysFinal RX3 "QuarterWords$Sight" "cells" "[I" ∈ wsL_law := inT1 (List.mem_of_getElem? (i := 89) rfl) rfl
theorem mw_819 : Cond.laysFinal RX3 "QuarterWords$Sight" "blacks" "[Z" ∈ wsL_law := inT1 (List.mem_of_getElem? (i := 91) rfl) rfl
theorem mw_820 : Cond.lays RX3 "QuarterWords$Sight" "size" "I" ∈ wsL_law := inT1 (List.mem_of_getElem? (i := 93) rfl) rfl
theorem inlX3 : ∀ w ∈ wsX30, w ∈ wsL_law := by
  intro w hw
  obtain ⟨j, hj, rfl⟩ := List.mem_map.mp hw
  have hj := List.mem_range.mp hj
  match j, hj with
  | 0, _ => exact mw_818
  | 1, _ => exact mw_819
  | 2, _ => exact mw_820
  | j + 3, h => exact absurd h (by omega)
theorem mw_821 : Cond.laysFinal RX4 "QuarterWords$Text" "letters" "[I" ∈ wsL_law := inT1 (List.mem_of_getElem? (i := 55) rfl) rfl
theorem mw_822 : Cond.laysFinal RX4 "QuarterWords$Text" "walk" "LQuarterWords$Walk;" ∈ wsL_law := inT1 (List.mem_of_getElem? (i := 57) rfl) rfl
theorem mw_823 : Cond.lays RX4 "QuarterWords$Text" "size" "I" ∈ wsL_law := inT1 (List.mem_of_getElem? (i := 59) rfl) rfl
theorem mw_824 : Cond.lays RX4 "QuarterWords$Text" "drawn" "J" ∈ wsL_law := inT1 (List.mem_of_getElem? (i := 61) rfl) rfl
theorem inlX4 : ∀ w ∈ wsX40, w ∈ wsL_law := by
  intro w hw
  obtain ⟨j, hj, rfl⟩ := List.mem_map.mp hw
  have hj := List.mem_range.mp hj
  match j, hj with
  | 0, _ => exact mw_821
  | 1, _ => exact mw_822
  | 2, _ => exact mw_823
  | 3, _ => exact mw_824
  | j + 4, h => exact absurd h (by omega)
theorem mw_825 : Cond.lays RX5 "QuarterWords$Walk" "place" "I" ∈ wsL_law := inT1 (List.mem_of_getElem? (i := 45) rfl) rfl
theorem mw_826 : Cond.lays RX5 "QuarterWords$Walk" "depth" "I" ∈ wsL_law := inT1 (List.mem_of_getElem? (i := 47) rfl) rfl
theorem inlX5 : ∀ w ∈ wsX50, w ∈ wsL_law := by
  intro w hw
  obtain ⟨j, hj, rfl⟩ := List.mem_map.mp hw
  have hj := List.mem_range.mp hj
  match j, hj with
  | 0, _ => exact mw_825
  | 1, _ => exact mw_826
  | j + 2, h => exact absurd h (by omega)
theorem mw_827 : Cond.laysFinal RX6 "QuarterWords" "live" "LQuarterWords$Album;" ∈ wsL_law := inT1 (List.mem_of_getElem? (i := 108) rfl) rfl
theorem mw_828 : Cond.laysFinal RX6 "QuarterWords" "trial" "LQuarterWords$Album;" ∈ wsL_law := inT1 (List.mem_of_getElem? (i := 110) rfl) rfl
theorem mw_829 : Cond.laysFinal RX6 "QuarterWords" "slots" "[LQuarterWords$Album;" ∈ wsL_law := inT1 (List.mem_of_getElem? (i := 112) rfl) rfl
theorem mw_830 : Cond.laysFinal RX6 "QuarterWords" "text" "LQuarterWords$Text;" ∈ wsL_law := inT1 (List.mem_of_getElem? (i := 114) rfl) rfl
theorem mw_831 : Cond.laysFinal RX6 "QuarterWords" "acts" "LQuarterWords$Acts;" ∈ wsL_law := inT1 (List.mem_of_getElem? (i := 116) rfl) rfl
theorem mw_832 : Cond.laysFinal RX6 "QuarterWords" "sight" "LQuarterWords$Sight;" ∈ wsL_law := inT1 (List.mem_of_getElem? (i := 118) rfl) rfl
theorem mw_833 : Cond.laysFinal RX6 "QuarterWords" "walk" "LQuarterWords$Walk;" ∈ wsL_law := inT1 (List.mem_of_getElem? (i := 120) rfl) rfl
theorem mw_834 : Cond.laysFinal RX6 "QuarterWords" "doings" "[I" ∈ wsL_law := inT1 (List.mem_of_getElem? (i := 122) rfl) rfl
theorem mw_835 : Cond.lays RX6 "QuarterWords" "theSeed" "J" ∈ wsL_law := inT1 (List.mem_of_getElem? (i := 124) rfl) rfl
theorem inlX6 : ∀ w ∈ wsX60, w ∈ wsL_law := by
  intro w hw
  obtain ⟨j, hj, rfl⟩ := List.mem_map.mp hw
  have hj := List.mem_range.mp hj
  match j, hj with
  | 0, _ => exact mw_827
  | 1, _ => exact mw_828
  | 2, _ => exact mw_829
  | 3, _ => exact mw_830
  | 4, _ => exact mw_831
  | 5, _ => exact mw_832
  | 6, _ => exact mw_833
  | 7, _ => exact mw_834
  | 8, _ => exact mw_835
  | j + 9, h => exact absurd h (by omega)
theorem mw_836 : Cond.laysFinal RX7 "QuarterWordsModel" "text" "[I" ∈ wsL_law := inT3 (List.mem_of_getElem? (i := 127) rfl) rfl
theorem mw_837 : Cond.lays RX7 "QuarterWordsModel" "length" "I" ∈ wsL_law := inT3 (List.mem_of_getElem? (i := 129) rfl) rfl
theorem mw_838 : Cond.lays RX7 "QuarterWordsModel" "read" "J" ∈ wsL_law := inT3 (List.mem_of_getElem? (i := 131) rfl) rfl
theorem mw_839 : Cond.lays RX7 "QuarterWordsModel" "depth" "I" ∈ wsL_law := inT3 (List.mem_of_getElem? (i := 133) rfl) rfl
theorem mw_840 : Cond.lays RX7 "QuarterWordsModel" "place" "I" ∈ wsL_law := inT3 (List.mem_of_getElem? (i := 135) rfl) rfl
theorem mw_841 : Cond.laysFinal RX7 "QuarterWordsModel" "now" "[J" ∈ wsL_law := inT3 (List.mem_of_getElem? (i := 137) rfl) rfl
theorem mw_842 : Cond.lays RX7 "QuarterWordsModel" "acts" "I" ∈ wsL_law := inT3 (List.mem_of_getElem? (i := 139) rfl) rfl
theorem mw_843 : Cond.lays RX7 "QuarterWordsModel" "next" "I" ∈ wsL_law := inT3 (List.mem_of_getElem? (i := 141) rfl) rfl
theorem mw_844 : Cond.laysFinal RX7 "QuarterWordsModel" "row" "[J" ∈ wsL_law := inT3 (List.mem_of_getElem? (i := 143) rfl) rfl
theorem mw_845 : Cond.laysFinal RX7 "QuarterWordsModel" "letters" "[I" ∈ wsL_law := inT3 (List.mem_of_getElem? (i := 145) rfl) rfl
theorem mw_846 : Cond.laysFinal RX7 "QuarterWordsModel" "depthAt" "[I" ∈ wsL_law := inT3 (List.mem_of_getElem? (i := 147) rfl) rfl
theorem mw_847 : Cond.laysFinal RX7 "QuarterWordsModel" "letterAt" "[I" ∈ wsL_law := inT3 (List.mem_of_getElem? (i := 149) rfl) rfl
theorem mw_848 : Cond.lays RX7 "QuarterWordsModel" "lettersMany" "I" ∈ wsL_law := inT3 (List.mem_of_getElem? (i := 151) rfl) rfl
theorem mw_849 : Cond.lays RX7 "QuarterWordsModel" "seen" "I" ∈ wsL_law := inT3 (List.mem_of_getElem? (i := 153) rfl) rfl
theorem mw_850 : Cond.laysFinal RX7 "QuarterWordsModel" "seenCell" "[I" ∈ wsL_law := inT3 (List.mem_of_getElem? (i := 155) rfl) rfl
theorem mw_851 : Cond.laysFinal RX7 "QuarterWordsModel" "seenBlack" "[I" ∈ wsL_law := inT3 (List.mem_of_getElem? (i := 157) rfl) rfl
theorem mw_852 : Cond.lays RX7 "QuarterWordsModel" "seed" "J" ∈ wsL_law := inT3 (List.mem_of_getElem? (i := 159) rfl) rfl
theorem mw_853 : Cond.laysFinal RX7 "QuarterWordsModel" "isKept" "[Z" ∈ wsL_law := inT3 (List.mem_of_getElem? (i := 161) rfl) rfl
theorem mw_854 : Cond.laysFinal RX7 "QuarterWordsModel" "kept" "[J" ∈ wsL_law := inT3 (List.mem_of_getElem? (i := 163) rfl) rfl
theorem inlX7 : ∀ w ∈ wsX70, w ∈ wsL_law := by
  intro w hw
  obtain ⟨j, hj, rfl⟩ := List.mem_map.mp hw
  have hj := List.mem_range.mp hj
  match j, hj with
  | 0, _ => exact mw_836
  | 1, _ => exact mw_837
  | 2, _ => exact mw_838
  | 3, _ => exact mw_839
  | 4, _ => exact mw_840
  | 5, _ => exact mw_841
  | 6, _ => exact mw_842
  | 7, _ => exact mw_843
  | 8, _ => exact mw_844
  | 9, _ => exact mw_845
  | 10, _ => exact mw_846
  | 11, _ => exact mw_847
  | 12, _ => exact mw_848
  | 13, _ => exact mw_849
  | 14, _ => exact mw_850
  | 15, _ => exact mw_851
  | 16, _ => exact mw_852
  | 17, _ => exact mw_853
  | 18, _ => exact mw_854
  | j + 19, h => exact absurd h (by omega)
end
section
theorem dX0_init_0 : decode cX0_init 0 = .ok (.aload_n 0, 1) := by decide +kernel
theorem dX0_init_1 : decode cX0_init 1 = .ok (.invokespecial 3, 3) := by decide +kernel
theorem dX0_init_4 : decode cX0_init 4 = .ok (.aload_n 0, 1) := by decide +kernel
theorem dX0_init_5 : decode cX0_init 5 = .ok (.bipush 14, 2) := by decide +kernel
theorem dX0_init_7 : decode cX0_init 7 = .ok (.newarray .int, 2) := by decide +kernel
theorem dX0_init_9 : decode cX0_init 9 = .ok (.putfield 9, 3) := by decide +kernel
theorem dX0_init_12 : decode cX0_init 12 = .ok (.aload_n 0, 1) := by decide +kernel
theorem dX0_init_13 : decode cX0_init 13 = .ok (.bipush 14, 2) := by decide +kernel
theorem dX0_init_15 : decode cX0_init 15 = .ok (.newarray .long, 2) := by decide +kernel
theorem dX0_init_17 : decode cX0_init 17 = .ok (.putfield 15, 3) := by decide +kernel
theorem dX0_init_20 : decode cX0_init 20 = .ok (.aload_n 0, 1) := by decide +kernel
theorem dX0_init_21 : decode cX0_init 21 = .ok (.iconst 0, 1) := by decide +kernel
theorem dX0_init_22 : decode cX0_init 22 = .ok (.putfield 19, 3) := by decide +kernel
theorem dX0_init_25 : decode cX0_init 25 = .ok (.return_, 1) := by decide +kernel
theorem dX0_size_0 : decode cX0_size 0 = .ok (.aload_n 0, 1) := by decide +kernel
theorem dX0_size_1 : decode cX0_size 1 = .ok (.getfield 19, 3) := by decide +kernel
theorem dX0_size_4 : decode cX0_size 4 = .ok (.ireturn, 1) := by decide +kernel
theorem dX0_clear_0 : decode cX0_clear 0 = .ok (.aload_n 0, 1) := by decide +kernel
theorem dX0_clear_1 : decode cX0_clear 1 = .ok (.iconst 0, 1) := by decide +kernel
theorem dX0_clear_2 : decode cX0_clear 2 = .ok (.putfield 19, 3) := by decide +kernel
theorem dX0_clear_5 : decode cX0_clear 5 = .ok (.return_, 1) := by decide +kernel
theorem dX0_add_0 : decode cX0_add 0 = .ok (.aload_n 0, 1) := by decide +kernel
theorem dX0_add_1 : decode cX0_add 1 = .ok (.getfield 19, 3) := by decide +kernel
theorem dX0_add_4 : decode cX0_add 4 = .ok (.bipush 14, 2) := by decide +kernel
theorem dX0_add_6 : decode cX0_add 6 = .ok (.if_icmp .lt 7, 3) := by decide +kernel
theorem dX0_add_9 : decode cX0_add 9 = .ok (.aload_n 0, 1) := by decide +kernel
theorem dX0_add_10 : decode cX0_add 10 = .ok (.invokevirtual 23, 3) := by decide +kernel
theorem dX0_add_13 : decode cX0_add 13 = .ok (.aload_n 0, 1) := by decide +kernel
theorem dX0_add_14 : decode cX0_add 14 = .ok (.getfield 19, 3) := by decide +kernel
theorem dX0_add_17 : decode cX0_add 17 = .ok (.ifCond .lt 42, 3) := by decide +kernel
theorem dX0_add_20 : decode cX0_add 20 = .ok (.aload_n 0, 1) := by decide +kernel
theorem dX0_add_21 : decode cX0_add 21 = .ok (.getfield 19, 3) := by decide +kernel
theorem dX0_add_24 : decode cX0_add 24 = .ok (.bipush 14, 2) := by decide +kernel
theorem dX0_add_26 : decode cX0_add 26 = .ok (.if_icmp .ge 33, 3) := by decide +kernel
theorem dX0_add_29 : decode cX0_add 29 = .ok (.aload_n 0, 1) := by decide +kernel
theorem dX0_add_30 : decode cX0_add 30 = .ok (.getfield 9, 3) := by decide +kernel
theorem dX0_add_33 : decode cX0_add 33 = .ok (.aload_n 0, 1) := by decide +kernel
theorem dX0_add_34 : decode cX0_add 34 = .ok (.getfield 19, 3) := by decide +kernel
theorem dX0_add_37 : decode cX0_add 37 = .ok (.iload_n 1, 1) := by decide +kernel
theorem dX0_add_38 : decode cX0_add 38 = .ok (.iastore, 1) := by decide +kernel
theorem dX0_add_39 : decode cX0_add 39 = .ok (.aload_n 0, 1) := by decide +kernel
theorem dX0_add_40 : decode cX0_add 40 = .ok (.getfield 15, 3) := by decide +kernel
theorem dX0_add_43 : decode cX0_add 43 = .ok (.aload_n 0, 1) := by decide +kernel
theorem dX0_add_44 : decode cX0_add 44 = .ok (.getfield 19, 3) := by decide +kernel
theorem dX0_add_47 : decode cX0_add 47 = .ok (.lload_n 2, 1) := by decide +kernel
theorem dX0_add_48 : decode cX0_add 48 = .ok (.lastore, 1) := by decide +kernel
theorem dX0_add_49 : decode cX0_add 49 = .ok (.aload_n 0, 1) := by decide +kernel
theorem dX0_add_50 : decode cX0_add 50 = .ok (.dup, 1) := by decide +kernel
theorem dX0_add_51 : decode cX0_add 51 = .ok (.getfield 19, 3) := by decide +kernel
theorem dX0_add_54 : decode cX0_add 54 = .ok (.iconst 1, 1) := by decide +kernel
theorem dX0_add_55 : decode cX0_add 55 = .ok (.iadd, 1) := by decide +kernel
theorem dX0_add_56 : decode cX0_add 56 = .ok (.putfield 19, 3) := by decide +kernel
theorem dX0_add_59 : decode cX0_add 59 = .ok (.return_, 1) := by decide +kernel
theorem dX0_forgetFirst_0 : decode cX0_forgetFirst 0 = .ok (.iconst 1, 1) := by decide +kernel
theorem dX0_forgetFirst_1 : decode cX0_forgetFirst 1 = .ok (.istore_n 1, 1) := by decide +kernel
theorem dX0_forgetFirst_2 : decode cX0_forgetFirst 2 = .ok (.iload_n 1, 1) := by decide +kernel
theorem dX0_forgetFirst_3 : decode cX0_forgetFirst 3 = .ok (.bipush 14, 2) := by decide +kernel
theorem dX0_forgetFirst_5 : decode cX0_forgetFirst 5 = .ok (.if_icmp .ge 37, 3) := by decide +kernel
theorem dX0_forgetFirst_8 : decode cX0_forgetFirst 8 = .ok (.aload_n 0, 1) := by decide +kernel
theorem dX0_forgetFirst_9 : decode cX0_forgetFirst 9 = .ok (.getfield 9, 3) := by decide +kernel
theorem dX0_forgetFirst_12 : decode cX0_forgetFirst 12 = .ok (.iload_n 1, 1) := by decide +kernel
theorem dX0_forgetFirst_13 : decode cX0_forgetFirst 13 = .ok (.iconst 1, 1) := by decide +kernel
theorem dX0_forgetFirst_14 : decode cX0_forgetFirst 14 = .ok (.isub, 1) := by decide +kernel
theorem dX0_forgetFirst_15 : decode cX0_forgetFirst 15 = .ok (.aload_n 0, 1) := by decide +kernel
theorem dX0_forgetFirst_16 : decode cX0_forgetFirst 16 = .ok (.getfield 9, 3) := by decide +kernel
theorem dX0_forgetFirst_19 : decode cX0_forgetFirst 19 = .ok (.iload_n 1, 1) := by decide +kernel
theorem dX0_forgetFirst_20 : decode cX0_forgetFirst 20 = .ok (.iaload, 1) := by decide +kernel
theorem dX0_forgetFirst_21 : decode cX0_forgetFirst 21 = .ok (.iastore, 1) := by decide +kernel
theorem dX0_forgetFirst_22 : decode cX0_forgetFirst 22 = .ok (.aload_n 0, 1) := by decide +kernel
theorem dX0_forgetFirst_23 : decode cX0_forgetFirst 23 = .ok (.getfield 15, 3) := by decide +kernel
theorem dX0_forgetFirst_26 : decode cX0_forgetFirst 26 = .ok (.iload_n 1, 1) := by decide +kernel
theorem dX0_forgetFirst_27 : decode cX0_forgetFirst 27 = .ok (.iconst 1, 1) := by decide +kernel
theorem dX0_forgetFirst_28 : decode cX0_forgetFirst 28 = .ok (.isub, 1) := by decide +kernel
theorem dX0_forgetFirst_29 : decode cX0_forgetFirst 29 = .ok (.aload_n 0, 1) := by decide +kernel
theorem dX0_forgetFirst_30 : decode cX0_forgetFirst 30 = .ok (.getfield 15, 3) := by decide +kernel
theorem dX0_forgetFirst_33 : decode cX0_forgetFirst 33 = .ok (.iload_n 1, 1) := by decide +kernel
theorem dX0_forgetFirst_34 : decode cX0_forgetFirst 34 = .ok (.laload, 1) := by decide +kernel
theorem dX0_forgetFirst_35 : decode cX0_forgetFirst 35 = .ok (.lastore, 1) := by decide +kernel
theorem dX0_forgetFirst_36 : decode cX0_forgetFirst 36 = .ok (.iinc 1 1, 3) := by decide +kernel
theorem dX0_forgetFirst_39 : decode cX0_forgetFirst 39 = .ok (.goto (-37), 3) := by decide +kernel
theorem dX0_forgetFirst_42 : decode cX0_forgetFirst 42 = .ok (.aload_n 0, 1) := by decide +kernel
theorem dX0_forgetFirst_43 : decode cX0_forgetFirst 43 = .ok (.bipush 13, 2) := by decide +kernel
theorem dX0_forgetFirst_45 : decode cX0_forgetFirst 45 = .ok (.putfield 19, 3) := by decide +kernel
theorem dX0_forgetFirst_48 : decode cX0_forgetFirst 48 = .ok (.return_, 1) := by decide +kernel
theorem dX0_lastPicture_0 : decode cX0_lastPicture 0 = .ok (.aload_n 0, 1) := by decide +kernel
theorem dX0_lastPicture_1 : decode cX0_lastPicture 1 = .ok (.getfield 19, 3) := by decide +kernel
theorem dX0_lastPicture_4 : decode cX0_lastPicture 4 = .ok (.ifCond .le 26, 3) := by decide +kernel
theorem dX0_lastPicture_7 : decode cX0_lastPicture 7 = .ok (.aload_n 0, 1) := by decide +kernel
theorem dX0_lastPicture_8 : decode cX0_lastPicture 8 = .ok (.getfield 19, 3) := by decide +kernel
theorem dX0_lastPicture_11 : decode cX0_lastPicture 11 = .ok (.bipush 14, 2) := by decide +kernel
theorem dX0_lastPicture_13 : decode cX0_lastPicture 13 = .ok (.if_icmp .gt 17, 3) := by decide +kernel
theorem dX0_lastPicture_16 : decode cX0_lastPicture 16 = .ok (.aload_n 0, 1) := by decide +kernel
theorem dX0_lastPicture_17 : decode cX0_lastPicture 17 = .ok (.getfield 9, 3) := by decide +kernel
theorem dX0_lastPicture_20 : decode cX0_lastPicture 20 = .ok (.aload_n 0, 1) := by decide +kernel
theorem dX0_lastPicture_21 : decode cX0_lastPicture 21 = .ok (.getfield 19, 3) := by decide +kernel
theorem dX0_lastPicture_24 : decode cX0_lastPicture 24 = .ok (.iconst 1, 1) := by decide +kernel
theorem dX0_lastPicture_25 : decode cX0_lastPicture 25 = .ok (.isub, 1) := by decide +kernel
theorem dX0_lastPicture_26 : decode cX0_lastPicture 26 = .ok (.iaload, 1) := by decide +kernel
theorem dX0_lastPicture_27 : decode cX0_lastPicture 27 = .ok (.goto 5, 3) := by decide +kernel
theorem dX0_lastPicture_30 : decode cX0_lastPicture 30 = .ok (.bipush (-9), 2) := by decide +kernel
theorem dX0_lastPicture_32 : decode cX0_lastPicture 32 = .ok (.ireturn, 1) := by decide +kernel
theorem dX0_lastBefore_0 : decode cX0_lastBefore 0 = .ok (.aload_n 0, 1) := by decide +kernel
theorem dX0_lastBefore_1 : decode cX0_lastBefore 1 = .ok (.getfield 19, 3) := by decide +kernel
theorem dX0_lastBefore_4 : decode cX0_lastBefore 4 = .ok (.ifCond .le 26, 3) := by decide +kernel
theorem dX0_lastBefore_7 : decode cX0_lastBefore 7 = .ok (.aload_n 0, 1) := by decide +kernel
theorem dX0_lastBefore_8 : decode cX0_lastBefore 8 = .ok (.getfield 19, 3) := by decide +kernel
theorem dX0_lastBefore_11 : decode cX0_lastBefore 11 = .ok (.bipush 14, 2) := by decide +kernel
theorem dX0_lastBefore_13 : decode cX0_lastBefore 13 = .ok (.if_icmp .gt 17, 3) := by decide +kernel
theorem dX0_lastBefore_16 : decode cX0_lastBefore 16 = .ok (.aload_n 0, 1) := by decide +kernel
theorem dX0_lastBefore_17 : decode cX0_lastBefore 17 = .ok (.getfield 15, 3) := by decide +kernel
theorem dX0_lastBefore_20 : decode cX0_lastBefore 20 = .ok (.aload_n 0, 1) := by decide +kernel
theorem dX0_lastBefore_21 : decode cX0_lastBefore 21 = .ok (.getfield 19, 3) := by decide +kernel
theorem dX0_lastBefore_24 : decode cX0_lastBefore 24 = .ok (.iconst 1, 1) := by decide +kernel
theorem dX0_lastBefore_25 : decode cX0_lastBefore 25 = .ok (.isub, 1) := by decide +kernel
theorem dX0_lastBefore_26 : decode cX0_lastBefore 26 = .ok (.laload, 1) := by decide +kernel
theorem dX0_lastBefore_27 : decode cX0_lastBefore 27 = .ok (.goto 4, 3) := by decide +kernel
theorem dX0_lastBefore_30 : decode cX0_lastBefore 30 = .ok (.lconst 0, 1) := by decide +kernel
theorem dX0_lastBefore_31 : decode cX0_lastBefore 31 = .ok (.lreturn, 1) := by decide +kernel
theorem dX0_dropLast_0 : decode cX0_dropLast 0 = .ok (.aload_n 0, 1) := by decide +kernel
theorem dX0_dropLast_1 : decode cX0_dropLast 1 = .ok (.getfield 19, 3) := by decide +kernel
theorem dX0_dropLast_4 : decode cX0_dropLast 4 = .ok (.ifCond .le 13, 3) := by decide +kernel
theorem dX0_dropLast_7 : decode cX0_dropLast 7 = .ok (.aload_n 0, 1) := by decide +kernel
theorem dX0_dropLast_8 : decode cX0_dropLast 8 = .ok (.dup, 1) := by decide +kernel
theorem dX0_dropLast_9 : decode cX0_dropLast 9 = .ok (.getfield 19, 3) := by decide +kernel
theorem dX0_dropLast_12 : decode cX0_dropLast 12 = .ok (.iconst 1, 1) := by decide +kernel
theorem dX0_dropLast_13 : decode cX0_dropLast 13 = .ok (.isub, 1) := by decide +kernel
theorem dX0_dropLast_14 : decode cX0_dropLast 14 = .ok (.putfield 19, 3) := by decide +kernel
theorem dX0_dropLast_17 : decode cX0_dropLast 17 = .ok (.return_, 1) := by decide +kernel
theorem dX1_init_0 : decode cX1_init 0 = .ok (.aload_n 0, 1) := by decide +kernel
theorem dX1_init_1 : decode cX1_init 1 = .ok (.invokespecial 3, 3) := by decide +kernel
theorem dX1_init_4 : decode cX1_init 4 = .ok (.aload_n 0, 1) := by decide +kernel
theorem dX1_init_5 : decode cX1_init 5 = .ok (.iconst 3, 1) := by decide +kernel
theorem dX1_init_6 : decode cX1_init 6 = .ok (.newarray .long, 2) := by decide +kernel
theorem dX1_init_8 : decode cX1_init 8 = .ok (.putfield 9, 3) := by decide +kernel
theorem dX1_init_11 : decode cX1_init 11 = .ok (.return_, 1) := by decide +kernel
theorem dX1_cells_0 : decode cX1_cells 0 = .ok (.iload_n 1, 1) := by decide +kernel
theorem dX1_cells_1 : decode cX1_cells 1 = .ok (.invokestatic 15, 3) := by decide +kernel
theorem dX1_cells_4 : decode cX1_cells 4 = .ok (.ifCond .eq 12, 3) := by decide +kernel
theorem dX1_cells_7 : decode cX1_cells 7 = .ok (.aload_n 0, 1) := by decide +kernel
theorem dX1_cells_8 : decode cX1_cells 8 = .ok (.getfield 9, 3) := by decide +kernel
theorem dX1_cells_11 : decode cX1_cells 11 = .ok (.iload_n 1, 1) := by decide +kernel
theorem dX1_cells_12 : decode cX1_cells 12 = .ok (.laload, 1) := by decide +kernel
theorem dX1_cells_13 : decode cX1_cells 13 = .ok (.goto 4, 3) := by decide +kernel
theorem dX1_cells_16 : decode cX1_cells 16 = .ok (.lconst 0, 1) := by decide +kernel
theorem dX1_cells_17 : decode cX1_cells 17 = .ok (.lreturn, 1) := by decide +kernel
theorem dX1_set_0 : decode cX1_set 0 = .ok (.iload_n 1, 1) := by decide +kernel
theorem dX1_set_1 : decode cX1_set 1 = .ok (.invokestatic 15, 3) := by decide +kernel
theorem dX1_set_4 : decode cX1_set 4 = .ok (.ifCond .eq 10, 3) := by decide +kernel
theorem dX1_set_7 : decode cX1_set 7 = .ok (.aload_n 0, 1) := by decide +kernel
theorem dX1_set_8 : decode cX1_set 8 = .ok (.getfield 9, 3) := by decide +kernel
theorem dX1_set_11 : decode cX1_set 11 = .ok (.iload_n 1, 1) := by decide +kernel
theorem dX1_set_12 : decode cX1_set 12 = .ok (.lload_n 2, 1) := by decide +kernel
theorem dX1_set_13 : decode cX1_set 13 = .ok (.lastore, 1) := by decide +kernel
theorem dX1_set_14 : decode cX1_set 14 = .ok (.return_, 1) := by decide +kernel
theorem dX1_copyFrom_0 : decode cX1_copyFrom 0 = .ok (.iconst 0, 1) := by decide +kernel
theorem dX1_copyFrom_1 : decode cX1_copyFrom 1 = .ok (.istore_n 2, 1) := by decide +kernel
theorem dX1_copyFrom_2 : decode cX1_copyFrom 2 = .ok (.iload_n 2, 1) := by decide +kernel
theorem dX1_copyFrom_3 : decode cX1_copyFrom 3 = .ok (.iconst 3, 1) := by decide +kernel
theorem dX1_copyFrom_4 : decode cX1_copyFrom 4 = .ok (.if_icmp .ge 19, 3) := by decide +kernel
theorem dX1_copyFrom_7 : decode cX1_copyFrom 7 = .ok (.aload_n 0, 1) := by decide +kernel
theorem dX1_copyFrom_8 : decode cX1_copyFrom 8 = .ok (.iload_n 2, 1) := by decide +kernel
theorem dX1_copyFrom_9 : decode cX1_copyFrom 9 = .ok (.aload_n 1, 1) := by decide +kernel
theorem dX1_copyFrom_10 : decode cX1_copyFrom 10 = .ok (.iload_n 2, 1) := by decide +kernel
theorem dX1_copyFrom_11 : decode cX1_copyFrom 11 = .ok (.invokevirtual 19, 3) := by decide +kernel
theorem dX1_copyFrom_14 : decode cX1_copyFrom 14 = .ok (.invokevirtual 23, 3) := by decide +kernel
theorem dX1_copyFrom_17 : decode cX1_copyFrom 17 = .ok (.iinc 2 1, 3) := by decide +kernel
theorem dX1_copyFrom_20 : decode cX1_copyFrom 20 = .ok (.goto (-18), 3) := by decide +kernel
theorem dX1_copyFrom_23 : decode cX1_copyFrom 23 = .ok (.return_, 1) := by decide +kernel
theorem dX1_area_0 : decode cX1_area 0 = .ok (.iconst 0, 1) := by decide +kernel
theorem dX1_area_1 : decode cX1_area 1 = .ok (.istore_n 1, 1) := by decide +kernel
theorem dX1_area_2 : decode cX1_area 2 = .ok (.iconst 0, 1) := by decide +kernel
theorem dX1_area_3 : decode cX1_area 3 = .ok (.istore_n 2, 1) := by decide +kernel
theorem dX1_area_4 : decode cX1_area 4 = .ok (.iload_n 2, 1) := by decide +kernel
theorem dX1_area_5 : decode cX1_area 5 = .ok (.iconst 3, 1) := by decide +kernel
theorem dX1_area_6 : decode cX1_area 6 = .ok (.if_icmp .ge 20, 3) := by decide +kernel
theorem dX1_area_9 : decode cX1_area 9 = .ok (.iload_n 1, 1) := by decide +kernel
theorem dX1_area_10 : decode cX1_area 10 = .ok (.aload_n 0, 1) := by decide +kernel
theorem dX1_area_11 : decode cX1_area 11 = .ok (.iload_n 2, 1) := by decide +kernel
theorem dX1_area_12 : decode cX1_area 12 = .ok (.invokevirtual 19, 3) := by decide +kernel
theorem dX1_area_15 : decode cX1_area 15 = .ok (.invokestatic 27, 3) := by decide +kernel
theorem dX1_area_18 : decode cX1_area 18 = .ok (.iadd, 1) := by decide +kernel
theorem dX1_area_19 : decode cX1_area 19 = .ok (.istore_n 1, 1) := by decide +kernel
theorem dX1_area_20 : decode cX1_area 20 = .ok (.iinc 2 1, 3) := by decide +kernel
theorem dX1_area_23 : decode cX1_area 23 = .ok (.goto (-19), 3) := by decide +kernel
theorem dX1_area_26 : decode cX1_area 26 = .ok (.iload_n 1, 1) := by decide +kernel
theorem dX1_area_27 : decode cX1_area 27 = .ok (.ireturn, 1) := by decide +kernel
theorem dX1_blackIn_0 : decode cX1_blackIn 0 = .ok (.iconst 0, 1) := by decide +kernel
theorem dX1_blackIn_1 : decode cX1_blackIn 1 = .ok (.istore_n 2, 1) := by decide +kernel
theorem dX1_blackIn_2 : decode cX1_blackIn 2 = .ok (.iconst 0, 1) := by decide +kernel
theorem dX1_blackIn_3 : decode cX1_blackIn 3 = .ok (.istore_n 3, 1) := by decide +kernel
theorem dX1_blackIn_4 : decode cX1_blackIn 4 = .ok (.iload_n 3, 1) := by decide +kernel
theorem dX1_blackIn_5 : decode cX1_blackIn 5 = .ok (.iconst 3, 1) := by decide +kernel
theorem dX1_blackIn_6 : decode cX1_blackIn 6 = .ok (.if_icmp .ge 29, 3) := by decide +kernel
theorem dX1_blackIn_9 : decode cX1_blackIn 9 = .ok (.iload_n 2, 1) := by decide +kernel
theorem dX1_blackIn_10 : decode cX1_blackIn 10 = .ok (.aload_n 0, 1) := by decide +kernel
theorem dX1_blackIn_11 : decode cX1_blackIn 11 = .ok (.iload_n 3, 1) := by decide +kernel
theorem dX1_blackIn_12 : decode cX1_blackIn 12 = .ok (.invokevirtual 19, 3) := by decide +kernel
theorem dX1_blackIn_15 : decode cX1_blackIn 15 = .ok (.iload_n 1, 1) := by decide +kernel
theorem dX1_blackIn_16 : decode cX1_blackIn 16 = .ok (.invokestatic 33, 3) := by decide +kernel
theorem dX1_blackIn_19 : decode cX1_blackIn 19 = .ok (.ifCond .eq 7, 3) := by decide +kernel
theorem dX1_blackIn_22 : decode cX1_blackIn 22 = .ok (.iconst 1, 1) := by decide +kernel
theorem dX1_blackIn_23 : decode cX1_blackIn 23 = .ok (.goto 4, 3) := by decide +kernel
theorem dX1_blackIn_26 : decode cX1_blackIn 26 = .ok (.iconst 0, 1) := by decide +kernel
theorem dX1_blackIn_27 : decode cX1_blackIn 27 = .ok (.iadd, 1) := by decide +kernel
theorem dX1_blackIn_28 : decode cX1_blackIn 28 = .ok (.istore_n 2, 1) := by decide +kernel
theorem dX1_blackIn_29 : decode cX1_blackIn 29 = .ok (.iinc 3 1, 3) := by decide +kernel
theorem dX1_blackIn_32 : decode cX1_blackIn 32 = .ok (.goto (-28), 3) := by decide +kernel
theorem dX1_blackIn_35 : decode cX1_blackIn 35 = .ok (.iload_n 2, 1) := by decide +kernel
theorem dX1_blackIn_36 : decode cX1_blackIn 36 = .ok (.ireturn, 1) := by decide +kernel
theorem dX1_does_0 : decode cX1_does 0 = .ok (.iload_n 1, 1) := by decide +kernel
theorem dX1_does_1 : decode cX1_does 1 = .ok (.tableswitch 147 1 9 #[51, 51, 51, 59, 59, 78, 78, 86, 111], 51) := by decide +kernel
theorem dX1_does_52 : decode cX1_does 52 = .ok (.aload_n 0, 1) := by decide +kernel
theorem dX1_does_53 : decode cX1_does 53 = .ok (.iload_n 1, 1) := by decide +kernel
theorem dX1_does_54 : decode cX1_does 54 = .ok (.iload_n 2, 1) := by decide +kernel
theorem dX1_does_55 : decode cX1_does 55 = .ok (.iload_n 3, 1) := by decide +kernel
theorem dX1_does_56 : decode cX1_does 56 = .ok (.invokevirtual 39, 3) := by decide +kernel
theorem dX1_does_59 : decode cX1_does 59 = .ok (.ireturn, 1) := by decide +kernel
theorem dX1_does_60 : decode cX1_does 60 = .ok (.iload_n 2, 1) := by decide +kernel
theorem dX1_does_61 : decode cX1_does 61 = .ok (.ifCond .ne 16, 3) := by decide +kernel
theorem dX1_does_64 : decode cX1_does 64 = .ok (.aload_n 0, 1) := by decide +kernel
theorem dX1_does_65 : decode cX1_does 65 = .ok (.iload_n 1, 1) := by decide +kernel
theorem dX1_does_66 : decode cX1_does 66 = .ok (.iload_n 3, 1) := by decide +kernel
theorem dX1_does_67 : decode cX1_does 67 = .ok (.invokevirtual 43, 3) := by decide +kernel
theorem dX1_does_70 : decode cX1_does 70 = .ok (.ifCond .eq 7, 3) := by decide +kernel
theorem dX1_does_73 : decode cX1_does 73 = .ok (.iconst 1, 1) := by decide +kernel
theorem dX1_does_74 : decode cX1_does 74 = .ok (.goto 4, 3) := by decide +kernel
theorem dX1_does_77 : decode cX1_does 77 = .ok (.iconst 0, 1) := by decide +kernel
theorem dX1_does_78 : decode cX1_does 78 = .ok (.ireturn, 1) := by decide +kernel
theorem dX1_does_79 : decode cX1_does 79 = .ok (.aload_n 0, 1) := by decide +kernel
theorem dX1_does_80 : decode cX1_does 80 = .ok (.iload_n 1, 1) := by decide +kernel
theorem dX1_does_81 : decode cX1_does 81 = .ok (.iload_n 2, 1) := by decide +kernel
theorem dX1_does_82 : decode cX1_does 82 = .ok (.iload_n 3, 1) := by decide +kernel
theorem dX1_does_83 : decode cX1_does 83 = .ok (.invokevirtual 47, 3) := by decide +kernel
theorem dX1_does_86 : decode cX1_does 86 = .ok (.ireturn, 1) := by decide +kernel
theorem dX1_does_87 : decode cX1_does 87 = .ok (.iload_n 2, 1) := by decide +kernel
theorem dX1_does_88 : decode cX1_does 88 = .ok (.invokestatic 15, 3) := by decide +kernel
theorem dX1_does_91 : decode cX1_does 91 = .ok (.ifCond .eq 19, 3) := by decide +kernel
theorem dX1_does_94 : decode cX1_does 94 = .ok (.aload_n 0, 1) := by decide +kernel
theorem dX1_does_95 : decode cX1_does 95 = .ok (.iload_n 2, 1) := by decide +kernel
theorem dX1_does_96 : decode cX1_does 96 = .ok (.invokevirtual 19, 3) := by decide +kernel
theorem dX1_does_99 : decode cX1_does 99 = .ok (.invokestatic 50, 3) := by decide +kernel
theorem dX1_does_102 : decode cX1_does 102 = .ok (.iload_n 3, 1) := by decide +kernel
theorem dX1_does_103 : decode cX1_does 103 = .ok (.if_icmp .lt 7, 3) := by decide +kernel
theorem dX1_does_106 : decode cX1_does 106 = .ok (.iconst 1, 1) := by decide +kernel
theorem dX1_does_107 : decode cX1_does 107 = .ok (.goto 4, 3) := by decide +kernel
theorem dX1_does_110 : decode cX1_does 110 = .ok (.iconst 0, 1) := by decide +kernel
theorem dX1_does_111 : decode cX1_does 111 = .ok (.ireturn, 1) := by decide +kernel
theorem dX1_does_112 : decode cX1_does 112 = .ok (.iload_n 2, 1) := by decide +kernel
theorem dX1_does_113 : decode cX1_does 113 = .ok (.invokestatic 15, 3) := by decide +kernel
theorem dX1_does_116 : decode cX1_does 116 = .ok (.ifCond .eq 30, 3) := by decide +kernel
theorem dX1_does_119 : decode cX1_does 119 = .ok (.iload_n 3, 1) := by decide +kernel
theorem dX1_does_120 : decode cX1_does 120 = .ok (.invokestatic 15, 3) := by decide +kernel
theorem dX1_does_123 : decode cX1_does 123 = .ok (.ifCond .eq 23, 3) := by decide +kernel
theorem dX1_does_126 : decode cX1_does 126 = .ok (.aload_n 0, 1) := by decide +kernel
theorem dX1_does_127 : decode cX1_does 127 = .ok (.iload_n 2, 1) := by decide +kernel
theorem dX1_does_128 : decode cX1_does 128 = .ok (.invokevirtual 19, 3) := by decide +kernel
theorem dX1_does_131 : decode cX1_does 131 = .ok (.aload_n 0, 1) := by decide +kernel
theorem dX1_does_132 : decode cX1_does 132 = .ok (.iload_n 3, 1) := by decide +kernel
theorem dX1_does_133 : decode cX1_does 133 = .ok (.invokevirtual 19, 3) := by decide +kernel
theorem dX1_does_136 : decode cX1_does 136 = .ok (.invokestatic 53, 3) := by decide +kernel
theorem dX1_does_139 : decode cX1_does 139 = .ok (.ifCond .eq 7, 3) := by decide +kernel
theorem dX1_does_142 : decode cX1_does 142 = .ok (.iconst 1, 1) := by decide +kernel
theorem dX1_does_143 : decode cX1_does 143 = .ok (.goto 4, 3) := by decide +kernel
theorem dX1_does_146 : decode cX1_does 146 = .ok (.iconst 0, 1) := by decide +kernel
theorem dX1_does_147 : decode cX1_does 147 = .ok (.ireturn, 1) := by decide +kernel
theorem dX1_does_148 : decode cX1_does 148 = .ok (.iconst 0, 1) := by decide +kernel
theorem dX1_does_149 : decode cX1_does 149 = .ok (.ireturn, 1) := by decide +kernel
theorem dX1_combines_0 : decode cX1_combines 0 = .ok (.iload_n 2, 1) := by decide +kernel
theorem dX1_combines_1 : decode cX1_combines 1 = .ok (.invokestatic 15, 3) := by decide +kernel
theorem dX1_combines_4 : decode cX1_combines 4 = .ok (.ifCond .eq 15, 3) := by decide +kernel
theorem dX1_combines_7 : decode cX1_combines 7 = .ok (.iload_n 3, 1) := by decide +kernel
theorem dX1_combines_8 : decode cX1_combines 8 = .ok (.invokestatic 15, 3) := by decide +kernel
theorem dX1_combines_11 : decode cX1_combines 11 = .ok (.ifCond .eq 8, 3) := by decide +kernel
theorem dX1_combines_14 : decode cX1_combines 14 = .ok (.iload_n 2, 1) := by decide +kernel
theorem dX1_combines_15 : decode cX1_combines 15 = .ok (.iload_n 3, 1) := by decide +kernel
theorem dX1_combines_16 : decode cX1_combines 16 = .ok (.if_icmp .ne 5, 3) := by decide +kernel
theorem dX1_combines_19 : decode cX1_combines 19 = .ok (.iconst 0, 1) := by decide +kernel
theorem dX1_combines_20 : decode cX1_combines 20 = .ok (.ireturn, 1) := by decide +kernel
theorem dX1_combines_21 : decode cX1_combines 21 = .ok (.aload_n 0, 1) := by decide +kernel
theorem dX1_combines_22 : decode cX1_combines 22 = .ok (.iload_n 2, 1) := by decide +kernel
theorem dX1_combines_23 : decode cX1_combines 23 = .ok (.iload_n 1, 1) := by decide +kernel
theorem dX1_combines_24 : decode cX1_combines 24 = .ok (.aload_n 0, 1) := by decide +kernel
theorem dX1_combines_25 : decode cX1_combines 25 = .ok (.iload_n 2, 1) := by decide +kernel
theorem dX1_combines_26 : decode cX1_combines 26 = .ok (.invokevirtual 19, 3) := by decide +kernel
theorem dX1_combines_29 : decode cX1_combines 29 = .ok (.aload_n 0, 1) := by decide +kernel
theorem dX1_combines_30 : decode cX1_combines 30 = .ok (.iload_n 3, 1) := by decide +kernel
theorem dX1_combines_31 : decode cX1_combines 31 = .ok (.invokevirtual 19, 3) := by decide +kernel
theorem dX1_combines_34 : decode cX1_combines 34 = .ok (.invokestatic 57, 3) := by decide +kernel
theorem dX1_combines_37 : decode cX1_combines 37 = .ok (.invokevirtual 23, 3) := by decide +kernel
theorem dX1_combines_40 : decode cX1_combines 40 = .ok (.iconst 1, 1) := by decide +kernel
theorem dX1_combines_41 : decode cX1_combines 41 = .ok (.ireturn, 1) := by decide +kernel
theorem dX1_moves_0 : decode cX1_moves 0 = .ok (.iload_n 2, 1) := by decide +kernel
theorem dX1_moves_1 : decode cX1_moves 1 = .ok (.invokestatic 15, 3) := by decide +kernel
theorem dX1_moves_4 : decode cX1_moves 4 = .ok (.ifCond .ne 5, 3) := by decide +kernel
theorem dX1_moves_7 : decode cX1_moves 7 = .ok (.iconst 0, 1) := by decide +kernel
theorem dX1_moves_8 : decode cX1_moves 8 = .ok (.ireturn, 1) := by decide +kernel
theorem dX1_moves_9 : decode cX1_moves 9 = .ok (.aload_n 0, 1) := by decide +kernel
theorem dX1_moves_10 : decode cX1_moves 10 = .ok (.iload_n 2, 1) := by decide +kernel
theorem dX1_moves_11 : decode cX1_moves 11 = .ok (.invokevirtual 19, 3) := by decide +kernel
theorem dX1_moves_14 : decode cX1_moves 14 = .ok (.lstore_n 3, 1) := by decide +kernel
theorem dX1_moves_15 : decode cX1_moves 15 = .ok (.aload_n 0, 1) := by decide +kernel
theorem dX1_moves_16 : decode cX1_moves 16 = .ok (.iload_n 2, 1) := by decide +kernel
theorem dX1_moves_17 : decode cX1_moves 17 = .ok (.iload_n 1, 1) := by decide +kernel
theorem dX1_moves_18 : decode cX1_moves 18 = .ok (.iconst 4, 1) := by decide +kernel
theorem dX1_moves_19 : decode cX1_moves 19 = .ok (.if_icmp .ne 10, 3) := by decide +kernel
theorem dX1_moves_22 : decode cX1_moves 22 = .ok (.lload_n 3, 1) := by decide +kernel
theorem dX1_moves_23 : decode cX1_moves 23 = .ok (.invokestatic 61, 3) := by decide +kernel
theorem dX1_moves_26 : decode cX1_moves 26 = .ok (.goto 7, 3) := by decide +kernel
theorem dX1_moves_29 : decode cX1_moves 29 = .ok (.lload_n 3, 1) := by decide +kernel
theorem dX1_moves_30 : decode cX1_moves 30 = .ok (.invokestatic 65, 3) := by decide +kernel
theorem dX1_moves_33 : decode cX1_moves 33 = .ok (.invokevirtual 23, 3) := by decide +kernel
theorem dX1_moves_36 : decode cX1_moves 36 = .ok (.iconst 1, 1) := by decide +kernel
theorem dX1_moves_37 : decode cX1_moves 37 = .ok (.ireturn, 1) := by decide +kernel
theorem dX1_scales_0 : decode cX1_scales 0 = .ok (.iload_n 2, 1) := by decide +kernel
theorem dX1_scales_1 : decode cX1_scales 1 = .ok (.invokestatic 15, 3) := by decide +kernel
theorem dX1_scales_4 : decode cX1_scales 4 = .ok (.ifCond .eq 10, 3) := by decide +kernel
theorem dX1_scales_7 : decode cX1_scales 7 = .ok (.iload_n 3, 1) := by decide +kernel
theorem dX1_scales_8 : decode cX1_scales 8 = .ok (.invokestatic 68, 3) := by decide +kernel
theorem dX1_scales_11 : decode cX1_scales 11 = .ok (.ifCond .ne 5, 3) := by decide +kernel
theorem dX1_scales_14 : decode cX1_scales 14 = .ok (.iconst 0, 1) := by decide +kernel
theorem dX1_scales_15 : decode cX1_scales 15 = .ok (.ireturn, 1) := by decide +kernel
theorem dX1_scales_16 : decode cX1_scales 16 = .ok (.aload_n 0, 1) := by decide +kernel
theorem dX1_scales_17 : decode cX1_scales 17 = .ok (.iload_n 2, 1) := by decide +kernel
theorem dX1_scales_18 : decode cX1_scales 18 = .ok (.invokevirtual 19, 3) := by decide +kernel
theorem dX1_scales_21 : decode cX1_scales 21 = .ok (.lstore 4, 2) := by decide +kernel
theorem dX1_scales_23 : decode cX1_scales 23 = .ok (.aload_n 0, 1) := by decide +kernel
theorem dX1_scales_24 : decode cX1_scales 24 = .ok (.iload_n 2, 1) := by decide +kernel
theorem dX1_scales_25 : decode cX1_scales 25 = .ok (.iload_n 1, 1) := by decide +kernel
theorem dX1_scales_26 : decode cX1_scales 26 = .ok (.bipush 6, 2) := by decide +kernel
theorem dX1_scales_28 : decode cX1_scales 28 = .ok (.if_icmp .ne 12, 3) := by decide +kernel
theorem dX1_scales_31 : decode cX1_scales 31 = .ok (.lload 4, 2) := by decide +kernel
theorem dX1_scales_33 : decode cX1_scales 33 = .ok (.iload_n 3, 1) := by decide +kernel
theorem dX1_scales_34 : decode cX1_scales 34 = .ok (.invokestatic 71, 3) := by decide +kernel
theorem dX1_scales_37 : decode cX1_scales 37 = .ok (.goto 9, 3) := by decide +kernel
theorem dX1_scales_40 : decode cX1_scales 40 = .ok (.lload 4, 2) := by decide +kernel
theorem dX1_scales_42 : decode cX1_scales 42 = .ok (.iload_n 3, 1) := by decide +kernel
theorem dX1_scales_43 : decode cX1_scales 43 = .ok (.invokestatic 75, 3) := by decide +kernel
theorem dX1_scales_46 : decode cX1_scales 46 = .ok (.invokevirtual 23, 3) := by decide +kernel
theorem dX1_scales_49 : decode cX1_scales 49 = .ok (.iconst 1, 1) := by decide +kernel
theorem dX1_scales_50 : decode cX1_scales 50 = .ok (.ireturn, 1) := by decide +kernel
theorem dX2_isBlack_0 : decode cX2_isBlack 0 = .ok (.lload_n 0, 1) := by decide +kernel
theorem dX2_isBlack_1 : decode cX2_isBlack 1 = .ok (.iload_n 2, 1) := by decide +kernel
theorem dX2_isBlack_2 : decode cX2_isBlack 2 = .ok (.lushr, 1) := by decide +kernel
theorem dX2_isBlack_3 : decode cX2_isBlack 3 = .ok (.lconst 1, 1) := by decide +kernel
theorem dX2_isBlack_4 : decode cX2_isBlack 4 = .ok (.land, 1) := by decide +kernel
theorem dX2_isBlack_5 : decode cX2_isBlack 5 = .ok (.lconst 1, 1) := by decide +kernel
theorem dX2_isBlack_6 : decode cX2_isBlack 6 = .ok (.lcmp, 1) := by decide +kernel
theorem dX2_isBlack_7 : decode cX2_isBlack 7 = .ok (.ifCond .ne 7, 3) := by decide +kernel
theorem dX2_isBlack_10 : decode cX2_isBlack 10 = .ok (.iconst 1, 1) := by decide +kernel
theorem dX2_isBlack_11 : decode cX2_isBlack 11 = .ok (.goto 4, 3) := by decide +kernel
theorem dX2_isBlack_14 : decode cX2_isBlack 14 = .ok (.iconst 0, 1) := by decide +kernel
theorem dX2_isBlack_15 : decode cX2_isBlack 15 = .ok (.ireturn, 1) := by decide +kernel
theorem dX2_bit_0 : decode cX2_bit 0 = .ok (.lconst 1, 1) := by decide +kernel
theorem dX2_bit_1 : decode cX2_bit 1 = .ok (.bipush 8, 2) := by decide +kernel
theorem dX2_bit_3 : decode cX2_bit 3 = .ok (.iload_n 1, 1) := by decide +kernel
theorem dX2_bit_4 : decode cX2_bit 4 = .ok (.imul, 1) := by decide +kernel
theorem dX2_bit_5 : decode cX2_bit 5 = .ok (.iload_n 0, 1) := by decide +kernel
theorem dX2_bit_6 : decode cX2_bit 6 = .ok (.iadd, 1) := by decide +kernel
theorem dX2_bit_7 : decode cX2_bit 7 = .ok (.lshl, 1) := by decide +kernel
theorem dX2_bit_8 : decode cX2_bit 8 = .ok (.lreturn, 1) := by decide +kernel
theorem dX2_lowestRow_0 : decode cX2_lowestRow 0 = .ok (.lload_n 0, 1) := by decide +kernel
theorem dX2_lowestRow_1 : decode cX2_lowestRow 1 = .ok (.ldc2_w 11, 3) := by decide +kernel
theorem dX2_lowestRow_4 : decode cX2_lowestRow 4 = .ok (.land, 1) := by decide +kernel
theorem dX2_lowestRow_5 : decode cX2_lowestRow 5 = .ok (.l2i, 1) := by decide +kernel
theorem dX2_lowestRow_6 : decode cX2_lowestRow 6 = .ok (.ireturn, 1) := by decide +kernel
theorem dX2_isLeaf_0 : decode cX2_isLeaf 0 = .ok (.iload_n 0, 1) := by decide +kernel
theorem dX2_isLeaf_1 : decode cX2_isLeaf 1 = .ok (.bipush 98, 2) := by decide +kernel
theorem dX2_isLeaf_3 : decode cX2_isLeaf 3 = .ok (.if_icmp .eq 21, 3) := by decide +kernel
theorem dX2_isLeaf_6 : decode cX2_isLeaf 6 = .ok (.iload_n 0, 1) := by decide +kernel
theorem dX2_isLeaf_7 : decode cX2_isLeaf 7 = .ok (.bipush 119, 2) := by decide +kernel
theorem dX2_isLeaf_9 : decode cX2_isLeaf 9 = .ok (.if_icmp .eq 15, 3) := by decide +kernel
theorem dX2_isLeaf_12 : decode cX2_isLeaf 12 = .ok (.iload_n 0, 1) := by decide +kernel
theorem dX2_isLeaf_13 : decode cX2_isLeaf 13 = .ok (.bipush 103, 2) := by decide +kernel
theorem dX2_isLeaf_15 : decode cX2_isLeaf 15 = .ok (.if_icmp .eq 9, 3) := by decide +kernel
theorem dX2_isLeaf_18 : decode cX2_isLeaf 18 = .ok (.iload_n 0, 1) := by decide +kernel
theorem dX2_isLeaf_19 : decode cX2_isLeaf 19 = .ok (.bipush 115, 2) := by decide +kernel
theorem dX2_isLeaf_21 : decode cX2_isLeaf 21 = .ok (.if_icmp .ne 7, 3) := by decide +kernel
theorem dX2_isLeaf_24 : decode cX2_isLeaf 24 = .ok (.iconst 1, 1) := by decide +kernel
theorem dX2_isLeaf_25 : decode cX2_isLeaf 25 = .ok (.goto 4, 3) := by decide +kernel
theorem dX2_isLeaf_28 : decode cX2_isLeaf 28 = .ok (.iconst 0, 1) := by decide +kernel
theorem dX2_isLeaf_29 : decode cX2_isLeaf 29 = .ok (.ireturn, 1) := by decide +kernel
theorem dX2_pattern_0 : decode cX2_pattern 0 = .ok (.iload_n 0, 1) := by decide +kernel
theorem dX2_pattern_1 : decode cX2_pattern 1 = .ok (.lookupswitch 47 #[(98, 35), (103, 39), (115, 43)], 35) := by decide +kernel
theorem dX2_pattern_36 : decode cX2_pattern 36 = .ok (.ldc2_w 13, 3) := by decide +kernel
theorem dX2_pattern_39 : decode cX2_pattern 39 = .ok (.lreturn, 1) := by decide +kernel
theorem dX2_pattern_40 : decode cX2_pattern 40 = .ok (.ldc2_w 15, 3) := by decide +kernel
theorem dX2_pattern_43 : decode cX2_pattern 43 = .ok (.lreturn, 1) := by decide +kernel
theorem dX2_pattern_44 : decode cX2_pattern 44 = .ok (.ldc2_w 17, 3) := by decide +kernel
theorem dX2_pattern_47 : decode cX2_pattern 47 = .ok (.lreturn, 1) := by decide +kernel
theorem dX2_pattern_48 : decode cX2_pattern 48 = .ok (.lconst 0, 1) := by decide +kernel
theorem dX2_pattern_49 : decode cX2_pattern 49 = .ok (.lreturn, 1) := by decide +kernel
theorem dX2_squareOf_0 : decode cX2_squareOf 0 = .ok (.iload_n 1, 1) := by decide +kernel
theorem dX2_squareOf_1 : decode cX2_squareOf 1 = .ok (.ifCond .lt 8, 3) := by decide +kernel
theorem dX2_squareOf_4 : decode cX2_squareOf 4 = .ok (.iload_n 1, 1) := by decide +kernel
theorem dX2_squareOf_5 : decode cX2_squareOf 5 = .ok (.iconst 3, 1) := by decide +kernel
theorem dX2_squareOf_6 : decode cX2_squareOf 6 = .ok (.if_icmp .le 5, 3) := by decide +kernel
theorem dX2_squareOf_9 : decode cX2_squareOf 9 = .ok (.lconst 0, 1) := by decide +kernel
theorem dX2_squareOf_10 : decode cX2_squareOf 10 = .ok (.lreturn, 1) := by decide +kernel
theorem dX2_squareOf_11 : decode cX2_squareOf 11 = .ok (.bipush 8, 2) := by decide +kernel
theorem dX2_squareOf_13 : decode cX2_squareOf 13 = .ok (.iload_n 1, 1) := by decide +kernel
theorem dX2_squareOf_14 : decode cX2_squareOf 14 = .ok (.ishr, 1) := by decide +kernel
theorem dX2_squareOf_15 : decode cX2_squareOf 15 = .ok (.iconst 1, 1) := by decide +kernel
theorem dX2_squareOf_16 : decode cX2_squareOf 16 = .ok (.isub, 1) := by decide +kernel
theorem dX2_squareOf_17 : decode cX2_squareOf 17 = .ok (.istore_n 2, 1) := by decide +kernel
theorem dX2_squareOf_18 : decode cX2_squareOf 18 = .ok (.iload_n 0, 1) := by decide +kernel
theorem dX2_squareOf_19 : decode cX2_squareOf 19 = .ok (.bipush 8, 2) := by decide +kernel
theorem dX2_squareOf_21 : decode cX2_squareOf 21 = .ok (.iload_n 2, 1) := by decide +kernel
theorem dX2_squareOf_22 : decode cX2_squareOf 22 = .ok (.imul, 1) := by decide +kernel
theorem dX2_squareOf_23 : decode cX2_squareOf 23 = .ok (.iload_n 2, 1) := by decide +kernel
theorem dX2_squareOf_24 : decode cX2_squareOf 24 = .ok (.iadd, 1) := by decide +kernel
theorem dX2_squareOf_25 : decode cX2_squareOf 25 = .ok (.iconst (-1), 1) := by decide +kernel
theorem dX2_squareOf_26 : decode cX2_squareOf 26 = .ok (.ixor, 1) := by decide +kernel
theorem dX2_squareOf_27 : decode cX2_squareOf 27 = .ok (.iand, 1) := by decide +kernel
theorem dX2_squareOf_28 : decode cX2_squareOf 28 = .ok (.istore_n 3, 1) := by decide +kernel
theorem dX2_squareOf_29 : decode cX2_squareOf 29 = .ok (.getstatic 19, 3) := by decide +kernel
theorem dX2_squareOf_32 : decode cX2_squareOf 32 = .ok (.iload_n 1, 1) := by decide +kernel
theorem dX2_squareOf_33 : decode cX2_squareOf 33 = .ok (.laload, 1) := by decide +kernel
theorem dX2_squareOf_34 : decode cX2_squareOf 34 = .ok (.iload_n 3, 1) := by decide +kernel
theorem dX2_squareOf_35 : decode cX2_squareOf 35 = .ok (.lshl, 1) := by decide +kernel
theorem dX2_squareOf_36 : decode cX2_squareOf 36 = .ok (.lreturn, 1) := by decide +kernel
theorem dX2_quarterCells_0 : decode cX2_quarterCells 0 = .ok (.getstatic 19, 3) := by decide +kernel
theorem dX2_quarterCells_3 : decode cX2_quarterCells 3 = .ok (.iconst 1, 1) := by decide +kernel
theorem dX2_quarterCells_4 : decode cX2_quarterCells 4 = .ok (.laload, 1) := by decide +kernel
theorem dX2_quarterCells_5 : decode cX2_quarterCells 5 = .ok (.iload_n 0, 1) := by decide +kernel
theorem dX2_quarterCells_6 : decode cX2_quarterCells 6 = .ok (.invokestatic 23, 3) := by decide +kernel
theorem dX2_quarterCells_9 : decode cX2_quarterCells 9 = .ok (.lshl, 1) := by decide +kernel
theorem dX2_quarterCells_10 : decode cX2_quarterCells 10 = .ok (.lreturn, 1) := by decide +kernel
theorem dX2_quarterCorner_0 : decode cX2_quarterCorner 0 = .ok (.iconst 4, 1) := by decide +kernel
theorem dX2_quarterCorner_1 : decode cX2_quarterCorner 1 = .ok (.iload_n 0, 1) := by decide +kernel
theorem dX2_quarterCorner_2 : decode cX2_quarterCorner 2 = .ok (.iconst 2, 1) := by decide +kernel
theorem dX2_quarterCorner_3 : decode cX2_quarterCorner 3 = .ok (.irem, 1) := by decide +kernel
theorem dX2_quarterCorner_4 : decode cX2_quarterCorner 4 = .ok (.imul, 1) := by decide +kernel
theorem dX2_quarterCorner_5 : decode cX2_quarterCorner 5 = .ok (.bipush 32, 2) := by decide +kernel
theorem dX2_quarterCorner_7 : decode cX2_quarterCorner 7 = .ok (.iload_n 0, 1) := by decide +kernel
theorem dX2_quarterCorner_8 : decode cX2_quarterCorner 8 = .ok (.iconst 2, 1) := by decide +kernel
theorem dX2_quarterCorner_9 : decode cX2_quarterCorner 9 = .ok (.idiv, 1) := by decide +kernel
theorem dX2_quarterCorner_10 : decode cX2_quarterCorner 10 = .ok (.imul, 1) := by decide +kernel
theorem dX2_quarterCorner_11 : decode cX2_quarterCorner 11 = .ok (.iadd, 1) := by decide +kernel
theorem dX2_quarterCorner_12 : decode cX2_quarterCorner 12 = .ok (.ireturn, 1) := by decide +kernel
theorem dX2_sign_0 : decode cX2_sign 0 = .ok (.lload_n 0, 1) := by decide +kernel
theorem dX2_sign_1 : decode cX2_sign 1 = .ok (.lload_n 2, 1) := by decide +kernel
theorem dX2_sign_2 : decode cX2_sign 2 = .ok (.land, 1) := by decide +kernel
theorem dX2_sign_3 : decode cX2_sign 3 = .ok (.lstore 4, 2) := by decide +kernel
theorem dX2_sign_5 : decode cX2_sign 5 = .ok (.lload 4, 2) := by decide +kernel
theorem dX2_sign_7 : decode cX2_sign 7 = .ok (.lload_n 2, 1) := by decide +kernel
theorem dX2_sign_8 : decode cX2_sign 8 = .ok (.lcmp, 1) := by decide +kernel
theorem dX2_sign_9 : decode cX2_sign 9 = .ok (.ifCond .ne 6, 3) := by decide +kernel
theorem dX2_sign_12 : decode cX2_sign 12 = .ok (.bipush 98, 2) := by decide +kernel
theorem dX2_sign_14 : decode cX2_sign 14 = .ok (.ireturn, 1) := by decide +kernel
theorem dX2_sign_15 : decode cX2_sign 15 = .ok (.lload 4, 2) := by decide +kernel
theorem dX2_sign_17 : decode cX2_sign 17 = .ok (.lconst 0, 1) := by decide +kernel
theorem dX2_sign_18 : decode cX2_sign 18 = .ok (.lcmp, 1) := by decide +kernel
theorem dX2_sign_19 : decode cX2_sign 19 = .ok (.ifCond .ne 6, 3) := by decide +kernel
theorem dX2_sign_22 : decode cX2_sign 22 = .ok (.bipush 119, 2) := by decide +kernel
theorem dX2_sign_24 : decode cX2_sign 24 = .ok (.ireturn, 1) := by decide +kernel
theorem dX2_sign_25 : decode cX2_sign 25 = .ok (.lload 4, 2) := by decide +kernel
theorem dX2_sign_27 : decode cX2_sign 27 = .ok (.ldc2_w 15, 3) := by decide +kernel
theorem dX2_sign_30 : decode cX2_sign 30 = .ok (.lload_n 2, 1) := by decide +kernel
theorem dX2_sign_31 : decode cX2_sign 31 = .ok (.land, 1) := by decide +kernel
theorem dX2_sign_32 : decode cX2_sign 32 = .ok (.lcmp, 1) := by decide +kernel
theorem dX2_sign_33 : decode cX2_sign 33 = .ok (.ifCond .ne 6, 3) := by decide +kernel
theorem dX2_sign_36 : decode cX2_sign 36 = .ok (.bipush 103, 2) := by decide +kernel
theorem dX2_sign_38 : decode cX2_sign 38 = .ok (.ireturn, 1) := by decide +kernel
theorem dX2_sign_39 : decode cX2_sign 39 = .ok (.lload 4, 2) := by decide +kernel
theorem dX2_sign_41 : decode cX2_sign 41 = .ok (.ldc2_w 17, 3) := by decide +kernel
theorem dX2_sign_44 : decode cX2_sign 44 = .ok (.lload_n 2, 1) := by decide +kernel
theorem dX2_sign_45 : decode cX2_sign 45 = .ok (.land, 1) := by decide +kernel
theorem dX2_sign_46 : decode cX2_sign 46 = .ok (.lcmp, 1) := by decide +kernel
theorem dX2_sign_47 : decode cX2_sign 47 = .ok (.ifCond .ne 8, 3) := by decide +kernel
theorem dX2_sign_50 : decode cX2_sign 50 = .ok (.bipush 115, 2) := by decide +kernel
theorem dX2_sign_52 : decode cX2_sign 52 = .ok (.goto 5, 3) := by decide +kernel
theorem dX2_sign_55 : decode cX2_sign 55 = .ok (.bipush 113, 2) := by decide +kernel
theorem dX2_sign_57 : decode cX2_sign 57 = .ok (.ireturn, 1) := by decide +kernel
theorem dX2_depthAt_0 : decode cX2_depthAt 0 = .ok (.iconst 0, 1) := by decide +kernel
theorem dX2_depthAt_1 : decode cX2_depthAt 1 = .ok (.istore_n 3, 1) := by decide +kernel
theorem dX2_depthAt_2 : decode cX2_depthAt 2 = .ok (.iload_n 3, 1) := by decide +kernel
theorem dX2_depthAt_3 : decode cX2_depthAt 3 = .ok (.iconst 3, 1) := by decide +kernel
theorem dX2_depthAt_4 : decode cX2_depthAt 4 = .ok (.if_icmp .ge 23, 3) := by decide +kernel
theorem dX2_depthAt_7 : decode cX2_depthAt 7 = .ok (.lload_n 0, 1) := by decide +kernel
theorem dX2_depthAt_8 : decode cX2_depthAt 8 = .ok (.iload_n 2, 1) := by decide +kernel
theorem dX2_depthAt_9 : decode cX2_depthAt 9 = .ok (.iload_n 3, 1) := by decide +kernel
theorem dX2_depthAt_10 : decode cX2_depthAt 10 = .ok (.invokestatic 27, 3) := by decide +kernel
theorem dX2_depthAt_13 : decode cX2_depthAt 13 = .ok (.invokestatic 31, 3) := by decide +kernel
theorem dX2_depthAt_16 : decode cX2_depthAt 16 = .ok (.bipush 113, 2) := by decide +kernel
theorem dX2_depthAt_18 : decode cX2_depthAt 18 = .ok (.if_icmp .ne 9, 3) := by decide +kernel
theorem dX2_depthAt_21 : decode cX2_depthAt 21 = .ok (.iinc 3 1, 3) := by decide +kernel
theorem dX2_depthAt_24 : decode cX2_depthAt 24 = .ok (.goto (-22), 3) := by decide +kernel
theorem dX2_depthAt_27 : decode cX2_depthAt 27 = .ok (.iload_n 3, 1) := by decide +kernel
theorem dX2_depthAt_28 : decode cX2_depthAt 28 = .ok (.ireturn, 1) := by decide +kernel
theorem dX2_combined_0 : decode cX2_combined 0 = .ok (.iload_n 0, 1) := by decide +kernel
theorem dX2_combined_1 : decode cX2_combined 1 = .ok (.tableswitch 43 1 3 #[27, 31, 35], 27) := by decide +kernel
theorem dX2_combined_28 : decode cX2_combined 28 = .ok (.lload_n 1, 1) := by decide +kernel
theorem dX2_combined_29 : decode cX2_combined 29 = .ok (.lload_n 3, 1) := by decide +kernel
theorem dX2_combined_30 : decode cX2_combined 30 = .ok (.lor, 1) := by decide +kernel
theorem dX2_combined_31 : decode cX2_combined 31 = .ok (.lreturn, 1) := by decide +kernel
theorem dX2_combined_32 : decode cX2_combined 32 = .ok (.lload_n 1, 1) := by decide +kernel
theorem dX2_combined_33 : decode cX2_combined 33 = .ok (.lload_n 3, 1) := by decide +kernel
theorem dX2_combined_34 : decode cX2_combined 34 = .ok (.land, 1) := by decide +kernel
theorem dX2_combined_35 : decode cX2_combined 35 = .ok (.lreturn, 1) := by decide +kernel
theorem dX2_combined_36 : decode cX2_combined 36 = .ok (.lload_n 1, 1) := by decide +kernel
theorem dX2_combined_37 : decode cX2_combined 37 = .ok (.lload_n 3, 1) := by decide +kernel
theorem dX2_combined_38 : decode cX2_combined 38 = .ok (.ldc2_w 13, 3) := by decide +kernel
theorem dX2_combined_41 : decode cX2_combined 41 = .ok (.lxor, 1) := by decide +kernel
theorem dX2_combined_42 : decode cX2_combined 42 = .ok (.land, 1) := by decide +kernel
theorem dX2_combined_43 : decode cX2_combined 43 = .ok (.lreturn, 1) := by decide +kernel
theorem dX2_combined_44 : decode cX2_combined 44 = .ok (.lload_n 1, 1) := by decide +kernel
theorem dX2_combined_45 : decode cX2_combined 45 = .ok (.lreturn, 1) := by decide +kernel
theorem dX2_turned_0 : decode cX2_turned 0 = .ok (.lconst 0, 1) := by decide +kernel
theorem dX2_turned_1 : decode cX2_turned 1 = .ok (.lstore_n 2, 1) := by decide +kernel
theorem dX2_turned_2 : decode cX2_turned 2 = .ok (.iconst 0, 1) := by decide +kernel
theorem dX2_turned_3 : decode cX2_turned 3 = .ok (.istore 4, 2) := by decide +kernel
theorem dX2_turned_5 : decode cX2_turned 5 = .ok (.iload 4, 2) := by decide +kernel
theorem dX2_turned_7 : decode cX2_turned 7 = .ok (.bipush 64, 2) := by decide +kernel
theorem dX2_turned_9 : decode cX2_turned 9 = .ok (.if_icmp .ge 37, 3) := by decide +kernel
theorem dX2_turned_12 : decode cX2_turned 12 = .ok (.lload_n 0, 1) := by decide +kernel
theorem dX2_turned_13 : decode cX2_turned 13 = .ok (.iload 4, 2) := by decide +kernel
theorem dX2_turned_15 : decode cX2_turned 15 = .ok (.invokestatic 35, 3) := by decide +kernel
theorem dX2_turned_18 : decode cX2_turned 18 = .ok (.ifCond .eq 22, 3) := by decide +kernel
theorem dX2_turned_21 : decode cX2_turned 21 = .ok (.lload_n 2, 1) := by decide +kernel
theorem dX2_turned_22 : decode cX2_turned 22 = .ok (.bipush 7, 2) := by decide +kernel
theorem dX2_turned_24 : decode cX2_turned 24 = .ok (.iload 4, 2) := by decide +kernel
theorem dX2_turned_26 : decode cX2_turned 26 = .ok (.bipush 8, 2) := by decide +kernel
theorem dX2_turned_28 : decode cX2_turned 28 = .ok (.idiv, 1) := by decide +kernel
theorem dX2_turned_29 : decode cX2_turned 29 = .ok (.isub, 1) := by decide +kernel
theorem dX2_turned_30 : decode cX2_turned 30 = .ok (.iload 4, 2) := by decide +kernel
theorem dX2_turned_32 : decode cX2_turned 32 = .ok (.bipush 8, 2) := by decide +kernel
theorem dX2_turned_34 : decode cX2_turned 34 = .ok (.irem, 1) := by decide +kernel
theorem dX2_turned_35 : decode cX2_turned 35 = .ok (.invokestatic 39, 3) := by decide +kernel
theorem dX2_turned_38 : decode cX2_turned 38 = .ok (.lor, 1) := by decide +kernel
theorem dX2_turned_39 : decode cX2_turned 39 = .ok (.lstore_n 2, 1) := by decide +kernel
theorem dX2_turned_40 : decode cX2_turned 40 = .ok (.iinc 4 1, 3) := by decide +kernel
theorem dX2_turned_43 : decode cX2_turned 43 = .ok (.goto (-38), 3) := by decide +kernel
theorem dX2_turned_46 : decode cX2_turned 46 = .ok (.lload_n 2, 1) := by decide +kernel
theorem dX2_turned_47 : decode cX2_turned 47 = .ok (.lreturn, 1) := by decide +kernel
theorem dX2_flipped_0 : decode cX2_flipped 0 = .ok (.lconst 0, 1) := by decide +kernel
theorem dX2_flipped_1 : decode cX2_flipped 1 = .ok (.lstore_n 2, 1) := by decide +kernel
theorem dX2_flipped_2 : decode cX2_flipped 2 = .ok (.iconst 0, 1) := by decide +kernel
theorem dX2_flipped_3 : decode cX2_flipped 3 = .ok (.istore 4, 2) := by decide +kernel
theorem dX2_flipped_5 : decode cX2_flipped 5 = .ok (.iload 4, 2) := by decide +kernel
theorem dX2_flipped_7 : decode cX2_flipped 7 = .ok (.bipush 64, 2) := by decide +kernel
theorem dX2_flipped_9 : decode cX2_flipped 9 = .ok (.if_icmp .ge 37, 3) := by decide +kernel
theorem dX2_flipped_12 : decode cX2_flipped 12 = .ok (.lload_n 0, 1) := by decide +kernel
theorem dX2_flipped_13 : decode cX2_flipped 13 = .ok (.iload 4, 2) := by decide +kernel
theorem dX2_flipped_15 : decode cX2_flipped 15 = .ok (.invokestatic 35, 3) := by decide +kernel
theorem dX2_flipped_18 : decode cX2_flipped 18 = .ok (.ifCond .eq 22, 3) := by decide +kernel
theorem dX2_flipped_21 : decode cX2_flipped 21 = .ok (.lload_n 2, 1) := by decide +kernel
theorem dX2_flipped_22 : decode cX2_flipped 22 = .ok (.bipush 7, 2) := by decide +kernel
theorem dX2_flipped_24 : decode cX2_flipped 24 = .ok (.iload 4, 2) := by decide +kernel
theorem dX2_flipped_26 : decode cX2_flipped 26 = .ok (.bipush 8, 2) := by decide +kernel
theorem dX2_flipped_28 : decode cX2_flipped 28 = .ok (.irem, 1) := by decide +kernel
theorem dX2_flipped_29 : decode cX2_flipped 29 = .ok (.isub, 1) := by decide +kernel
theorem dX2_flipped_30 : decode cX2_flipped 30 = .ok (.iload 4, 2) := by decide +kernel
theorem dX2_flipped_32 : decode cX2_flipped 32 = .ok (.bipush 8, 2) := by decide +kernel
theorem dX2_flipped_34 : decode cX2_flipped 34 = .ok (.idiv, 1) := by decide +kernel
theorem dX2_flipped_35 : decode cX2_flipped 35 = .ok (.invokestatic 39, 3) := by decide +kernel
theorem dX2_flipped_38 : decode cX2_flipped 38 = .ok (.lor, 1) := by decide +kernel
theorem dX2_flipped_39 : decode cX2_flipped 39 = .ok (.lstore_n 2, 1) := by decide +kernel
theorem dX2_flipped_40 : decode cX2_flipped 40 = .ok (.iinc 4 1, 3) := by decide +kernel
theorem dX2_flipped_43 : decode cX2_flipped 43 = .ok (.goto (-38), 3) := by decide +kernel
theorem dX2_flipped_46 : decode cX2_flipped 46 = .ok (.lload_n 2, 1) := by decide +kernel
theorem dX2_flipped_47 : decode cX2_flipped 47 = .ok (.lreturn, 1) := by decide +kernel
theorem dX2_halved_0 : decode cX2_halved 0 = .ok (.lconst 0, 1) := by decide +kernel
theorem dX2_halved_1 : decode cX2_halved 1 = .ok (.lstore_n 3, 1) := by decide +kernel
theorem dX2_halved_2 : decode cX2_halved 2 = .ok (.iconst 0, 1) := by decide +kernel
theorem dX2_halved_3 : decode cX2_halved 3 = .ok (.istore 5, 2) := by decide +kernel
theorem dX2_halved_5 : decode cX2_halved 5 = .ok (.iload 5, 2) := by decide +kernel
theorem dX2_halved_7 : decode cX2_halved 7 = .ok (.iconst 4, 1) := by decide +kernel
theorem dX2_halved_8 : decode cX2_halved 8 = .ok (.if_icmp .ge 55, 3) := by decide +kernel
theorem dX2_halved_11 : decode cX2_halved 11 = .ok (.iconst 0, 1) := by decide +kernel
theorem dX2_halved_12 : decode cX2_halved 12 = .ok (.istore 6, 2) := by decide +kernel
theorem dX2_halved_14 : decode cX2_halved 14 = .ok (.iload 6, 2) := by decide +kernel
theorem dX2_halved_16 : decode cX2_halved 16 = .ok (.iconst 4, 1) := by decide +kernel
theorem dX2_halved_17 : decode cX2_halved 17 = .ok (.if_icmp .ge 40, 3) := by decide +kernel
theorem dX2_halved_20 : decode cX2_halved 20 = .ok (.lload_n 0, 1) := by decide +kernel
theorem dX2_halved_21 : decode cX2_halved 21 = .ok (.iload 6, 2) := by decide +kernel
theorem dX2_halved_23 : decode cX2_halved 23 = .ok (.iload 5, 2) := by decide +kernel
theorem dX2_halved_25 : decode cX2_halved 25 = .ok (.invokestatic 42, 3) := by decide +kernel
theorem dX2_halved_28 : decode cX2_halved 28 = .ok (.land, 1) := by decide +kernel
theorem dX2_halved_29 : decode cX2_halved 29 = .ok (.invokestatic 45, 3) := by decide +kernel
theorem dX2_halved_32 : decode cX2_halved 32 = .ok (.iconst 2, 1) := by decide +kernel
theorem dX2_halved_33 : decode cX2_halved 33 = .ok (.if_icmp .lt 18, 3) := by decide +kernel
theorem dX2_halved_36 : decode cX2_halved 36 = .ok (.lload_n 3, 1) := by decide +kernel
theorem dX2_halved_37 : decode cX2_halved 37 = .ok (.iload 6, 2) := by decide +kernel
theorem dX2_halved_39 : decode cX2_halved 39 = .ok (.iload 5, 2) := by decide +kernel
theorem dX2_halved_41 : decode cX2_halved 41 = .ok (.invokestatic 39, 3) := by decide +kernel
theorem dX2_halved_44 : decode cX2_halved 44 = .ok (.iload_n 2, 1) := by decide +kernel
theorem dX2_halved_45 : decode cX2_halved 45 = .ok (.invokestatic 23, 3) := by decide +kernel
theorem dX2_halved_48 : decode cX2_halved 48 = .ok (.lshl, 1) := by decide +kernel
theorem dX2_halved_49 : decode cX2_halved 49 = .ok (.lor, 1) := by decide +kernel
theorem dX2_halved_50 : decode cX2_halved 50 = .ok (.lstore_n 3, 1) := by decide +kernel
theorem dX2_halved_51 : decode cX2_halved 51 = .ok (.iinc 6 1, 3) := by decide +kernel
theorem dX2_halved_54 : decode cX2_halved 54 = .ok (.goto (-40), 3) := by decide +kernel
theorem dX2_halved_57 : decode cX2_halved 57 = .ok (.iinc 5 1, 3) := by decide +kernel
theorem dX2_halved_60 : decode cX2_halved 60 = .ok (.goto (-55), 3) := by decide +kernel
theorem dX2_halved_63 : decode cX2_halved 63 = .ok (.lload_n 3, 1) := by decide +kernel
theorem dX2_halved_64 : decode cX2_halved 64 = .ok (.lreturn, 1) := by decide +kernel
theorem dX2_grown_0 : decode cX2_grown 0 = .ok (.lconst 0, 1) := by decide +kernel
theorem dX2_grown_1 : decode cX2_grown 1 = .ok (.lstore_n 3, 1) := by decide +kernel
theorem dX2_grown_2 : decode cX2_grown 2 = .ok (.iconst 0, 1) := by decide +kernel
theorem dX2_grown_3 : decode cX2_grown 3 = .ok (.istore 5, 2) := by decide +kernel
theorem dX2_grown_5 : decode cX2_grown 5 = .ok (.iload 5, 2) := by decide +kernel
theorem dX2_grown_7 : decode cX2_grown 7 = .ok (.iconst 4, 1) := by decide +kernel
theorem dX2_grown_8 : decode cX2_grown 8 = .ok (.if_icmp .ge 54, 3) := by decide +kernel
theorem dX2_grown_11 : decode cX2_grown 11 = .ok (.iconst 0, 1) := by decide +kernel
theorem dX2_grown_12 : decode cX2_grown 12 = .ok (.istore 6, 2) := by decide +kernel
theorem dX2_grown_14 : decode cX2_grown 14 = .ok (.iload 6, 2) := by decide +kernel
theorem dX2_grown_16 : decode cX2_grown 16 = .ok (.iconst 4, 1) := by decide +kernel
theorem dX2_grown_17 : decode cX2_grown 17 = .ok (.if_icmp .ge 39, 3) := by decide +kernel
theorem dX2_grown_20 : decode cX2_grown 20 = .ok (.lload_n 0, 1) := by decide +kernel
theorem dX2_grown_21 : decode cX2_grown 21 = .ok (.iload_n 2, 1) := by decide +kernel
theorem dX2_grown_22 : decode cX2_grown 22 = .ok (.invokestatic 23, 3) := by decide +kernel
theorem dX2_grown_25 : decode cX2_grown 25 = .ok (.bipush 8, 2) := by decide +kernel
theorem dX2_grown_27 : decode cX2_grown 27 = .ok (.iload 5, 2) := by decide +kernel
theorem dX2_grown_29 : decode cX2_grown 29 = .ok (.imul, 1) := by decide +kernel
theorem dX2_grown_30 : decode cX2_grown 30 = .ok (.iadd, 1) := by decide +kernel
theorem dX2_grown_31 : decode cX2_grown 31 = .ok (.iload 6, 2) := by decide +kernel
theorem dX2_grown_33 : decode cX2_grown 33 = .ok (.iadd, 1) := by decide +kernel
theorem dX2_grown_34 : decode cX2_grown 34 = .ok (.invokestatic 35, 3) := by decide +kernel
theorem dX2_grown_37 : decode cX2_grown 37 = .ok (.ifCond .eq 13, 3) := by decide +kernel
theorem dX2_grown_40 : decode cX2_grown 40 = .ok (.lload_n 3, 1) := by decide +kernel
theorem dX2_grown_41 : decode cX2_grown 41 = .ok (.iload 6, 2) := by decide +kernel
theorem dX2_grown_43 : decode cX2_grown 43 = .ok (.iload 5, 2) := by decide +kernel
theorem dX2_grown_45 : decode cX2_grown 45 = .ok (.invokestatic 42, 3) := by decide +kernel
theorem dX2_grown_48 : decode cX2_grown 48 = .ok (.lor, 1) := by decide +kernel
theorem dX2_grown_49 : decode cX2_grown 49 = .ok (.lstore_n 3, 1) := by decide +kernel
theorem dX2_grown_50 : decode cX2_grown 50 = .ok (.iinc 6 1, 3) := by decide +kernel
theorem dX2_grown_53 : decode cX2_grown 53 = .ok (.goto (-39), 3) := by decide +kernel
theorem dX2_grown_56 : decode cX2_grown 56 = .ok (.iinc 5 1, 3) := by decide +kernel
theorem dX2_grown_59 : decode cX2_grown 59 = .ok (.goto (-54), 3) := by decide +kernel
theorem dX2_grown_62 : decode cX2_grown 62 = .ok (.lload_n 3, 1) := by decide +kernel
theorem dX2_grown_63 : decode cX2_grown 63 = .ok (.lreturn, 1) := by decide +kernel
theorem dX2_fourCells_0 : decode cX2_fourCells 0 = .ok (.ldc2_w 51, 3) := by decide +kernel
theorem dX2_fourCells_3 : decode cX2_fourCells 3 = .ok (.bipush 16, 2) := by decide +kernel
theorem dX2_fourCells_5 : decode cX2_fourCells 5 = .ok (.iload_n 1, 1) := by decide +kernel
theorem dX2_fourCells_6 : decode cX2_fourCells 6 = .ok (.imul, 1) := by decide +kernel
theorem dX2_fourCells_7 : decode cX2_fourCells 7 = .ok (.iconst 2, 1) := by decide +kernel
theorem dX2_fourCells_8 : decode cX2_fourCells 8 = .ok (.iload_n 0, 1) := by decide +kernel
theorem dX2_fourCells_9 : decode cX2_fourCells 9 = .ok (.imul, 1) := by decide +kernel
theorem dX2_fourCells_10 : decode cX2_fourCells 10 = .ok (.iadd, 1) := by decide +kernel
theorem dX2_fourCells_11 : decode cX2_fourCells 11 = .ok (.lshl, 1) := by decide +kernel
theorem dX2_fourCells_12 : decode cX2_fourCells 12 = .ok (.lreturn, 1) := by decide +kernel
theorem dX2_byWay_0 : decode cX2_byWay 0 = .ok (.iload_n 2, 1) := by decide +kernel
theorem dX2_byWay_1 : decode cX2_byWay 1 = .ok (.iconst 4, 1) := by decide +kernel
theorem dX2_byWay_2 : decode cX2_byWay 2 = .ok (.if_icmp .ge 7, 3) := by decide +kernel
theorem dX2_byWay_5 : decode cX2_byWay 5 = .ok (.lload_n 0, 1) := by decide +kernel
theorem dX2_byWay_6 : decode cX2_byWay 6 = .ok (.goto 7, 3) := by decide +kernel
theorem dX2_byWay_9 : decode cX2_byWay 9 = .ok (.lload_n 0, 1) := by decide +kernel
theorem dX2_byWay_10 : decode cX2_byWay 10 = .ok (.invokestatic 53, 3) := by decide +kernel
theorem dX2_byWay_13 : decode cX2_byWay 13 = .ok (.lstore_n 3, 1) := by decide +kernel
theorem dX2_byWay_14 : decode cX2_byWay 14 = .ok (.iconst 0, 1) := by decide +kernel
theorem dX2_byWay_15 : decode cX2_byWay 15 = .ok (.istore 5, 2) := by decide +kernel
theorem dX2_byWay_17 : decode cX2_byWay 17 = .ok (.iload 5, 2) := by decide +kernel
theorem dX2_byWay_19 : decode cX2_byWay 19 = .ok (.iload_n 2, 1) := by decide +kernel
theorem dX2_byWay_20 : decode cX2_byWay 20 = .ok (.iconst 4, 1) := by decide +kernel
theorem dX2_byWay_21 : decode cX2_byWay 21 = .ok (.irem, 1) := by decide +kernel
theorem dX2_byWay_22 : decode cX2_byWay 22 = .ok (.if_icmp .ge 14, 3) := by decide +kernel
theorem dX2_byWay_25 : decode cX2_byWay 25 = .ok (.lload_n 3, 1) := by decide +kernel
theorem dX2_byWay_26 : decode cX2_byWay 26 = .ok (.invokestatic 57, 3) := by decide +kernel
theorem dX2_byWay_29 : decode cX2_byWay 29 = .ok (.lstore_n 3, 1) := by decide +kernel
theorem dX2_byWay_30 : decode cX2_byWay 30 = .ok (.iinc 5 1, 3) := by decide +kernel
theorem dX2_byWay_33 : decode cX2_byWay 33 = .ok (.goto (-16), 3) := by decide +kernel
theorem dX2_byWay_36 : decode cX2_byWay 36 = .ok (.lload_n 3, 1) := by decide +kernel
theorem dX2_byWay_37 : decode cX2_byWay 37 = .ok (.lreturn, 1) := by decide +kernel
theorem dX2_unlike_0 : decode cX2_unlike 0 = .ok (.lload_n 0, 1) := by decide +kernel
theorem dX2_unlike_1 : decode cX2_unlike 1 = .ok (.iload 4, 2) := by decide +kernel
theorem dX2_unlike_3 : decode cX2_unlike 3 = .ok (.invokestatic 60, 3) := by decide +kernel
theorem dX2_unlike_6 : decode cX2_unlike 6 = .ok (.lload_n 2, 1) := by decide +kernel
theorem dX2_unlike_7 : decode cX2_unlike 7 = .ok (.lxor, 1) := by decide +kernel
theorem dX2_unlike_8 : decode cX2_unlike 8 = .ok (.invokestatic 45, 3) := by decide +kernel
theorem dX2_unlike_11 : decode cX2_unlike 11 = .ok (.ireturn, 1) := by decide +kernel
theorem dX2_waysAlike_0 : decode cX2_waysAlike 0 = .ok (.iconst 0, 1) := by decide +kernel
theorem dX2_waysAlike_1 : decode cX2_waysAlike 1 = .ok (.istore 4, 2) := by decide +kernel
theorem dX2_waysAlike_3 : decode cX2_waysAlike 3 = .ok (.iconst 0, 1) := by decide +kernel
theorem dX2_waysAlike_4 : decode cX2_waysAlike 4 = .ok (.istore 5, 2) := by decide +kernel
theorem dX2_waysAlike_6 : decode cX2_waysAlike 6 = .ok (.iload 5, 2) := by decide +kernel
theorem dX2_waysAlike_8 : decode cX2_waysAlike 8 = .ok (.bipush 8, 2) := by decide +kernel
theorem dX2_waysAlike_10 : decode cX2_waysAlike 10 = .ok (.if_icmp .ge 28, 3) := by decide +kernel
theorem dX2_waysAlike_13 : decode cX2_waysAlike 13 = .ok (.lload_n 0, 1) := by decide +kernel
theorem dX2_waysAlike_14 : decode cX2_waysAlike 14 = .ok (.lload_n 2, 1) := by decide +kernel
theorem dX2_waysAlike_15 : decode cX2_waysAlike 15 = .ok (.iload 5, 2) := by decide +kernel
theorem dX2_waysAlike_17 : decode cX2_waysAlike 17 = .ok (.invokestatic 64, 3) := by decide +kernel
theorem dX2_waysAlike_20 : decode cX2_waysAlike 20 = .ok (.ifCond .ne 12, 3) := by decide +kernel
theorem dX2_waysAlike_23 : decode cX2_waysAlike 23 = .ok (.iload 4, 2) := by decide +kernel
theorem dX2_waysAlike_25 : decode cX2_waysAlike 25 = .ok (.iconst 1, 1) := by decide +kernel
theorem dX2_waysAlike_26 : decode cX2_waysAlike 26 = .ok (.iload 5, 2) := by decide +kernel
theorem dX2_waysAlike_28 : decode cX2_waysAlike 28 = .ok (.ishl, 1) := by decide +kernel
theorem dX2_waysAlike_29 : decode cX2_waysAlike 29 = .ok (.ior, 1) := by decide +kernel
theorem dX2_waysAlike_30 : decode cX2_waysAlike 30 = .ok (.istore 4, 2) := by decide +kernel
theorem dX2_waysAlike_32 : decode cX2_waysAlike 32 = .ok (.iinc 5 1, 3) := by decide +kernel
theorem dX2_waysAlike_35 : decode cX2_waysAlike 35 = .ok (.goto (-29), 3) := by decide +kernel
theorem dX2_waysAlike_38 : decode cX2_waysAlike 38 = .ok (.iload 4, 2) := by decide +kernel
theorem dX2_waysAlike_40 : decode cX2_waysAlike 40 = .ok (.ireturn, 1) := by decide +kernel
theorem dX2_nearestWay_0 : decode cX2_nearestWay 0 = .ok (.iconst 0, 1) := by decide +kernel
theorem dX2_nearestWay_1 : decode cX2_nearestWay 1 = .ok (.istore 4, 2) := by decide +kernel
theorem dX2_nearestWay_3 : decode cX2_nearestWay 3 = .ok (.lload_n 0, 1) := by decide +kernel
theorem dX2_nearestWay_4 : decode cX2_nearestWay 4 = .ok (.lload_n 2, 1) := by decide +kernel
theorem dX2_nearestWay_5 : decode cX2_nearestWay 5 = .ok (.iconst 0, 1) := by decide +kernel
theorem dX2_nearestWay_6 : decode cX2_nearestWay 6 = .ok (.invokestatic 64, 3) := by decide +kernel
theorem dX2_nearestWay_9 : decode cX2_nearestWay 9 = .ok (.istore 5, 2) := by decide +kernel
theorem dX2_nearestWay_11 : decode cX2_nearestWay 11 = .ok (.iconst 1, 1) := by decide +kernel
theorem dX2_nearestWay_12 : decode cX2_nearestWay 12 = .ok (.istore 6, 2) := by decide +kernel
theorem dX2_nearestWay_14 : decode cX2_nearestWay 14 = .ok (.iload 6, 2) := by decide +kernel
theorem dX2_nearestWay_16 : decode cX2_nearestWay 16 = .ok (.bipush 8, 2) := by decide +kernel
theorem dX2_nearestWay_18 : decode cX2_nearestWay 18 = .ok (.if_icmp .ge 33, 3) := by decide +kernel
theorem dX2_nearestWay_21 : decode cX2_nearestWay 21 = .ok (.lload_n 0, 1) := by decide +kernel
theorem dX2_nearestWay_22 : decode cX2_nearestWay 22 = .ok (.lload_n 2, 1) := by decide +kernel
theorem dX2_nearestWay_23 : decode cX2_nearestWay 23 = .ok (.iload 6, 2) := by decide +kernel
theorem dX2_nearestWay_25 : decode cX2_nearestWay 25 = .ok (.invokestatic 64, 3) := by decide +kernel
theorem dX2_nearestWay_28 : decode cX2_nearestWay 28 = .ok (.istore 7, 2) := by decide +kernel
theorem dX2_nearestWay_30 : decode cX2_nearestWay 30 = .ok (.iload 7, 2) := by decide +kernel
theorem dX2_nearestWay_32 : decode cX2_nearestWay 32 = .ok (.iload 5, 2) := by decide +kernel
theorem dX2_nearestWay_34 : decode cX2_nearestWay 34 = .ok (.if_icmp .ge 11, 3) := by decide +kernel
theorem dX2_nearestWay_37 : decode cX2_nearestWay 37 = .ok (.iload 7, 2) := by decide +kernel
theorem dX2_nearestWay_39 : decode cX2_nearestWay 39 = .ok (.istore 5, 2) := by decide +kernel
theorem dX2_nearestWay_41 : decode cX2_nearestWay 41 = .ok (.iload 6, 2) := by decide +kernel
theorem dX2_nearestWay_43 : decode cX2_nearestWay 43 = .ok (.istore 4, 2) := by decide +kernel
theorem dX2_nearestWay_45 : decode cX2_nearestWay 45 = .ok (.iinc 6 1, 3) := by decide +kernel
theorem dX2_nearestWay_48 : decode cX2_nearestWay 48 = .ok (.goto (-34), 3) := by decide +kernel
theorem dX2_nearestWay_51 : decode cX2_nearestWay 51 = .ok (.iload 4, 2) := by decide +kernel
theorem dX2_nearestWay_53 : decode cX2_nearestWay 53 = .ok (.ireturn, 1) := by decide +kernel
theorem dX2_parts_0 : decode cX2_parts 0 = .ok (.lload_n 0, 1) := by decide +kernel
theorem dX2_parts_1 : decode cX2_parts 1 = .ok (.lstore_n 2, 1) := by decide +kernel
theorem dX2_parts_2 : decode cX2_parts 2 = .ok (.iconst 0, 1) := by decide +kernel
theorem dX2_parts_3 : decode cX2_parts 3 = .ok (.istore 4, 2) := by decide +kernel
theorem dX2_parts_5 : decode cX2_parts 5 = .ok (.iload 4, 2) := by decide +kernel
theorem dX2_parts_7 : decode cX2_parts 7 = .ok (.bipush 64, 2) := by decide +kernel
theorem dX2_parts_9 : decode cX2_parts 9 = .ok (.if_icmp .ge 30, 3) := by decide +kernel
theorem dX2_parts_12 : decode cX2_parts 12 = .ok (.lload_n 2, 1) := by decide +kernel
theorem dX2_parts_13 : decode cX2_parts 13 = .ok (.lconst 0, 1) := by decide +kernel
theorem dX2_parts_14 : decode cX2_parts 14 = .ok (.lcmp, 1) := by decide +kernel
theorem dX2_parts_15 : decode cX2_parts 15 = .ok (.ifCond .eq 24, 3) := by decide +kernel
theorem dX2_parts_18 : decode cX2_parts 18 = .ok (.lload_n 2, 1) := by decide +kernel
theorem dX2_parts_19 : decode cX2_parts 19 = .ok (.lload_n 2, 1) := by decide +kernel
theorem dX2_parts_20 : decode cX2_parts 20 = .ok (.lload_n 2, 1) := by decide +kernel
theorem dX2_parts_21 : decode cX2_parts 21 = .ok (.lload_n 2, 1) := by decide +kernel
theorem dX2_parts_22 : decode cX2_parts 22 = .ok (.lneg, 1) := by decide +kernel
theorem dX2_parts_23 : decode cX2_parts 23 = .ok (.land, 1) := by decide +kernel
theorem dX2_parts_24 : decode cX2_parts 24 = .ok (.invokestatic 68, 3) := by decide +kernel
theorem dX2_parts_27 : decode cX2_parts 27 = .ok (.ldc2_w 13, 3) := by decide +kernel
theorem dX2_parts_30 : decode cX2_parts 30 = .ok (.lxor, 1) := by decide +kernel
theorem dX2_parts_31 : decode cX2_parts 31 = .ok (.land, 1) := by decide +kernel
theorem dX2_parts_32 : decode cX2_parts 32 = .ok (.lstore_n 2, 1) := by decide +kernel
theorem dX2_parts_33 : decode cX2_parts 33 = .ok (.iinc 4 1, 3) := by decide +kernel
theorem dX2_parts_36 : decode cX2_parts 36 = .ok (.goto (-31), 3) := by decide +kernel
theorem dX2_parts_39 : decode cX2_parts 39 = .ok (.iload 4, 2) := by decide +kernel
theorem dX2_parts_41 : decode cX2_parts 41 = .ok (.ireturn, 1) := by decide +kernel
theorem dX2_partOf_0 : decode cX2_partOf 0 = .ok (.lload_n 2, 1) := by decide +kernel
theorem dX2_partOf_1 : decode cX2_partOf 1 = .ok (.lstore 4, 2) := by decide +kernel
theorem dX2_partOf_3 : decode cX2_partOf 3 = .ok (.iconst 0, 1) := by decide +kernel
theorem dX2_partOf_4 : decode cX2_partOf 4 = .ok (.istore 6, 2) := by decide +kernel
theorem dX2_partOf_6 : decode cX2_partOf 6 = .ok (.iload 6, 2) := by decide +kernel
theorem dX2_partOf_8 : decode cX2_partOf 8 = .ok (.bipush 64, 2) := by decide +kernel
theorem dX2_partOf_10 : decode cX2_partOf 10 = .ok (.if_icmp .ge 54, 3) := by decide +kernel
theorem dX2_partOf_13 : decode cX2_partOf 13 = .ok (.lload_n 0, 1) := by decide +kernel
theorem dX2_partOf_14 : decode cX2_partOf 14 = .ok (.lload 4, 2) := by decide +kernel
theorem dX2_partOf_16 : decode cX2_partOf 16 = .ok (.lload 4, 2) := by decide +kernel
theorem dX2_partOf_18 : decode cX2_partOf 18 = .ok (.invokestatic 72, 3) := by decide +kernel
theorem dX2_partOf_21 : decode cX2_partOf 21 = .ok (.lor, 1) := by decide +kernel
theorem dX2_partOf_22 : decode cX2_partOf 22 = .ok (.lload 4, 2) := by decide +kernel
theorem dX2_partOf_24 : decode cX2_partOf 24 = .ok (.invokestatic 75, 3) := by decide +kernel
theorem dX2_partOf_27 : decode cX2_partOf 27 = .ok (.lor, 1) := by decide +kernel
theorem dX2_partOf_28 : decode cX2_partOf 28 = .ok (.lload 4, 2) := by decide +kernel
theorem dX2_partOf_30 : decode cX2_partOf 30 = .ok (.bipush 8, 2) := by decide +kernel
theorem dX2_partOf_32 : decode cX2_partOf 32 = .ok (.lushr, 1) := by decide +kernel
theorem dX2_partOf_33 : decode cX2_partOf 33 = .ok (.lor, 1) := by decide +kernel
theorem dX2_partOf_34 : decode cX2_partOf 34 = .ok (.lload 4, 2) := by decide +kernel
theorem dX2_partOf_36 : decode cX2_partOf 36 = .ok (.bipush 8, 2) := by decide +kernel
theorem dX2_partOf_38 : decode cX2_partOf 38 = .ok (.lshl, 1) := by decide +kernel
theorem dX2_partOf_39 : decode cX2_partOf 39 = .ok (.lor, 1) := by decide +kernel
theorem dX2_partOf_40 : decode cX2_partOf 40 = .ok (.land, 1) := by decide +kernel
theorem dX2_partOf_41 : decode cX2_partOf 41 = .ok (.lstore 7, 2) := by decide +kernel
theorem dX2_partOf_43 : decode cX2_partOf 43 = .ok (.lload 7, 2) := by decide +kernel
theorem dX2_partOf_45 : decode cX2_partOf 45 = .ok (.lload 4, 2) := by decide +kernel
theorem dX2_partOf_47 : decode cX2_partOf 47 = .ok (.lcmp, 1) := by decide +kernel
theorem dX2_partOf_48 : decode cX2_partOf 48 = .ok (.ifCond .ne 6, 3) := by decide +kernel
theorem dX2_partOf_51 : decode cX2_partOf 51 = .ok (.lload 4, 2) := by decide +kernel
theorem dX2_partOf_53 : decode cX2_partOf 53 = .ok (.lreturn, 1) := by decide +kernel
theorem dX2_partOf_54 : decode cX2_partOf 54 = .ok (.lload 7, 2) := by decide +kernel
theorem dX2_partOf_56 : decode cX2_partOf 56 = .ok (.lstore 4, 2) := by decide +kernel
theorem dX2_partOf_58 : decode cX2_partOf 58 = .ok (.iinc 6 1, 3) := by decide +kernel
theorem dX2_partOf_61 : decode cX2_partOf 61 = .ok (.goto (-55), 3) := by decide +kernel
theorem dX2_partOf_64 : decode cX2_partOf 64 = .ok (.lload 4, 2) := by decide +kernel
theorem dX2_partOf_66 : decode cX2_partOf 66 = .ok (.lreturn, 1) := by decide +kernel
theorem dX2_leftOf_0 : decode cX2_leftOf 0 = .ok (.lload_n 0, 1) := by decide +kernel
theorem dX2_leftOf_1 : decode cX2_leftOf 1 = .ok (.ldc2_w 78, 3) := by decide +kernel
theorem dX2_leftOf_4 : decode cX2_leftOf 4 = .ok (.land, 1) := by decide +kernel
theorem dX2_leftOf_5 : decode cX2_leftOf 5 = .ok (.iconst 1, 1) := by decide +kernel
theorem dX2_leftOf_6 : decode cX2_leftOf 6 = .ok (.lushr, 1) := by decide +kernel
theorem dX2_leftOf_7 : decode cX2_leftOf 7 = .ok (.lreturn, 1) := by decide +kernel
theorem dX2_rightOf_0 : decode cX2_rightOf 0 = .ok (.lload_n 0, 1) := by decide +kernel
theorem dX2_rightOf_1 : decode cX2_rightOf 1 = .ok (.ldc2_w 80, 3) := by decide +kernel
theorem dX2_rightOf_4 : decode cX2_rightOf 4 = .ok (.land, 1) := by decide +kernel
theorem dX2_rightOf_5 : decode cX2_rightOf 5 = .ok (.iconst 1, 1) := by decide +kernel
theorem dX2_rightOf_6 : decode cX2_rightOf 6 = .ok (.lshl, 1) := by decide +kernel
theorem dX2_rightOf_7 : decode cX2_rightOf 7 = .ok (.lreturn, 1) := by decide +kernel
theorem dX2_rim_0 : decode cX2_rim 0 = .ok (.lload_n 0, 1) := by decide +kernel
theorem dX2_rim_1 : decode cX2_rim 1 = .ok (.lload_n 0, 1) := by decide +kernel
theorem dX2_rim_2 : decode cX2_rim 2 = .ok (.invokestatic 72, 3) := by decide +kernel
theorem dX2_rim_5 : decode cX2_rim 5 = .ok (.ldc2_w 13, 3) := by decide +kernel
theorem dX2_rim_8 : decode cX2_rim 8 = .ok (.lxor, 1) := by decide +kernel
theorem dX2_rim_9 : decode cX2_rim 9 = .ok (.land, 1) := by decide +kernel
theorem dX2_rim_10 : decode cX2_rim 10 = .ok (.invokestatic 45, 3) := by decide +kernel
theorem dX2_rim_13 : decode cX2_rim 13 = .ok (.lload_n 0, 1) := by decide +kernel
theorem dX2_rim_14 : decode cX2_rim 14 = .ok (.lload_n 0, 1) := by decide +kernel
theorem dX2_rim_15 : decode cX2_rim 15 = .ok (.invokestatic 75, 3) := by decide +kernel
theorem dX2_rim_18 : decode cX2_rim 18 = .ok (.ldc2_w 13, 3) := by decide +kernel
theorem dX2_rim_21 : decode cX2_rim 21 = .ok (.lxor, 1) := by decide +kernel
theorem dX2_rim_22 : decode cX2_rim 22 = .ok (.land, 1) := by decide +kernel
theorem dX2_rim_23 : decode cX2_rim 23 = .ok (.invokestatic 45, 3) := by decide +kernel
theorem dX2_rim_26 : decode cX2_rim 26 = .ok (.iadd, 1) := by decide +kernel
theorem dX2_rim_27 : decode cX2_rim 27 = .ok (.lload_n 0, 1) := by decide +kernel
theorem dX2_rim_28 : decode cX2_rim 28 = .ok (.lload_n 0, 1) := by decide +kernel
theorem dX2_rim_29 : decode cX2_rim 29 = .ok (.bipush 8, 2) := by decide +kernel
theorem dX2_rim_31 : decode cX2_rim 31 = .ok (.lushr, 1) := by decide +kernel
theorem dX2_rim_32 : decode cX2_rim 32 = .ok (.ldc2_w 13, 3) := by decide +kernel
theorem dX2_rim_35 : decode cX2_rim 35 = .ok (.lxor, 1) := by decide +kernel
theorem dX2_rim_36 : decode cX2_rim 36 = .ok (.land, 1) := by decide +kernel
theorem dX2_rim_37 : decode cX2_rim 37 = .ok (.invokestatic 45, 3) := by decide +kernel
theorem dX2_rim_40 : decode cX2_rim 40 = .ok (.iadd, 1) := by decide +kernel
theorem dX2_rim_41 : decode cX2_rim 41 = .ok (.lload_n 0, 1) := by decide +kernel
theorem dX2_rim_42 : decode cX2_rim 42 = .ok (.lload_n 0, 1) := by decide +kernel
theorem dX2_rim_43 : decode cX2_rim 43 = .ok (.bipush 8, 2) := by decide +kernel
theorem dX2_rim_45 : decode cX2_rim 45 = .ok (.lshl, 1) := by decide +kernel
theorem dX2_rim_46 : decode cX2_rim 46 = .ok (.ldc2_w 13, 3) := by decide +kernel
theorem dX2_rim_49 : decode cX2_rim 49 = .ok (.lxor, 1) := by decide +kernel
theorem dX2_rim_50 : decode cX2_rim 50 = .ok (.land, 1) := by decide +kernel
theorem dX2_rim_51 : decode cX2_rim 51 = .ok (.invokestatic 45, 3) := by decide +kernel
theorem dX2_rim_54 : decode cX2_rim 54 = .ok (.iadd, 1) := by decide +kernel
theorem dX2_rim_55 : decode cX2_rim 55 = .ok (.ireturn, 1) := by decide +kernel
theorem dX2_blocks_0 : decode cX2_blocks 0 = .ok (.lload_n 0, 1) := by decide +kernel
theorem dX2_blocks_1 : decode cX2_blocks 1 = .ok (.lstore_n 2, 1) := by decide +kernel
theorem dX2_blocks_2 : decode cX2_blocks 2 = .ok (.iconst 0, 1) := by decide +kernel
theorem dX2_blocks_3 : decode cX2_blocks 3 = .ok (.istore 4, 2) := by decide +kernel
theorem dX2_blocks_5 : decode cX2_blocks 5 = .ok (.iconst 0, 1) := by decide +kernel
theorem dX2_blocks_6 : decode cX2_blocks 6 = .ok (.istore 5, 2) := by decide +kernel
theorem dX2_blocks_8 : decode cX2_blocks 8 = .ok (.iload 5, 2) := by decide +kernel
theorem dX2_blocks_10 : decode cX2_blocks 10 = .ok (.iconst 3, 1) := by decide +kernel
theorem dX2_blocks_11 : decode cX2_blocks 11 = .ok (.if_icmp .gt 56, 3) := by decide +kernel
theorem dX2_blocks_14 : decode cX2_blocks 14 = .ok (.iconst 0, 1) := by decide +kernel
theorem dX2_blocks_15 : decode cX2_blocks 15 = .ok (.istore 6, 2) := by decide +kernel
theorem dX2_blocks_17 : decode cX2_blocks 17 = .ok (.iload 6, 2) := by decide +kernel
theorem dX2_blocks_19 : decode cX2_blocks 19 = .ok (.bipush 64, 2) := by decide +kernel
theorem dX2_blocks_21 : decode cX2_blocks 21 = .ok (.if_icmp .ge 40, 3) := by decide +kernel
theorem dX2_blocks_24 : decode cX2_blocks 24 = .ok (.iload 6, 2) := by decide +kernel
theorem dX2_blocks_26 : decode cX2_blocks 26 = .ok (.iload 5, 2) := by decide +kernel
theorem dX2_blocks_28 : decode cX2_blocks 28 = .ok (.invokestatic 27, 3) := by decide +kernel
theorem dX2_blocks_31 : decode cX2_blocks 31 = .ok (.lstore 7, 2) := by decide +kernel
theorem dX2_blocks_33 : decode cX2_blocks 33 = .ok (.lload_n 2, 1) := by decide +kernel
theorem dX2_blocks_34 : decode cX2_blocks 34 = .ok (.lload 7, 2) := by decide +kernel
theorem dX2_blocks_36 : decode cX2_blocks 36 = .ok (.land, 1) := by decide +kernel
theorem dX2_blocks_37 : decode cX2_blocks 37 = .ok (.lload 7, 2) := by decide +kernel
theorem dX2_blocks_39 : decode cX2_blocks 39 = .ok (.lcmp, 1) := by decide +kernel
theorem dX2_blocks_40 : decode cX2_blocks 40 = .ok (.ifCond .ne 15, 3) := by decide +kernel
theorem dX2_blocks_43 : decode cX2_blocks 43 = .ok (.lload_n 2, 1) := by decide +kernel
theorem dX2_blocks_44 : decode cX2_blocks 44 = .ok (.lload 7, 2) := by decide +kernel
theorem dX2_blocks_46 : decode cX2_blocks 46 = .ok (.ldc2_w 13, 3) := by decide +kernel
theorem dX2_blocks_49 : decode cX2_blocks 49 = .ok (.lxor, 1) := by decide +kernel
theorem dX2_blocks_50 : decode cX2_blocks 50 = .ok (.land, 1) := by decide +kernel
theorem dX2_blocks_51 : decode cX2_blocks 51 = .ok (.lstore_n 2, 1) := by decide +kernel
theorem dX2_blocks_52 : decode cX2_blocks 52 = .ok (.iinc 4 1, 3) := by decide +kernel
theorem dX2_blocks_55 : decode cX2_blocks 55 = .ok (.iinc 6 1, 3) := by decide +kernel
theorem dX2_blocks_58 : decode cX2_blocks 58 = .ok (.goto (-41), 3) := by decide +kernel
theorem dX2_blocks_61 : decode cX2_blocks 61 = .ok (.iinc 5 1, 3) := by decide +kernel
theorem dX2_blocks_64 : decode cX2_blocks 64 = .ok (.goto (-56), 3) := by decide +kernel
theorem dX2_blocks_67 : decode cX2_blocks 67 = .ok (.iload 4, 2) := by decide +kernel
theorem dX2_blocks_69 : decode cX2_blocks 69 = .ok (.ireturn, 1) := by decide +kernel
theorem dX3_init_0 : decode cX3_init 0 = .ok (.aload_n 0, 1) := by decide +kernel
theorem dX3_init_1 : decode cX3_init 1 = .ok (.invokespecial 3, 3) := by decide +kernel
theorem dX3_init_4 : decode cX3_init 4 = .ok (.aload_n 0, 1) := by decide +kernel
theorem dX3_init_5 : decode cX3_init 5 = .ok (.bipush 6, 2) := by decide +kernel
theorem dX3_init_7 : decode cX3_init 7 = .ok (.newarray .int, 2) := by decide +kernel
theorem dX3_init_9 : decode cX3_init 9 = .ok (.putfield 9, 3) := by decide +kernel
theorem dX3_init_12 : decode cX3_init 12 = .ok (.aload_n 0, 1) := by decide +kernel
theorem dX3_init_13 : decode cX3_init 13 = .ok (.bipush 6, 2) := by decide +kernel
theorem dX3_init_15 : decode cX3_init 15 = .ok (.newarray .boolean, 2) := by decide +kernel
theorem dX3_init_17 : decode cX3_init 17 = .ok (.putfield 15, 3) := by decide +kernel
theorem dX3_init_20 : decode cX3_init 20 = .ok (.aload_n 0, 1) := by decide +kernel
theorem dX3_init_21 : decode cX3_init 21 = .ok (.iconst 0, 1) := by decide +kernel
theorem dX3_init_22 : decode cX3_init 22 = .ok (.putfield 19, 3) := by decide +kernel
theorem dX3_init_25 : decode cX3_init 25 = .ok (.return_, 1) := by decide +kernel
theorem dX3_size_0 : decode cX3_size 0 = .ok (.aload_n 0, 1) := by decide +kernel
theorem dX3_size_1 : decode cX3_size 1 = .ok (.getfield 19, 3) := by decide +kernel
theorem dX3_size_4 : decode cX3_size 4 = .ok (.ireturn, 1) := by decide +kernel
theorem dX3_clear_0 : decode cX3_clear 0 = .ok (.aload_n 0, 1) := by decide +kernel
theorem dX3_clear_1 : decode cX3_clear 1 = .ok (.iconst 0, 1) := by decide +kernel
theorem dX3_clear_2 : decode cX3_clear 2 = .ok (.putfield 19, 3) := by decide +kernel
theorem dX3_clear_5 : decode cX3_clear 5 = .ok (.return_, 1) := by decide +kernel
theorem dX3_add_0 : decode cX3_add 0 = .ok (.aload_n 0, 1) := by decide +kernel
theorem dX3_add_1 : decode cX3_add 1 = .ok (.getfield 19, 3) := by decide +kernel
theorem dX3_add_4 : decode cX3_add 4 = .ok (.ifCond .lt 12, 3) := by decide +kernel
theorem dX3_add_7 : decode cX3_add 7 = .ok (.aload_n 0, 1) := by decide +kernel
theorem dX3_add_8 : decode cX3_add 8 = .ok (.getfield 19, 3) := by decide +kernel
theorem dX3_add_11 : decode cX3_add 11 = .ok (.bipush 6, 2) := by decide +kernel
theorem dX3_add_13 : decode cX3_add 13 = .ok (.if_icmp .lt 5, 3) := by decide +kernel
theorem dX3_add_16 : decode cX3_add 16 = .ok (.iconst 0, 1) := by decide +kernel
theorem dX3_add_17 : decode cX3_add 17 = .ok (.ireturn, 1) := by decide +kernel
theorem dX3_add_18 : decode cX3_add 18 = .ok (.aload_n 0, 1) := by decide +kernel
theorem dX3_add_19 : decode cX3_add 19 = .ok (.getfield 9, 3) := by decide +kernel
theorem dX3_add_22 : decode cX3_add 22 = .ok (.aload_n 0, 1) := by decide +kernel
theorem dX3_add_23 : decode cX3_add 23 = .ok (.getfield 19, 3) := by decide +kernel
theorem dX3_add_26 : decode cX3_add 26 = .ok (.iload_n 1, 1) := by decide +kernel
theorem dX3_add_27 : decode cX3_add 27 = .ok (.iastore, 1) := by decide +kernel
theorem dX3_add_28 : decode cX3_add 28 = .ok (.aload_n 0, 1) := by decide +kernel
theorem dX3_add_29 : decode cX3_add 29 = .ok (.getfield 15, 3) := by decide +kernel
theorem dX3_add_32 : decode cX3_add 32 = .ok (.aload_n 0, 1) := by decide +kernel
theorem dX3_add_33 : decode cX3_add 33 = .ok (.getfield 19, 3) := by decide +kernel
theorem dX3_add_36 : decode cX3_add 36 = .ok (.iload_n 2, 1) := by decide +kernel
theorem dX3_add_37 : decode cX3_add 37 = .ok (.bastore, 1) := by decide +kernel
theorem dX3_add_38 : decode cX3_add 38 = .ok (.aload_n 0, 1) := by decide +kernel
theorem dX3_add_39 : decode cX3_add 39 = .ok (.dup, 1) := by decide +kernel
theorem dX3_add_40 : decode cX3_add 40 = .ok (.getfield 19, 3) := by decide +kernel
theorem dX3_add_43 : decode cX3_add 43 = .ok (.iconst 1, 1) := by decide +kernel
theorem dX3_add_44 : decode cX3_add 44 = .ok (.iadd, 1) := by decide +kernel
theorem dX3_add_45 : decode cX3_add 45 = .ok (.putfield 19, 3) := by decide +kernel
theorem dX3_add_48 : decode cX3_add 48 = .ok (.iconst 1, 1) := by decide +kernel
theorem dX3_add_49 : decode cX3_add 49 = .ok (.ireturn, 1) := by decide +kernel
theorem dX3_fits_0 : decode cX3_fits 0 = .ok (.iconst 1, 1) := by decide +kernel
theorem dX3_fits_1 : decode cX3_fits 1 = .ok (.istore_n 1, 1) := by decide +kernel
theorem dX3_fits_2 : decode cX3_fits 2 = .ok (.iconst 0, 1) := by decide +kernel
theorem dX3_fits_3 : decode cX3_fits 3 = .ok (.istore_n 2, 1) := by decide +kernel
theorem dX3_fits_4 : decode cX3_fits 4 = .ok (.iload_n 2, 1) := by decide +kernel
theorem dX3_fits_5 : decode cX3_fits 5 = .ok (.iconst 4, 1) := by decide +kernel
theorem dX3_fits_6 : decode cX3_fits 6 = .ok (.if_icmp .ge 55, 3) := by decide +kernel
theorem dX3_fits_9 : decode cX3_fits 9 = .ok (.iconst 0, 1) := by decide +kernel
theorem dX3_fits_10 : decode cX3_fits 10 = .ok (.istore_n 3, 1) := by decide +kernel
theorem dX3_fits_11 : decode cX3_fits 11 = .ok (.iconst 0, 1) := by decide +kernel
theorem dX3_fits_12 : decode cX3_fits 12 = .ok (.istore 4, 2) := by decide +kernel
theorem dX3_fits_14 : decode cX3_fits 14 = .ok (.iload 4, 2) := by decide +kernel
theorem dX3_fits_16 : decode cX3_fits 16 = .ok (.getstatic 23, 3) := by decide +kernel
theorem dX3_fits_19 : decode cX3_fits 19 = .ok (.arraylength, 1) := by decide +kernel
theorem dX3_fits_20 : decode cX3_fits 20 = .ok (.if_icmp .ge 31, 3) := by decide +kernel
theorem dX3_fits_23 : decode cX3_fits 23 = .ok (.iload_n 3, 1) := by decide +kernel
theorem dX3_fits_24 : decode cX3_fits 24 = .ok (.aload_n 0, 1) := by decide +kernel
theorem dX3_fits_25 : decode cX3_fits 25 = .ok (.iload_n 2, 1) := by decide +kernel
theorem dX3_fits_26 : decode cX3_fits 26 = .ok (.getstatic 23, 3) := by decide +kernel
theorem dX3_fits_29 : decode cX3_fits 29 = .ok (.iload 4, 2) := by decide +kernel
theorem dX3_fits_31 : decode cX3_fits 31 = .ok (.iaload, 1) := by decide +kernel
theorem dX3_fits_32 : decode cX3_fits 32 = .ok (.invokevirtual 26, 3) := by decide +kernel
theorem dX3_fits_35 : decode cX3_fits 35 = .ok (.ifCond .eq 7, 3) := by decide +kernel
theorem dX3_fits_38 : decode cX3_fits 38 = .ok (.iconst 1, 1) := by decide +kernel
theorem dX3_fits_39 : decode cX3_fits 39 = .ok (.goto 4, 3) := by decide +kernel
theorem dX3_fits_42 : decode cX3_fits 42 = .ok (.iconst 0, 1) := by decide +kernel
theorem dX3_fits_43 : decode cX3_fits 43 = .ok (.iadd, 1) := by decide +kernel
theorem dX3_fits_44 : decode cX3_fits 44 = .ok (.istore_n 3, 1) := by decide +kernel
theorem dX3_fits_45 : decode cX3_fits 45 = .ok (.iinc 4 1, 3) := by decide +kernel
theorem dX3_fits_48 : decode cX3_fits 48 = .ok (.goto (-34), 3) := by decide +kernel
theorem dX3_fits_51 : decode cX3_fits 51 = .ok (.iload_n 1, 1) := by decide +kernel
theorem dX3_fits_52 : decode cX3_fits 52 = .ok (.iload_n 3, 1) := by decide +kernel
theorem dX3_fits_53 : decode cX3_fits 53 = .ok (.imul, 1) := by decide +kernel
theorem dX3_fits_54 : decode cX3_fits 54 = .ok (.istore_n 1, 1) := by decide +kernel
theorem dX3_fits_55 : decode cX3_fits 55 = .ok (.iinc 2 1, 3) := by decide +kernel
theorem dX3_fits_58 : decode cX3_fits 58 = .ok (.goto (-54), 3) := by decide +kernel
theorem dX3_fits_61 : decode cX3_fits 61 = .ok (.iload_n 1, 1) := by decide +kernel
theorem dX3_fits_62 : decode cX3_fits 62 = .ok (.ireturn, 1) := by decide +kernel
theorem dX3_firstFit_0 : decode cX3_firstFit 0 = .ok (.iconst 0, 1) := by decide +kernel
theorem dX3_firstFit_1 : decode cX3_firstFit 1 = .ok (.istore_n 1, 1) := by decide +kernel
theorem dX3_firstFit_2 : decode cX3_firstFit 2 = .ok (.iconst 0, 1) := by decide +kernel
theorem dX3_firstFit_3 : decode cX3_firstFit 3 = .ok (.istore_n 2, 1) := by decide +kernel
theorem dX3_firstFit_4 : decode cX3_firstFit 4 = .ok (.iload_n 2, 1) := by decide +kernel
theorem dX3_firstFit_5 : decode cX3_firstFit 5 = .ok (.iconst 4, 1) := by decide +kernel
theorem dX3_firstFit_6 : decode cX3_firstFit 6 = .ok (.if_icmp .ge 31, 3) := by decide +kernel
theorem dX3_firstFit_9 : decode cX3_firstFit 9 = .ok (.aload_n 0, 1) := by decide +kernel
theorem dX3_firstFit_10 : decode cX3_firstFit 10 = .ok (.iload_n 2, 1) := by decide +kernel
theorem dX3_firstFit_11 : decode cX3_firstFit 11 = .ok (.invokevirtual 30, 3) := by decide +kernel
theorem dX3_firstFit_14 : decode cX3_firstFit 14 = .ok (.istore_n 3, 1) := by decide +kernel
theorem dX3_firstFit_15 : decode cX3_firstFit 15 = .ok (.iload_n 3, 1) := by decide +kernel
theorem dX3_firstFit_16 : decode cX3_firstFit 16 = .ok (.bipush (-9), 2) := by decide +kernel
theorem dX3_firstFit_18 : decode cX3_firstFit 18 = .ok (.if_icmp .ne 6, 3) := by decide +kernel
theorem dX3_firstFit_21 : decode cX3_firstFit 21 = .ok (.bipush (-9), 2) := by decide +kernel
theorem dX3_firstFit_23 : decode cX3_firstFit 23 = .ok (.ireturn, 1) := by decide +kernel
theorem dX3_firstFit_24 : decode cX3_firstFit 24 = .ok (.bipush 10, 2) := by decide +kernel
theorem dX3_firstFit_26 : decode cX3_firstFit 26 = .ok (.iload_n 1, 1) := by decide +kernel
theorem dX3_firstFit_27 : decode cX3_firstFit 27 = .ok (.imul, 1) := by decide +kernel
theorem dX3_firstFit_28 : decode cX3_firstFit 28 = .ok (.iload_n 3, 1) := by decide +kernel
theorem dX3_firstFit_29 : decode cX3_firstFit 29 = .ok (.iadd, 1) := by decide +kernel
theorem dX3_firstFit_30 : decode cX3_firstFit 30 = .ok (.istore_n 1, 1) := by decide +kernel
theorem dX3_firstFit_31 : decode cX3_firstFit 31 = .ok (.iinc 2 1, 3) := by decide +kernel
theorem dX3_firstFit_34 : decode cX3_firstFit 34 = .ok (.goto (-30), 3) := by decide +kernel
theorem dX3_firstFit_37 : decode cX3_firstFit 37 = .ok (.iload_n 1, 1) := by decide +kernel
theorem dX3_firstFit_38 : decode cX3_firstFit 38 = .ok (.ireturn, 1) := by decide +kernel
theorem dX3_firstFigure_0 : decode cX3_firstFigure 0 = .ok (.iconst 0, 1) := by decide +kernel
theorem dX3_firstFigure_1 : decode cX3_firstFigure 1 = .ok (.istore_n 2, 1) := by decide +kernel
theorem dX3_firstFigure_2 : decode cX3_firstFigure 2 = .ok (.iload_n 2, 1) := by decide +kernel
theorem dX3_firstFigure_3 : decode cX3_firstFigure 3 = .ok (.getstatic 23, 3) := by decide +kernel
theorem dX3_firstFigure_6 : decode cX3_firstFigure 6 = .ok (.arraylength, 1) := by decide +kernel
theorem dX3_firstFigure_7 : decode cX3_firstFigure 7 = .ok (.if_icmp .ge 26, 3) := by decide +kernel
theorem dX3_firstFigure_10 : decode cX3_firstFigure 10 = .ok (.aload_n 0, 1) := by decide +kernel
theorem dX3_firstFigure_11 : decode cX3_firstFigure 11 = .ok (.iload_n 1, 1) := by decide +kernel
theorem dX3_firstFigure_12 : decode cX3_firstFigure 12 = .ok (.getstatic 23, 3) := by decide +kernel
theorem dX3_firstFigure_15 : decode cX3_firstFigure 15 = .ok (.iload_n 2, 1) := by decide +kernel
theorem dX3_firstFigure_16 : decode cX3_firstFigure 16 = .ok (.iaload, 1) := by decide +kernel
theorem dX3_firstFigure_17 : decode cX3_firstFigure 17 = .ok (.invokevirtual 26, 3) := by decide +kernel
theorem dX3_firstFigure_20 : decode cX3_firstFigure 20 = .ok (.ifCond .eq 7, 3) := by decide +kernel
theorem dX3_firstFigure_23 : decode cX3_firstFigure 23 = .ok (.iload_n 2, 1) := by decide +kernel
theorem dX3_firstFigure_24 : decode cX3_firstFigure 24 = .ok (.iconst 1, 1) := by decide +kernel
theorem dX3_firstFigure_25 : decode cX3_firstFigure 25 = .ok (.iadd, 1) := by decide +kernel
theorem dX3_firstFigure_26 : decode cX3_firstFigure 26 = .ok (.ireturn, 1) := by decide +kernel
theorem dX3_firstFigure_27 : decode cX3_firstFigure 27 = .ok (.iinc 2 1, 3) := by decide +kernel
theorem dX3_firstFigure_30 : decode cX3_firstFigure 30 = .ok (.goto (-28), 3) := by decide +kernel
theorem dX3_firstFigure_33 : decode cX3_firstFigure 33 = .ok (.bipush (-9), 2) := by decide +kernel
theorem dX3_firstFigure_35 : decode cX3_firstFigure 35 = .ok (.ireturn, 1) := by decide +kernel
theorem dX3_isSo_0 : decode cX3_isSo 0 = .ok (.iconst 0, 1) := by decide +kernel
theorem dX3_isSo_1 : decode cX3_isSo 1 = .ok (.istore_n 3, 1) := by decide +kernel
theorem dX3_isSo_2 : decode cX3_isSo 2 = .ok (.iload_n 3, 1) := by decide +kernel
theorem dX3_isSo_3 : decode cX3_isSo 3 = .ok (.aload_n 0, 1) := by decide +kernel
theorem dX3_isSo_4 : decode cX3_isSo 4 = .ok (.getfield 19, 3) := by decide +kernel
theorem dX3_isSo_7 : decode cX3_isSo 7 = .ok (.if_icmp .ge 59, 3) := by decide +kernel
theorem dX3_isSo_10 : decode cX3_isSo 10 = .ok (.iload_n 3, 1) := by decide +kernel
theorem dX3_isSo_11 : decode cX3_isSo 11 = .ok (.bipush 6, 2) := by decide +kernel
theorem dX3_isSo_13 : decode cX3_isSo 13 = .ok (.if_icmp .ge 53, 3) := by decide +kernel
theorem dX3_isSo_16 : decode cX3_isSo 16 = .ok (.iload_n 1, 1) := by decide +kernel
theorem dX3_isSo_17 : decode cX3_isSo 17 = .ok (.invokestatic 34, 3) := by decide +kernel
theorem dX3_isSo_20 : decode cX3_isSo 20 = .ok (.aload_n 0, 1) := by decide +kernel
theorem dX3_isSo_21 : decode cX3_isSo 21 = .ok (.getfield 9, 3) := by decide +kernel
theorem dX3_isSo_24 : decode cX3_isSo 24 = .ok (.iload_n 3, 1) := by decide +kernel
theorem dX3_isSo_25 : decode cX3_isSo 25 = .ok (.iaload, 1) := by decide +kernel
theorem dX3_isSo_26 : decode cX3_isSo 26 = .ok (.invokestatic 40, 3) := by decide +kernel
theorem dX3_isSo_29 : decode cX3_isSo 29 = .ok (.istore 4, 2) := by decide +kernel
theorem dX3_isSo_31 : decode cX3_isSo 31 = .ok (.iload 4, 2) := by decide +kernel
theorem dX3_isSo_33 : decode cX3_isSo 33 = .ok (.ifCond .eq 27, 3) := by decide +kernel
theorem dX3_isSo_36 : decode cX3_isSo 36 = .ok (.iload_n 2, 1) := by decide +kernel
theorem dX3_isSo_37 : decode cX3_isSo 37 = .ok (.invokestatic 44, 3) := by decide +kernel
theorem dX3_isSo_40 : decode cX3_isSo 40 = .ok (.aload_n 0, 1) := by decide +kernel
theorem dX3_isSo_41 : decode cX3_isSo 41 = .ok (.getfield 9, 3) := by decide +kernel
theorem dX3_isSo_44 : decode cX3_isSo 44 = .ok (.iload_n 3, 1) := by decide +kernel
theorem dX3_isSo_45 : decode cX3_isSo 45 = .ok (.iaload, 1) := by decide +kernel
theorem dX3_isSo_46 : decode cX3_isSo 46 = .ok (.invokestatic 40, 3) := by decide +kernel
theorem dX3_isSo_49 : decode cX3_isSo 49 = .ok (.aload_n 0, 1) := by decide +kernel
theorem dX3_isSo_50 : decode cX3_isSo 50 = .ok (.getfield 15, 3) := by decide +kernel
theorem dX3_isSo_53 : decode cX3_isSo 53 = .ok (.iload_n 3, 1) := by decide +kernel
theorem dX3_isSo_54 : decode cX3_isSo 54 = .ok (.baload, 1) := by decide +kernel
theorem dX3_isSo_55 : decode cX3_isSo 55 = .ok (.if_icmp .eq 5, 3) := by decide +kernel
theorem dX3_isSo_58 : decode cX3_isSo 58 = .ok (.iconst 0, 1) := by decide +kernel
theorem dX3_isSo_59 : decode cX3_isSo 59 = .ok (.ireturn, 1) := by decide +kernel
theorem dX3_isSo_60 : decode cX3_isSo 60 = .ok (.iinc 3 1, 3) := by decide +kernel
theorem dX3_isSo_63 : decode cX3_isSo 63 = .ok (.goto (-61), 3) := by decide +kernel
theorem dX3_isSo_66 : decode cX3_isSo 66 = .ok (.iconst 1, 1) := by decide +kernel
theorem dX3_isSo_67 : decode cX3_isSo 67 = .ok (.ireturn, 1) := by decide +kernel
theorem dX4_init_0 : decode cX4_init 0 = .ok (.aload_n 0, 1) := by decide +kernel
theorem dX4_init_1 : decode cX4_init 1 = .ok (.invokespecial 3, 3) := by decide +kernel
theorem dX4_init_4 : decode cX4_init 4 = .ok (.aload_n 0, 1) := by decide +kernel
theorem dX4_init_5 : decode cX4_init 5 = .ok (.bipush 64, 2) := by decide +kernel
theorem dX4_init_7 : decode cX4_init 7 = .ok (.newarray .int, 2) := by decide +kernel
theorem dX4_init_9 : decode cX4_init 9 = .ok (.putfield 9, 3) := by decide +kernel
theorem dX4_init_12 : decode cX4_init 12 = .ok (.aload_n 0, 1) := by decide +kernel
theorem dX4_init_13 : decode cX4_init 13 = .ok (.new 15, 3) := by decide +kernel
theorem dX4_init_16 : decode cX4_init 16 = .ok (.dup, 1) := by decide +kernel
theorem dX4_init_17 : decode cX4_init 17 = .ok (.invokespecial 17, 3) := by decide +kernel
theorem dX4_init_20 : decode cX4_init 20 = .ok (.putfield 18, 3) := by decide +kernel
theorem dX4_init_23 : decode cX4_init 23 = .ok (.aload_n 0, 1) := by decide +kernel
theorem dX4_init_24 : decode cX4_init 24 = .ok (.iconst 0, 1) := by decide +kernel
theorem dX4_init_25 : decode cX4_init 25 = .ok (.putfield 22, 3) := by decide +kernel
theorem dX4_init_28 : decode cX4_init 28 = .ok (.aload_n 0, 1) := by decide +kernel
theorem dX4_init_29 : decode cX4_init 29 = .ok (.lconst 0, 1) := by decide +kernel
theorem dX4_init_30 : decode cX4_init 30 = .ok (.putfield 26, 3) := by decide +kernel
theorem dX4_init_33 : decode cX4_init 33 = .ok (.return_, 1) := by decide +kernel
theorem dX4_size_0 : decode cX4_size 0 = .ok (.aload_n 0, 1) := by decide +kernel
theorem dX4_size_1 : decode cX4_size 1 = .ok (.getfield 22, 3) := by decide +kernel
theorem dX4_size_4 : decode cX4_size 4 = .ok (.ireturn, 1) := by decide +kernel
theorem dX4_clear_0 : decode cX4_clear 0 = .ok (.aload_n 0, 1) := by decide +kernel
theorem dX4_clear_1 : decode cX4_clear 1 = .ok (.iconst 0, 1) := by decide +kernel
theorem dX4_clear_2 : decode cX4_clear 2 = .ok (.putfield 22, 3) := by decide +kernel
theorem dX4_clear_5 : decode cX4_clear 5 = .ok (.return_, 1) := by decide +kernel
theorem dX4_add_0 : decode cX4_add 0 = .ok (.aload_n 0, 1) := by decide +kernel
theorem dX4_add_1 : decode cX4_add 1 = .ok (.getfield 22, 3) := by decide +kernel
theorem dX4_add_4 : decode cX4_add 4 = .ok (.ifCond .lt 12, 3) := by decide +kernel
theorem dX4_add_7 : decode cX4_add 7 = .ok (.aload_n 0, 1) := by decide +kernel
theorem dX4_add_8 : decode cX4_add 8 = .ok (.getfield 22, 3) := by decide +kernel
theorem dX4_add_11 : decode cX4_add 11 = .ok (.bipush 64, 2) := by decide +kernel
theorem dX4_add_13 : decode cX4_add 13 = .ok (.if_icmp .lt 5, 3) := by decide +kernel
theorem dX4_add_16 : decode cX4_add 16 = .ok (.iconst 0, 1) := by decide +kernel
theorem dX4_add_17 : decode cX4_add 17 = .ok (.ireturn, 1) := by decide +kernel
theorem dX4_add_18 : decode cX4_add 18 = .ok (.aload_n 0, 1) := by decide +kernel
theorem dX4_add_19 : decode cX4_add 19 = .ok (.getfield 9, 3) := by decide +kernel
theorem dX4_add_22 : decode cX4_add 22 = .ok (.aload_n 0, 1) := by decide +kernel
theorem dX4_add_23 : decode cX4_add 23 = .ok (.getfield 22, 3) := by decide +kernel
theorem dX4_add_26 : decode cX4_add 26 = .ok (.iload_n 1, 1) := by decide +kernel
theorem dX4_add_27 : decode cX4_add 27 = .ok (.iastore, 1) := by decide +kernel
theorem dX4_add_28 : decode cX4_add 28 = .ok (.aload_n 0, 1) := by decide +kernel
theorem dX4_add_29 : decode cX4_add 29 = .ok (.dup, 1) := by decide +kernel
theorem dX4_add_30 : decode cX4_add 30 = .ok (.getfield 22, 3) := by decide +kernel
theorem dX4_add_33 : decode cX4_add 33 = .ok (.iconst 1, 1) := by decide +kernel
theorem dX4_add_34 : decode cX4_add 34 = .ok (.iadd, 1) := by decide +kernel
theorem dX4_add_35 : decode cX4_add 35 = .ok (.putfield 22, 3) := by decide +kernel
theorem dX4_add_38 : decode cX4_add 38 = .ok (.iconst 1, 1) := by decide +kernel
theorem dX4_add_39 : decode cX4_add 39 = .ok (.ireturn, 1) := by decide +kernel
theorem dX4_firstFault_0 : decode cX4_firstFault 0 = .ok (.aload_n 0, 1) := by decide +kernel
theorem dX4_firstFault_1 : decode cX4_firstFault 1 = .ok (.getfield 18, 3) := by decide +kernel
theorem dX4_firstFault_4 : decode cX4_firstFault 4 = .ok (.invokevirtual 30, 3) := by decide +kernel
theorem dX4_firstFault_7 : decode cX4_firstFault 7 = .ok (.aload_n 0, 1) := by decide +kernel
theorem dX4_firstFault_8 : decode cX4_firstFault 8 = .ok (.lconst 0, 1) := by decide +kernel
theorem dX4_firstFault_9 : decode cX4_firstFault 9 = .ok (.putfield 26, 3) := by decide +kernel
theorem dX4_firstFault_12 : decode cX4_firstFault 12 = .ok (.iconst 0, 1) := by decide +kernel
theorem dX4_firstFault_13 : decode cX4_firstFault 13 = .ok (.istore_n 1, 1) := by decide +kernel
theorem dX4_firstFault_14 : decode cX4_firstFault 14 = .ok (.iload_n 1, 1) := by decide +kernel
theorem dX4_firstFault_15 : decode cX4_firstFault 15 = .ok (.aload_n 0, 1) := by decide +kernel
theorem dX4_firstFault_16 : decode cX4_firstFault 16 = .ok (.getfield 22, 3) := by decide +kernel
theorem dX4_firstFault_19 : decode cX4_firstFault 19 = .ok (.if_icmp .ge 30, 3) := by decide +kernel
theorem dX4_firstFault_22 : decode cX4_firstFault 22 = .ok (.iload_n 1, 1) := by decide +kernel
theorem dX4_firstFault_23 : decode cX4_firstFault 23 = .ok (.bipush 64, 2) := by decide +kernel
theorem dX4_firstFault_25 : decode cX4_firstFault 25 = .ok (.if_icmp .ge 24, 3) := by decide +kernel
theorem dX4_firstFault_28 : decode cX4_firstFault 28 = .ok (.aload_n 0, 1) := by decide +kernel
theorem dX4_firstFault_29 : decode cX4_firstFault 29 = .ok (.aload_n 0, 1) := by decide +kernel
theorem dX4_firstFault_30 : decode cX4_firstFault 30 = .ok (.getfield 9, 3) := by decide +kernel
theorem dX4_firstFault_33 : decode cX4_firstFault 33 = .ok (.iload_n 1, 1) := by decide +kernel
theorem dX4_firstFault_34 : decode cX4_firstFault 34 = .ok (.iaload, 1) := by decide +kernel
theorem dX4_firstFault_35 : decode cX4_firstFault 35 = .ok (.invokevirtual 33, 3) := by decide +kernel
theorem dX4_firstFault_38 : decode cX4_firstFault 38 = .ok (.ifCond .ne 5, 3) := by decide +kernel
theorem dX4_firstFault_41 : decode cX4_firstFault 41 = .ok (.iload_n 1, 1) := by decide +kernel
theorem dX4_firstFault_42 : decode cX4_firstFault 42 = .ok (.ireturn, 1) := by decide +kernel
theorem dX4_firstFault_43 : decode cX4_firstFault 43 = .ok (.iinc 1 1, 3) := by decide +kernel
theorem dX4_firstFault_46 : decode cX4_firstFault 46 = .ok (.goto (-32), 3) := by decide +kernel
theorem dX4_firstFault_49 : decode cX4_firstFault 49 = .ok (.aload_n 0, 1) := by decide +kernel
theorem dX4_firstFault_50 : decode cX4_firstFault 50 = .ok (.getfield 18, 3) := by decide +kernel
theorem dX4_firstFault_53 : decode cX4_firstFault 53 = .ok (.invokevirtual 37, 3) := by decide +kernel
theorem dX4_firstFault_56 : decode cX4_firstFault 56 = .ok (.ifCond .eq 8, 3) := by decide +kernel
theorem dX4_firstFault_59 : decode cX4_firstFault 59 = .ok (.bipush (-9), 2) := by decide +kernel
theorem dX4_firstFault_61 : decode cX4_firstFault 61 = .ok (.goto 7, 3) := by decide +kernel
theorem dX4_firstFault_64 : decode cX4_firstFault 64 = .ok (.aload_n 0, 1) := by decide +kernel
theorem dX4_firstFault_65 : decode cX4_firstFault 65 = .ok (.getfield 22, 3) := by decide +kernel
theorem dX4_firstFault_68 : decode cX4_firstFault 68 = .ok (.ireturn, 1) := by decide +kernel
theorem dX4_drawn_0 : decode cX4_drawn 0 = .ok (.aload_n 0, 1) := by decide +kernel
theorem dX4_drawn_1 : decode cX4_drawn 1 = .ok (.getfield 26, 3) := by decide +kernel
theorem dX4_drawn_4 : decode cX4_drawn 4 = .ok (.lreturn, 1) := by decide +kernel
theorem dX4_reads_0 : decode cX4_reads 0 = .ok (.aload_n 0, 1) := by decide +kernel
theorem dX4_reads_1 : decode cX4_reads 1 = .ok (.getfield 18, 3) := by decide +kernel
theorem dX4_reads_4 : decode cX4_reads 4 = .ok (.invokevirtual 37, 3) := by decide +kernel
theorem dX4_reads_7 : decode cX4_reads 7 = .ok (.ifCond .eq 5, 3) := by decide +kernel
theorem dX4_reads_10 : decode cX4_reads 10 = .ok (.iconst 0, 1) := by decide +kernel
theorem dX4_reads_11 : decode cX4_reads 11 = .ok (.ireturn, 1) := by decide +kernel
theorem dX4_reads_12 : decode cX4_reads 12 = .ok (.iload_n 1, 1) := by decide +kernel
theorem dX4_reads_13 : decode cX4_reads 13 = .ok (.bipush 113, 2) := by decide +kernel
theorem dX4_reads_15 : decode cX4_reads 15 = .ok (.if_icmp .ne 11, 3) := by decide +kernel
theorem dX4_reads_18 : decode cX4_reads 18 = .ok (.aload_n 0, 1) := by decide +kernel
theorem dX4_reads_19 : decode cX4_reads 19 = .ok (.getfield 18, 3) := by decide +kernel
theorem dX4_reads_22 : decode cX4_reads 22 = .ok (.invokevirtual 41, 3) := by decide +kernel
theorem dX4_reads_25 : decode cX4_reads 25 = .ok (.ireturn, 1) := by decide +kernel
theorem dX4_reads_26 : decode cX4_reads 26 = .ok (.iload_n 1, 1) := by decide +kernel
theorem dX4_reads_27 : decode cX4_reads 27 = .ok (.invokestatic 44, 3) := by decide +kernel
theorem dX4_reads_30 : decode cX4_reads 30 = .ok (.ifCond .ne 5, 3) := by decide +kernel
theorem dX4_reads_33 : decode cX4_reads 33 = .ok (.iconst 0, 1) := by decide +kernel
theorem dX4_reads_34 : decode cX4_reads 34 = .ok (.ireturn, 1) := by decide +kernel
theorem dX4_reads_35 : decode cX4_reads 35 = .ok (.aload_n 0, 1) := by decide +kernel
theorem dX4_reads_36 : decode cX4_reads 36 = .ok (.dup, 1) := by decide +kernel
theorem dX4_reads_37 : decode cX4_reads 37 = .ok (.getfield 26, 3) := by decide +kernel
theorem dX4_reads_40 : decode cX4_reads 40 = .ok (.aload_n 0, 1) := by decide +kernel
theorem dX4_reads_41 : decode cX4_reads 41 = .ok (.getfield 18, 3) := by decide +kernel
theorem dX4_reads_44 : decode cX4_reads 44 = .ok (.invokevirtual 49, 3) := by decide +kernel
theorem dX4_reads_47 : decode cX4_reads 47 = .ok (.iload_n 1, 1) := by decide +kernel
theorem dX4_reads_48 : decode cX4_reads 48 = .ok (.invokestatic 53, 3) := by decide +kernel
theorem dX4_reads_51 : decode cX4_reads 51 = .ok (.land, 1) := by decide +kernel
theorem dX4_reads_52 : decode cX4_reads 52 = .ok (.lor, 1) := by decide +kernel
theorem dX4_reads_53 : decode cX4_reads 53 = .ok (.putfield 26, 3) := by decide +kernel
theorem dX4_reads_56 : decode cX4_reads 56 = .ok (.aload_n 0, 1) := by decide +kernel
theorem dX4_reads_57 : decode cX4_reads 57 = .ok (.getfield 18, 3) := by decide +kernel
theorem dX4_reads_60 : decode cX4_reads 60 = .ok (.invokevirtual 57, 3) := by decide +kernel
theorem dX4_reads_63 : decode cX4_reads 63 = .ok (.iconst 1, 1) := by decide +kernel
theorem dX4_reads_64 : decode cX4_reads 64 = .ok (.ireturn, 1) := by decide +kernel
theorem dX5_init_0 : decode cX5_init 0 = .ok (.aload_n 0, 1) := by decide +kernel
theorem dX5_init_1 : decode cX5_init 1 = .ok (.invokespecial 3, 3) := by decide +kernel
theorem dX5_init_4 : decode cX5_init 4 = .ok (.aload_n 0, 1) := by decide +kernel
theorem dX5_init_5 : decode cX5_init 5 = .ok (.iconst 0, 1) := by decide +kernel
theorem dX5_init_6 : decode cX5_init 6 = .ok (.putfield 9, 3) := by decide +kernel
theorem dX5_init_9 : decode cX5_init 9 = .ok (.aload_n 0, 1) := by decide +kernel
theorem dX5_init_10 : decode cX5_init 10 = .ok (.iconst 0, 1) := by decide +kernel
theorem dX5_init_11 : decode cX5_init 11 = .ok (.putfield 15, 3) := by decide +kernel
theorem dX5_init_14 : decode cX5_init 14 = .ok (.return_, 1) := by decide +kernel
theorem dX5_start_0 : decode cX5_start 0 = .ok (.aload_n 0, 1) := by decide +kernel
theorem dX5_start_1 : decode cX5_start 1 = .ok (.iconst 0, 1) := by decide +kernel
theorem dX5_start_2 : decode cX5_start 2 = .ok (.putfield 9, 3) := by decide +kernel
theorem dX5_start_5 : decode cX5_start 5 = .ok (.aload_n 0, 1) := by decide +kernel
theorem dX5_start_6 : decode cX5_start 6 = .ok (.iconst 0, 1) := by decide +kernel
theorem dX5_start_7 : decode cX5_start 7 = .ok (.putfield 15, 3) := by decide +kernel
theorem dX5_start_10 : decode cX5_start 10 = .ok (.return_, 1) := by decide +kernel
theorem dX5_hasEnded_0 : decode cX5_hasEnded 0 = .ok (.aload_n 0, 1) := by decide +kernel
theorem dX5_hasEnded_1 : decode cX5_hasEnded 1 = .ok (.getfield 9, 3) := by decide +kernel
theorem dX5_hasEnded_4 : decode cX5_hasEnded 4 = .ok (.bipush 64, 2) := by decide +kernel
theorem dX5_hasEnded_6 : decode cX5_hasEnded 6 = .ok (.if_icmp .lt 7, 3) := by decide +kernel
theorem dX5_hasEnded_9 : decode cX5_hasEnded 9 = .ok (.iconst 1, 1) := by decide +kernel
theorem dX5_hasEnded_10 : decode cX5_hasEnded 10 = .ok (.goto 4, 3) := by decide +kernel
theorem dX5_hasEnded_13 : decode cX5_hasEnded 13 = .ok (.iconst 0, 1) := by decide +kernel
theorem dX5_hasEnded_14 : decode cX5_hasEnded 14 = .ok (.ireturn, 1) := by decide +kernel
theorem dX5_square_0 : decode cX5_square 0 = .ok (.aload_n 0, 1) := by decide +kernel
theorem dX5_square_1 : decode cX5_square 1 = .ok (.invokevirtual 18, 3) := by decide +kernel
theorem dX5_square_4 : decode cX5_square 4 = .ok (.aload_n 0, 1) := by decide +kernel
theorem dX5_square_5 : decode cX5_square 5 = .ok (.getfield 15, 3) := by decide +kernel
theorem dX5_square_8 : decode cX5_square 8 = .ok (.invokestatic 22, 3) := by decide +kernel
theorem dX5_square_11 : decode cX5_square 11 = .ok (.lreturn, 1) := by decide +kernel
theorem dX5_cut_0 : decode cX5_cut 0 = .ok (.aload_n 0, 1) := by decide +kernel
theorem dX5_cut_1 : decode cX5_cut 1 = .ok (.getfield 15, 3) := by decide +kernel
theorem dX5_cut_4 : decode cX5_cut 4 = .ok (.iconst 3, 1) := by decide +kernel
theorem dX5_cut_5 : decode cX5_cut 5 = .ok (.if_icmp .lt 5, 3) := by decide +kernel
theorem dX5_cut_8 : decode cX5_cut 8 = .ok (.iconst 0, 1) := by decide +kernel
theorem dX5_cut_9 : decode cX5_cut 9 = .ok (.ireturn, 1) := by decide +kernel
theorem dX5_cut_10 : decode cX5_cut 10 = .ok (.aload_n 0, 1) := by decide +kernel
theorem dX5_cut_11 : decode cX5_cut 11 = .ok (.dup, 1) := by decide +kernel
theorem dX5_cut_12 : decode cX5_cut 12 = .ok (.getfield 15, 3) := by decide +kernel
theorem dX5_cut_15 : decode cX5_cut 15 = .ok (.iconst 1, 1) := by decide +kernel
theorem dX5_cut_16 : decode cX5_cut 16 = .ok (.iadd, 1) := by decide +kernel
theorem dX5_cut_17 : decode cX5_cut 17 = .ok (.putfield 15, 3) := by decide +kernel
theorem dX5_cut_20 : decode cX5_cut 20 = .ok (.iconst 1, 1) := by decide +kernel
theorem dX5_cut_21 : decode cX5_cut 21 = .ok (.ireturn, 1) := by decide +kernel
theorem dX5_pass_0 : decode cX5_pass 0 = .ok (.aload_n 0, 1) := by decide +kernel
theorem dX5_pass_1 : decode cX5_pass 1 = .ok (.dup, 1) := by decide +kernel
theorem dX5_pass_2 : decode cX5_pass 2 = .ok (.getfield 9, 3) := by decide +kernel
theorem dX5_pass_5 : decode cX5_pass 5 = .ok (.aload_n 0, 1) := by decide +kernel
theorem dX5_pass_6 : decode cX5_pass 6 = .ok (.getfield 15, 3) := by decide +kernel
theorem dX5_pass_9 : decode cX5_pass 9 = .ok (.invokestatic 28, 3) := by decide +kernel
theorem dX5_pass_12 : decode cX5_pass 12 = .ok (.iadd, 1) := by decide +kernel
theorem dX5_pass_13 : decode cX5_pass 13 = .ok (.putfield 9, 3) := by decide +kernel
theorem dX5_pass_16 : decode cX5_pass 16 = .ok (.aload_n 0, 1) := by decide +kernel
theorem dX5_pass_17 : decode cX5_pass 17 = .ok (.getfield 15, 3) := by decide +kernel
theorem dX5_pass_20 : decode cX5_pass 20 = .ok (.ifCond .le 35, 3) := by decide +kernel
theorem dX5_pass_23 : decode cX5_pass 23 = .ok (.aload_n 0, 1) := by decide +kernel
theorem dX5_pass_24 : decode cX5_pass 24 = .ok (.getfield 9, 3) := by decide +kernel
theorem dX5_pass_27 : decode cX5_pass 27 = .ok (.aload_n 0, 1) := by decide +kernel
theorem dX5_pass_28 : decode cX5_pass 28 = .ok (.getfield 15, 3) := by decide +kernel
theorem dX5_pass_31 : decode cX5_pass 31 = .ok (.iconst 1, 1) := by decide +kernel
theorem dX5_pass_32 : decode cX5_pass 32 = .ok (.isub, 1) := by decide +kernel
theorem dX5_pass_33 : decode cX5_pass 33 = .ok (.invokestatic 28, 3) := by decide +kernel
theorem dX5_pass_36 : decode cX5_pass 36 = .ok (.iconst 1, 1) := by decide +kernel
theorem dX5_pass_37 : decode cX5_pass 37 = .ok (.isub, 1) := by decide +kernel
theorem dX5_pass_38 : decode cX5_pass 38 = .ok (.iand, 1) := by decide +kernel
theorem dX5_pass_39 : decode cX5_pass 39 = .ok (.ifCond .ne 16, 3) := by decide +kernel
theorem dX5_pass_42 : decode cX5_pass 42 = .ok (.aload_n 0, 1) := by decide +kernel
theorem dX5_pass_43 : decode cX5_pass 43 = .ok (.dup, 1) := by decide +kernel
theorem dX5_pass_44 : decode cX5_pass 44 = .ok (.getfield 15, 3) := by decide +kernel
theorem dX5_pass_47 : decode cX5_pass 47 = .ok (.iconst 1, 1) := by decide +kernel
theorem dX5_pass_48 : decode cX5_pass 48 = .ok (.isub, 1) := by decide +kernel
theorem dX5_pass_49 : decode cX5_pass 49 = .ok (.putfield 15, 3) := by decide +kernel
theorem dX5_pass_52 : decode cX5_pass 52 = .ok (.goto (-36), 3) := by decide +kernel
theorem dX5_pass_55 : decode cX5_pass 55 = .ok (.return_, 1) := by decide +kernel
theorem dX5_sizeAt_0 : decode cX5_sizeAt 0 = .ok (.bipush 64, 2) := by decide +kernel
theorem dX5_sizeAt_2 : decode cX5_sizeAt 2 = .ok (.iconst 2, 1) := by decide +kernel
theorem dX5_sizeAt_3 : decode cX5_sizeAt 3 = .ok (.iload_n 0, 1) := by decide +kernel
theorem dX5_sizeAt_4 : decode cX5_sizeAt 4 = .ok (.imul, 1) := by decide +kernel
theorem dX5_sizeAt_5 : decode cX5_sizeAt 5 = .ok (.ishr, 1) := by decide +kernel
theorem dX5_sizeAt_6 : decode cX5_sizeAt 6 = .ok (.ireturn, 1) := by decide +kernel
theorem dX5_leastLength_0 : decode cX5_leastLength 0 = .ok (.aload_n 0, 1) := by decide +kernel
theorem dX5_leastLength_1 : decode cX5_leastLength 1 = .ok (.invokevirtual 32, 3) := by decide +kernel
theorem dX5_leastLength_4 : decode cX5_leastLength 4 = .ok (.iconst 0, 1) := by decide +kernel
theorem dX5_leastLength_5 : decode cX5_leastLength 5 = .ok (.istore_n 3, 1) := by decide +kernel
theorem dX5_leastLength_6 : decode cX5_leastLength 6 = .ok (.iload_n 3, 1) := by decide +kernel
theorem dX5_leastLength_7 : decode cX5_leastLength 7 = .ok (.bipush 85, 2) := by decide +kernel
theorem dX5_leastLength_9 : decode cX5_leastLength 9 = .ok (.if_icmp .ge 21, 3) := by decide +kernel
theorem dX5_leastLength_12 : decode cX5_leastLength 12 = .ok (.aload_n 0, 1) := by decide +kernel
theorem dX5_leastLength_13 : decode cX5_leastLength 13 = .ok (.invokevirtual 35, 3) := by decide +kernel
theorem dX5_leastLength_16 : decode cX5_leastLength 16 = .ok (.ifCond .ne 14, 3) := by decide +kernel
theorem dX5_leastLength_19 : decode cX5_leastLength 19 = .ok (.aload_n 0, 1) := by decide +kernel
theorem dX5_leastLength_20 : decode cX5_leastLength 20 = .ok (.lload_n 1, 1) := by decide +kernel
theorem dX5_leastLength_21 : decode cX5_leastLength 21 = .ok (.invokevirtual 39, 3) := by decide +kernel
theorem dX5_leastLength_24 : decode cX5_leastLength 24 = .ok (.iinc 3 1, 3) := by decide +kernel
theorem dX5_leastLength_27 : decode cX5_leastLength 27 = .ok (.goto (-21), 3) := by decide +kernel
theorem dX5_leastLength_30 : decode cX5_leastLength 30 = .ok (.iload_n 3, 1) := by decide +kernel
theorem dX5_leastLength_31 : decode cX5_leastLength 31 = .ok (.ireturn, 1) := by decide +kernel
theorem dX5_leastLetter_0 : decode cX5_leastLetter 0 = .ok (.iload_n 3, 1) := by decide +kernel
theorem dX5_leastLetter_1 : decode cX5_leastLetter 1 = .ok (.ifCond .lt 9, 3) := by decide +kernel
theorem dX5_leastLetter_4 : decode cX5_leastLetter 4 = .ok (.iload_n 3, 1) := by decide +kernel
theorem dX5_leastLetter_5 : decode cX5_leastLetter 5 = .ok (.bipush 85, 2) := by decide +kernel
theorem dX5_leastLetter_7 : decode cX5_leastLetter 7 = .ok (.if_icmp .lt 6, 3) := by decide +kernel
theorem dX5_leastLetter_10 : decode cX5_leastLetter 10 = .ok (.bipush (-9), 2) := by decide +kernel
theorem dX5_leastLetter_12 : decode cX5_leastLetter 12 = .ok (.ireturn, 1) := by decide +kernel
theorem dX5_leastLetter_13 : decode cX5_leastLetter 13 = .ok (.aload_n 0, 1) := by decide +kernel
theorem dX5_leastLetter_14 : decode cX5_leastLetter 14 = .ok (.invokevirtual 32, 3) := by decide +kernel
theorem dX5_leastLetter_17 : decode cX5_leastLetter 17 = .ok (.iconst 0, 1) := by decide +kernel
theorem dX5_leastLetter_18 : decode cX5_leastLetter 18 = .ok (.istore 4, 2) := by decide +kernel
theorem dX5_leastLetter_20 : decode cX5_leastLetter 20 = .ok (.iload 4, 2) := by decide +kernel
theorem dX5_leastLetter_22 : decode cX5_leastLetter 22 = .ok (.iload_n 3, 1) := by decide +kernel
theorem dX5_leastLetter_23 : decode cX5_leastLetter 23 = .ok (.if_icmp .ge 21, 3) := by decide +kernel
theorem dX5_leastLetter_26 : decode cX5_leastLetter 26 = .ok (.aload_n 0, 1) := by decide +kernel
theorem dX5_leastLetter_27 : decode cX5_leastLetter 27 = .ok (.invokevirtual 35, 3) := by decide +kernel
theorem dX5_leastLetter_30 : decode cX5_leastLetter 30 = .ok (.ifCond .ne 14, 3) := by decide +kernel
theorem dX5_leastLetter_33 : decode cX5_leastLetter 33 = .ok (.aload_n 0, 1) := by decide +kernel
theorem dX5_leastLetter_34 : decode cX5_leastLetter 34 = .ok (.lload_n 1, 1) := by decide +kernel
theorem dX5_leastLetter_35 : decode cX5_leastLetter 35 = .ok (.invokevirtual 39, 3) := by decide +kernel
theorem dX5_leastLetter_38 : decode cX5_leastLetter 38 = .ok (.iinc 4 1, 3) := by decide +kernel
theorem dX5_leastLetter_41 : decode cX5_leastLetter 41 = .ok (.goto (-21), 3) := by decide +kernel
theorem dX5_leastLetter_44 : decode cX5_leastLetter 44 = .ok (.aload_n 0, 1) := by decide +kernel
theorem dX5_leastLetter_45 : decode cX5_leastLetter 45 = .ok (.invokevirtual 35, 3) := by decide +kernel
theorem dX5_leastLetter_48 : decode cX5_leastLetter 48 = .ok (.ifCond .eq 8, 3) := by decide +kernel
theorem dX5_leastLetter_51 : decode cX5_leastLetter 51 = .ok (.bipush (-9), 2) := by decide +kernel
theorem dX5_leastLetter_53 : decode cX5_leastLetter 53 = .ok (.goto 11, 3) := by decide +kernel
theorem dX5_leastLetter_56 : decode cX5_leastLetter 56 = .ok (.lload_n 1, 1) := by decide +kernel
theorem dX5_leastLetter_57 : decode cX5_leastLetter 57 = .ok (.aload_n 0, 1) := by decide +kernel
theorem dX5_leastLetter_58 : decode cX5_leastLetter 58 = .ok (.invokevirtual 43, 3) := by decide +kernel
theorem dX5_leastLetter_61 : decode cX5_leastLetter 61 = .ok (.invokestatic 47, 3) := by decide +kernel
theorem dX5_leastLetter_64 : decode cX5_leastLetter 64 = .ok (.ireturn, 1) := by decide +kernel
theorem dX5_step_0 : decode cX5_step 0 = .ok (.lload_n 1, 1) := by decide +kernel
theorem dX5_step_1 : decode cX5_step 1 = .ok (.aload_n 0, 1) := by decide +kernel
theorem dX5_step_2 : decode cX5_step 2 = .ok (.invokevirtual 43, 3) := by decide +kernel
theorem dX5_step_5 : decode cX5_step 5 = .ok (.invokestatic 47, 3) := by decide +kernel
theorem dX5_step_8 : decode cX5_step 8 = .ok (.bipush 113, 2) := by decide +kernel
theorem dX5_step_10 : decode cX5_step 10 = .ok (.if_icmp .ne 10, 3) := by decide +kernel
theorem dX5_step_13 : decode cX5_step 13 = .ok (.aload_n 0, 1) := by decide +kernel
theorem dX5_step_14 : decode cX5_step 14 = .ok (.invokevirtual 51, 3) := by decide +kernel
theorem dX5_step_17 : decode cX5_step 17 = .ok (.ifCond .ne 7, 3) := by decide +kernel
theorem dX5_step_20 : decode cX5_step 20 = .ok (.aload_n 0, 1) := by decide +kernel
theorem dX5_step_21 : decode cX5_step 21 = .ok (.invokevirtual 54, 3) := by decide +kernel
theorem dX5_step_24 : decode cX5_step 24 = .ok (.return_, 1) := by decide +kernel
theorem dX5_cell_0 : decode cX5_cell 0 = .ok (.aload_n 0, 1) := by decide +kernel
theorem dX5_cell_1 : decode cX5_cell 1 = .ok (.getfield 9, 3) := by decide +kernel
theorem dX5_cell_4 : decode cX5_cell 4 = .ok (.iconst 1, 1) := by decide +kernel
theorem dX5_cell_5 : decode cX5_cell 5 = .ok (.iand, 1) := by decide +kernel
theorem dX5_cell_6 : decode cX5_cell 6 = .ok (.aload_n 0, 1) := by decide +kernel
theorem dX5_cell_7 : decode cX5_cell 7 = .ok (.getfield 9, 3) := by decide +kernel
theorem dX5_cell_10 : decode cX5_cell 10 = .ok (.iconst 1, 1) := by decide +kernel
theorem dX5_cell_11 : decode cX5_cell 11 = .ok (.ishr, 1) := by decide +kernel
theorem dX5_cell_12 : decode cX5_cell 12 = .ok (.iconst 2, 1) := by decide +kernel
theorem dX5_cell_13 : decode cX5_cell 13 = .ok (.iand, 1) := by decide +kernel
theorem dX5_cell_14 : decode cX5_cell 14 = .ok (.ior, 1) := by decide +kernel
theorem dX5_cell_15 : decode cX5_cell 15 = .ok (.aload_n 0, 1) := by decide +kernel
theorem dX5_cell_16 : decode cX5_cell 16 = .ok (.getfield 9, 3) := by decide +kernel
theorem dX5_cell_19 : decode cX5_cell 19 = .ok (.iconst 2, 1) := by decide +kernel
theorem dX5_cell_20 : decode cX5_cell 20 = .ok (.ishr, 1) := by decide +kernel
theorem dX5_cell_21 : decode cX5_cell 21 = .ok (.iconst 4, 1) := by decide +kernel
theorem dX5_cell_22 : decode cX5_cell 22 = .ok (.iand, 1) := by decide +kernel
theorem dX5_cell_23 : decode cX5_cell 23 = .ok (.ior, 1) := by decide +kernel
theorem dX5_cell_24 : decode cX5_cell 24 = .ok (.istore_n 1, 1) := by decide +kernel
theorem dX5_cell_25 : decode cX5_cell 25 = .ok (.aload_n 0, 1) := by decide +kernel
theorem dX5_cell_26 : decode cX5_cell 26 = .ok (.getfield 9, 3) := by decide +kernel
theorem dX5_cell_29 : decode cX5_cell 29 = .ok (.iconst 1, 1) := by decide +kernel
theorem dX5_cell_30 : decode cX5_cell 30 = .ok (.ishr, 1) := by decide +kernel
theorem dX5_cell_31 : decode cX5_cell 31 = .ok (.iconst 1, 1) := by decide +kernel
theorem dX5_cell_32 : decode cX5_cell 32 = .ok (.iand, 1) := by decide +kernel
theorem dX5_cell_33 : decode cX5_cell 33 = .ok (.aload_n 0, 1) := by decide +kernel
theorem dX5_cell_34 : decode cX5_cell 34 = .ok (.getfield 9, 3) := by decide +kernel
theorem dX5_cell_37 : decode cX5_cell 37 = .ok (.iconst 2, 1) := by decide +kernel
theorem dX5_cell_38 : decode cX5_cell 38 = .ok (.ishr, 1) := by decide +kernel
theorem dX5_cell_39 : decode cX5_cell 39 = .ok (.iconst 2, 1) := by decide +kernel
theorem dX5_cell_40 : decode cX5_cell 40 = .ok (.iand, 1) := by decide +kernel
theorem dX5_cell_41 : decode cX5_cell 41 = .ok (.ior, 1) := by decide +kernel
theorem dX5_cell_42 : decode cX5_cell 42 = .ok (.aload_n 0, 1) := by decide +kernel
theorem dX5_cell_43 : decode cX5_cell 43 = .ok (.getfield 9, 3) := by decide +kernel
theorem dX5_cell_46 : decode cX5_cell 46 = .ok (.iconst 3, 1) := by decide +kernel
theorem dX5_cell_47 : decode cX5_cell 47 = .ok (.ishr, 1) := by decide +kernel
theorem dX5_cell_48 : decode cX5_cell 48 = .ok (.iconst 4, 1) := by decide +kernel
theorem dX5_cell_49 : decode cX5_cell 49 = .ok (.iand, 1) := by decide +kernel
theorem dX5_cell_50 : decode cX5_cell 50 = .ok (.ior, 1) := by decide +kernel
theorem dX5_cell_51 : decode cX5_cell 51 = .ok (.istore_n 2, 1) := by decide +kernel
theorem dX5_cell_52 : decode cX5_cell 52 = .ok (.bipush 8, 2) := by decide +kernel
theorem dX5_cell_54 : decode cX5_cell 54 = .ok (.iload_n 2, 1) := by decide +kernel
theorem dX5_cell_55 : decode cX5_cell 55 = .ok (.imul, 1) := by decide +kernel
theorem dX5_cell_56 : decode cX5_cell 56 = .ok (.iload_n 1, 1) := by decide +kernel
theorem dX5_cell_57 : decode cX5_cell 57 = .ok (.iadd, 1) := by decide +kernel
theorem dX5_cell_58 : decode cX5_cell 58 = .ok (.ireturn, 1) := by decide +kernel
theorem dJ13_bitCount_95d88_0 : decode cJ13_bitCount_95d88 0 = .ok (.lload_n 0, 1) := by decide +kernel
theorem dJ13_bitCount_95d88_1 : decode cJ13_bitCount_95d88 1 = .ok (.lload_n 0, 1) := by decide +kernel
theorem dJ13_bitCount_95d88_2 : decode cJ13_bitCount_95d88 2 = .ok (.iconst 1, 1) := by decide +kernel
theorem dJ13_bitCount_95d88_3 : decode cJ13_bitCount_95d88 3 = .ok (.lushr, 1) := by decide +kernel
theorem dJ13_bitCount_95d88_4 : decode cJ13_bitCount_95d88 4 = .ok (.ldc2_w 314, 3) := by decide +kernel
theorem dJ13_bitCount_95d88_7 : decode cJ13_bitCount_95d88 7 = .ok (.land, 1) := by decide +kernel
theorem dJ13_bitCount_95d88_8 : decode cJ13_bitCount_95d88 8 = .ok (.lsub, 1) := by decide +kernel
theorem dJ13_bitCount_95d88_9 : decode cJ13_bitCount_95d88 9 = .ok (.lstore_n 0, 1) := by decide +kernel
theorem dJ13_bitCount_95d88_10 : decode cJ13_bitCount_95d88 10 = .ok (.lload_n 0, 1) := by decide +kernel
theorem dJ13_bitCount_95d88_11 : decode cJ13_bitCount_95d88 11 = .ok (.ldc2_w 316, 3) := by decide +kernel
theorem dJ13_bitCount_95d88_14 : decode cJ13_bitCount_95d88 14 = .ok (.land, 1) := by decide +kernel
theorem dJ13_bitCount_95d88_15 : decode cJ13_bitCount_95d88 15 = .ok (.lload_n 0, 1) := by decide +kernel
theorem dJ13_bitCount_95d88_16 : decode cJ13_bitCount_95d88 16 = .ok (.iconst 2, 1) := by decide +kernel
theorem dJ13_bitCount_95d88_17 : decode cJ13_bitCount_95d88 17 = .ok (.lushr, 1) := by decide +kernel
theorem dJ13_bitCount_95d88_18 : decode cJ13_bitCount_95d88 18 = .ok (.ldc2_w 316, 3) := by decide +kernel
theorem dJ13_bitCount_95d88_21 : decode cJ13_bitCount_95d88 21 = .ok (.land, 1) := by decide +kernel
theorem dJ13_bitCount_95d88_22 : decode cJ13_bitCount_95d88 22 = .ok (.ladd, 1) := by decide +kernel
theorem dJ13_bitCount_95d88_23 : decode cJ13_bitCount_95d88 23 = .ok (.lstore_n 0, 1) := by decide +kernel
theorem dJ13_bitCount_95d88_24 : decode cJ13_bitCount_95d88 24 = .ok (.lload_n 0, 1) := by decide +kernel
theorem dJ13_bitCount_95d88_25 : decode cJ13_bitCount_95d88 25 = .ok (.lload_n 0, 1) := by decide +kernel
theorem dJ13_bitCount_95d88_26 : decode cJ13_bitCount_95d88 26 = .ok (.iconst 4, 1) := by decide +kernel
theorem dJ13_bitCount_95d88_27 : decode cJ13_bitCount_95d88 27 = .ok (.lushr, 1) := by decide +kernel
theorem dJ13_bitCount_95d88_28 : decode cJ13_bitCount_95d88 28 = .ok (.ladd, 1) := by decide +kernel
theorem dJ13_bitCount_95d88_29 : decode cJ13_bitCount_95d88 29 = .ok (.ldc2_w 318, 3) := by decide +kernel
theorem dJ13_bitCount_95d88_32 : decode cJ13_bitCount_95d88 32 = .ok (.land, 1) := by decide +kernel
theorem dJ13_bitCount_95d88_33 : decode cJ13_bitCount_95d88 33 = .ok (.lstore_n 0, 1) := by decide +kernel
theorem dJ13_bitCount_95d88_34 : decode cJ13_bitCount_95d88 34 = .ok (.lload_n 0, 1) := by decide +kernel
theorem dJ13_bitCount_95d88_35 : decode cJ13_bitCount_95d88 35 = .ok (.lload_n 0, 1) := by decide +kernel
theorem dJ13_bitCount_95d88_36 : decode cJ13_bitCount_95d88 36 = .ok (.bipush 8, 2) := by decide +kernel
theorem dJ13_bitCount_95d88_38 : decode cJ13_bitCount_95d88 38 = .ok (.lushr, 1) := by decide +kernel
theorem dJ13_bitCount_95d88_39 : decode cJ13_bitCount_95d88 39 = .ok (.ladd, 1) := by decide +kernel
theorem dJ13_bitCount_95d88_40 : decode cJ13_bitCount_95d88 40 = .ok (.lstore_n 0, 1) := by decide +kernel
theorem dJ13_bitCount_95d88_41 : decode cJ13_bitCount_95d88 41 = .ok (.lload_n 0, 1) := by decide +kernel
theorem dJ13_bitCount_95d88_42 : decode cJ13_bitCount_95d88 42 = .ok (.lload_n 0, 1) := by decide +kernel
theorem dJ13_bitCount_95d88_43 : decode cJ13_bitCount_95d88 43 = .ok (.bipush 16, 2) := by decide +kernel
theorem dJ13_bitCount_95d88_45 : decode cJ13_bitCount_95d88 45 = .ok (.lushr, 1) := by decide +kernel
theorem dJ13_bitCount_95d88_46 : decode cJ13_bitCount_95d88 46 = .ok (.ladd, 1) := by decide +kernel
theorem dJ13_bitCount_95d88_47 : decode cJ13_bitCount_95d88 47 = .ok (.lstore_n 0, 1) := by decide +kernel
theorem dJ13_bitCount_95d88_48 : decode cJ13_bitCount_95d88 48 = .ok (.lload_n 0, 1) := by decide +kernel
theorem dJ13_bitCount_95d88_49 : decode cJ13_bitCount_95d88 49 = .ok (.lload_n 0, 1) := by decide +kernel
theorem dJ13_bitCount_95d88_50 : decode cJ13_bitCount_95d88 50 = .ok (.bipush 32, 2) := by decide +kernel
theorem dJ13_bitCount_95d88_52 : decode cJ13_bitCount_95d88 52 = .ok (.lushr, 1) := by decide +kernel
theorem dJ13_bitCount_95d88_53 : decode cJ13_bitCount_95d88 53 = .ok (.ladd, 1) := by decide +kernel
theorem dJ13_bitCount_95d88_54 : decode cJ13_bitCount_95d88 54 = .ok (.lstore_n 0, 1) := by decide +kernel
theorem dJ13_bitCount_95d88_55 : decode cJ13_bitCount_95d88 55 = .ok (.lload_n 0, 1) := by decide +kernel
theorem dJ13_bitCount_95d88_56 : decode cJ13_bitCount_95d88 56 = .ok (.l2i, 1) := by decide +kernel
theorem dJ13_bitCount_95d88_57 : decode cJ13_bitCount_95d88 57 = .ok (.bipush 127, 2) := by decide +kernel
theorem dJ13_bitCount_95d88_59 : decode cJ13_bitCount_95d88 59 = .ok (.iand, 1) := by decide +kernel
theorem dJ13_bitCount_95d88_60 : decode cJ13_bitCount_95d88 60 = .ok (.ireturn, 1) := by decide +kernel
theorem dJ9_min_7cf53_0 : decode cJ9_min_7cf53 0 = .ok (.iload_n 0, 1) := by decide +kernel
theorem dJ9_min_7cf53_1 : decode cJ9_min_7cf53 1 = .ok (.iload_n 1, 1) := by decide +kernel
theorem dJ9_min_7cf53_2 : decode cJ9_min_7cf53 2 = .ok (.if_icmp .gt 7, 3) := by decide +kernel
theorem dJ9_min_7cf53_5 : decode cJ9_min_7cf53 5 = .ok (.iload_n 0, 1) := by decide +kernel
theorem dJ9_min_7cf53_6 : decode cJ9_min_7cf53 6 = .ok (.goto 4, 3) := by decide +kernel
theorem dJ9_min_7cf53_9 : decode cJ9_min_7cf53 9 = .ok (.iload_n 1, 1) := by decide +kernel
theorem dJ9_min_7cf53_10 : decode cJ9_min_7cf53 10 = .ok (.ireturn, 1) := by decide +kernel
end
section
theorem dX6_init_0 : decode cX6_init 0 = .ok (.aload_n 0, 1) := by decide +kernel
theorem dX6_init_1 : decode cX6_init 1 = .ok (.invokespecial 1, 3) := by decide +kernel
theorem dX6_init_4 : decode cX6_init 4 = .ok (.aload_n 0, 1) := by decide +kernel
theorem dX6_init_5 : decode cX6_init 5 = .ok (.new 7, 3) := by decide +kernel
theorem dX6_init_8 : decode cX6_init 8 = .ok (.dup, 1) := by decide +kernel
theorem dX6_init_9 : decode cX6_init 9 = .ok (.invokespecial 9, 3) := by decide +kernel
theorem dX6_init_12 : decode cX6_init 12 = .ok (.putfield 10, 3) := by decide +kernel
theorem dX6_init_15 : decode cX6_init 15 = .ok (.aload_n 0, 1) := by decide +kernel
theorem dX6_init_16 : decode cX6_init 16 = .ok (.new 7, 3) := by decide +kernel
theorem dX6_init_19 : decode cX6_init 19 = .ok (.dup, 1) := by decide +kernel
theorem dX6_init_20 : decode cX6_init 20 = .ok (.invokespecial 9, 3) := by decide +kernel
theorem dX6_init_23 : decode cX6_init 23 = .ok (.putfield 16, 3) := by decide +kernel
theorem dX6_init_26 : decode cX6_init 26 = .ok (.aload_n 0, 1) := by decide +kernel
theorem dX6_init_27 : decode cX6_init 27 = .ok (.iconst 2, 1) := by decide +kernel
theorem dX6_init_28 : decode cX6_init 28 = .ok (.anewarray 7, 3) := by decide +kernel
theorem dX6_init_31 : decode cX6_init 31 = .ok (.putfield 19, 3) := by decide +kernel
theorem dX6_init_34 : decode cX6_init 34 = .ok (.aload_n 0, 1) := by decide +kernel
theorem dX6_init_35 : decode cX6_init 35 = .ok (.new 23, 3) := by decide +kernel
theorem dX6_init_38 : decode cX6_init 38 = .ok (.dup, 1) := by decide +kernel
theorem dX6_init_39 : decode cX6_init 39 = .ok (.invokespecial 25, 3) := by decide +kernel
theorem dX6_init_42 : decode cX6_init 42 = .ok (.putfield 26, 3) := by decide +kernel
theorem dX6_init_45 : decode cX6_init 45 = .ok (.aload_n 0, 1) := by decide +kernel
theorem dX6_init_46 : decode cX6_init 46 = .ok (.new 30, 3) := by decide +kernel
theorem dX6_init_49 : decode cX6_init 49 = .ok (.dup, 1) := by decide +kernel
theorem dX6_init_50 : decode cX6_init 50 = .ok (.invokespecial 32, 3) := by decide +kernel
theorem dX6_init_53 : decode cX6_init 53 = .ok (.putfield 33, 3) := by decide +kernel
theorem dX6_init_56 : decode cX6_init 56 = .ok (.aload_n 0, 1) := by decide +kernel
theorem dX6_init_57 : decode cX6_init 57 = .ok (.new 37, 3) := by decide +kernel
theorem dX6_init_60 : decode cX6_init 60 = .ok (.dup, 1) := by decide +kernel
theorem dX6_init_61 : decode cX6_init 61 = .ok (.invokespecial 39, 3) := by decide +kernel
theorem dX6_init_64 : decode cX6_init 64 = .ok (.putfield 40, 3) := by decide +kernel
theorem dX6_init_67 : decode cX6_init 67 = .ok (.aload_n 0, 1) := by decide +kernel
theorem dX6_init_68 : decode cX6_init 68 = .ok (.new 44, 3) := by decide +kernel
theorem dX6_init_71 : decode cX6_init 71 = .ok (.dup, 1) := by decide +kernel
theorem dX6_init_72 : decode cX6_init 72 = .ok (.invokespecial 46, 3) := by decide +kernel
theorem dX6_init_75 : decode cX6_init 75 = .ok (.putfield 47, 3) := by decide +kernel
theorem dX6_init_78 : decode cX6_init 78 = .ok (.aload_n 0, 1) := by decide +kernel
theorem dX6_init_79 : decode cX6_init 79 = .ok (.iconst 4, 1) := by decide +kernel
theorem dX6_init_80 : decode cX6_init 80 = .ok (.newarray .int, 2) := by decide +kernel
theorem dX6_init_82 : decode cX6_init 82 = .ok (.putfield 51, 3) := by decide +kernel
theorem dX6_init_85 : decode cX6_init 85 = .ok (.aload_n 0, 1) := by decide +kernel
theorem dX6_init_86 : decode cX6_init 86 = .ok (.lconst 0, 1) := by decide +kernel
theorem dX6_init_87 : decode cX6_init 87 = .ok (.putfield 55, 3) := by decide +kernel
theorem dX6_init_90 : decode cX6_init 90 = .ok (.return_, 1) := by decide +kernel
theorem dX6_write_0 : decode cX6_write 0 = .ok (.iload_n 1, 1) := by decide +kernel
theorem dX6_write_1 : decode cX6_write 1 = .ok (.ifCond .lt 10, 3) := by decide +kernel
theorem dX6_write_4 : decode cX6_write 4 = .ok (.iload_n 1, 1) := by decide +kernel
theorem dX6_write_5 : decode cX6_write 5 = .ok (.sipush 255, 3) := by decide +kernel
theorem dX6_write_8 : decode cX6_write 8 = .ok (.if_icmp .le 6, 3) := by decide +kernel
theorem dX6_write_11 : decode cX6_write 11 = .ok (.bipush (-2), 2) := by decide +kernel
theorem dX6_write_13 : decode cX6_write 13 = .ok (.ireturn, 1) := by decide +kernel
theorem dX6_write_14 : decode cX6_write 14 = .ok (.aload_n 0, 1) := by decide +kernel
theorem dX6_write_15 : decode cX6_write 15 = .ok (.getfield 26, 3) := by decide +kernel
theorem dX6_write_18 : decode cX6_write 18 = .ok (.iload_n 1, 1) := by decide +kernel
theorem dX6_write_19 : decode cX6_write 19 = .ok (.invokevirtual 59, 3) := by decide +kernel
theorem dX6_write_22 : decode cX6_write 22 = .ok (.ifCond .eq 13, 3) := by decide +kernel
theorem dX6_write_25 : decode cX6_write 25 = .ok (.aload_n 0, 1) := by decide +kernel
theorem dX6_write_26 : decode cX6_write 26 = .ok (.getfield 26, 3) := by decide +kernel
theorem dX6_write_29 : decode cX6_write 29 = .ok (.invokevirtual 63, 3) := by decide +kernel
theorem dX6_write_32 : decode cX6_write 32 = .ok (.goto 5, 3) := by decide +kernel
theorem dX6_write_35 : decode cX6_write 35 = .ok (.bipush (-4), 2) := by decide +kernel
theorem dX6_write_37 : decode cX6_write 37 = .ok (.ireturn, 1) := by decide +kernel
theorem dX6_wipe_0 : decode cX6_wipe 0 = .ok (.aload_n 0, 1) := by decide +kernel
theorem dX6_wipe_1 : decode cX6_wipe 1 = .ok (.getfield 26, 3) := by decide +kernel
theorem dX6_wipe_4 : decode cX6_wipe 4 = .ok (.invokevirtual 63, 3) := by decide +kernel
theorem dX6_wipe_7 : decode cX6_wipe 7 = .ok (.istore_n 1, 1) := by decide +kernel
theorem dX6_wipe_8 : decode cX6_wipe 8 = .ok (.aload_n 0, 1) := by decide +kernel
theorem dX6_wipe_9 : decode cX6_wipe 9 = .ok (.getfield 26, 3) := by decide +kernel
theorem dX6_wipe_12 : decode cX6_wipe 12 = .ok (.invokevirtual 67, 3) := by decide +kernel
theorem dX6_wipe_15 : decode cX6_wipe 15 = .ok (.iload_n 1, 1) := by decide +kernel
theorem dX6_wipe_16 : decode cX6_wipe 16 = .ok (.ireturn, 1) := by decide +kernel
theorem dX6_fault_0 : decode cX6_fault 0 = .ok (.aload_n 0, 1) := by decide +kernel
theorem dX6_fault_1 : decode cX6_fault 1 = .ok (.getfield 26, 3) := by decide +kernel
theorem dX6_fault_4 : decode cX6_fault 4 = .ok (.invokevirtual 70, 3) := by decide +kernel
theorem dX6_fault_7 : decode cX6_fault 7 = .ok (.ireturn, 1) := by decide +kernel
theorem dX6_put_0 : decode cX6_put 0 = .ok (.iload_n 1, 1) := by decide +kernel
theorem dX6_put_1 : decode cX6_put 1 = .ok (.invokestatic 73, 3) := by decide +kernel
theorem dX6_put_4 : decode cX6_put 4 = .ok (.ifCond .ne 5, 3) := by decide +kernel
theorem dX6_put_7 : decode cX6_put 7 = .ok (.iconst (-1), 1) := by decide +kernel
theorem dX6_put_8 : decode cX6_put 8 = .ok (.ireturn, 1) := by decide +kernel
theorem dX6_put_9 : decode cX6_put 9 = .ok (.aload_n 0, 1) := by decide +kernel
theorem dX6_put_10 : decode cX6_put 10 = .ok (.getfield 26, 3) := by decide +kernel
theorem dX6_put_13 : decode cX6_put 13 = .ok (.invokevirtual 70, 3) := by decide +kernel
theorem dX6_put_16 : decode cX6_put 16 = .ok (.bipush (-9), 2) := by decide +kernel
theorem dX6_put_18 : decode cX6_put 18 = .ok (.if_icmp .eq 6, 3) := by decide +kernel
theorem dX6_put_21 : decode cX6_put 21 = .ok (.bipush (-3), 2) := by decide +kernel
theorem dX6_put_23 : decode cX6_put 23 = .ok (.ireturn, 1) := by decide +kernel
theorem dX6_put_24 : decode cX6_put 24 = .ok (.aload_n 0, 1) := by decide +kernel
theorem dX6_put_25 : decode cX6_put 25 = .ok (.iload_n 1, 1) := by decide +kernel
theorem dX6_put_26 : decode cX6_put 26 = .ok (.aload_n 0, 1) := by decide +kernel
theorem dX6_put_27 : decode cX6_put 27 = .ok (.getfield 26, 3) := by decide +kernel
theorem dX6_put_30 : decode cX6_put 30 = .ok (.invokevirtual 76, 3) := by decide +kernel
theorem dX6_put_33 : decode cX6_put 33 = .ok (.invokevirtual 80, 3) := by decide +kernel
theorem dX6_put_36 : decode cX6_put 36 = .ok (.invokestatic 84, 3) := by decide +kernel
theorem dX6_put_39 : decode cX6_put 39 = .ok (.ireturn, 1) := by decide +kernel
theorem dX6_join_0 : decode cX6_join 0 = .ok (.aload_n 0, 1) := by decide +kernel
theorem dX6_join_1 : decode cX6_join 1 = .ok (.iconst 1, 1) := by decide +kernel
theorem dX6_join_2 : decode cX6_join 2 = .ok (.iload_n 1, 1) := by decide +kernel
theorem dX6_join_3 : decode cX6_join 3 = .ok (.iload_n 2, 1) := by decide +kernel
theorem dX6_join_4 : decode cX6_join 4 = .ok (.invokevirtual 90, 3) := by decide +kernel
theorem dX6_join_7 : decode cX6_join 7 = .ok (.ireturn, 1) := by decide +kernel
theorem dX6_meet_0 : decode cX6_meet 0 = .ok (.aload_n 0, 1) := by decide +kernel
theorem dX6_meet_1 : decode cX6_meet 1 = .ok (.iconst 2, 1) := by decide +kernel
theorem dX6_meet_2 : decode cX6_meet 2 = .ok (.iload_n 1, 1) := by decide +kernel
theorem dX6_meet_3 : decode cX6_meet 3 = .ok (.iload_n 2, 1) := by decide +kernel
theorem dX6_meet_4 : decode cX6_meet 4 = .ok (.invokevirtual 90, 3) := by decide +kernel
theorem dX6_meet_7 : decode cX6_meet 7 = .ok (.ireturn, 1) := by decide +kernel
theorem dX6_less_0 : decode cX6_less 0 = .ok (.aload_n 0, 1) := by decide +kernel
theorem dX6_less_1 : decode cX6_less 1 = .ok (.iconst 3, 1) := by decide +kernel
theorem dX6_less_2 : decode cX6_less 2 = .ok (.iload_n 1, 1) := by decide +kernel
theorem dX6_less_3 : decode cX6_less 3 = .ok (.iload_n 2, 1) := by decide +kernel
theorem dX6_less_4 : decode cX6_less 4 = .ok (.invokevirtual 90, 3) := by decide +kernel
theorem dX6_less_7 : decode cX6_less 7 = .ok (.ireturn, 1) := by decide +kernel
theorem dX6_turn_0 : decode cX6_turn 0 = .ok (.iload_n 1, 1) := by decide +kernel
theorem dX6_turn_1 : decode cX6_turn 1 = .ok (.invokestatic 73, 3) := by decide +kernel
theorem dX6_turn_4 : decode cX6_turn 4 = .ok (.ifCond .ne 5, 3) := by decide +kernel
theorem dX6_turn_7 : decode cX6_turn 7 = .ok (.iconst (-1), 1) := by decide +kernel
theorem dX6_turn_8 : decode cX6_turn 8 = .ok (.ireturn, 1) := by decide +kernel
theorem dX6_turn_9 : decode cX6_turn 9 = .ok (.aload_n 0, 1) := by decide +kernel
theorem dX6_turn_10 : decode cX6_turn 10 = .ok (.iload_n 1, 1) := by decide +kernel
theorem dX6_turn_11 : decode cX6_turn 11 = .ok (.aload_n 0, 1) := by decide +kernel
theorem dX6_turn_12 : decode cX6_turn 12 = .ok (.getfield 10, 3) := by decide +kernel
theorem dX6_turn_15 : decode cX6_turn 15 = .ok (.iload_n 1, 1) := by decide +kernel
theorem dX6_turn_16 : decode cX6_turn 16 = .ok (.invokevirtual 94, 3) := by decide +kernel
theorem dX6_turn_19 : decode cX6_turn 19 = .ok (.invokestatic 98, 3) := by decide +kernel
theorem dX6_turn_22 : decode cX6_turn 22 = .ok (.invokevirtual 80, 3) := by decide +kernel
theorem dX6_turn_25 : decode cX6_turn 25 = .ok (.invokestatic 104, 3) := by decide +kernel
theorem dX6_turn_28 : decode cX6_turn 28 = .ok (.ireturn, 1) := by decide +kernel
theorem dX6_flip_0 : decode cX6_flip 0 = .ok (.iload_n 1, 1) := by decide +kernel
theorem dX6_flip_1 : decode cX6_flip 1 = .ok (.invokestatic 73, 3) := by decide +kernel
theorem dX6_flip_4 : decode cX6_flip 4 = .ok (.ifCond .ne 5, 3) := by decide +kernel
theorem dX6_flip_7 : decode cX6_flip 7 = .ok (.iconst (-1), 1) := by decide +kernel
theorem dX6_flip_8 : decode cX6_flip 8 = .ok (.ireturn, 1) := by decide +kernel
theorem dX6_flip_9 : decode cX6_flip 9 = .ok (.aload_n 0, 1) := by decide +kernel
theorem dX6_flip_10 : decode cX6_flip 10 = .ok (.iload_n 1, 1) := by decide +kernel
theorem dX6_flip_11 : decode cX6_flip 11 = .ok (.aload_n 0, 1) := by decide +kernel
theorem dX6_flip_12 : decode cX6_flip 12 = .ok (.getfield 10, 3) := by decide +kernel
theorem dX6_flip_15 : decode cX6_flip 15 = .ok (.iload_n 1, 1) := by decide +kernel
theorem dX6_flip_16 : decode cX6_flip 16 = .ok (.invokevirtual 94, 3) := by decide +kernel
theorem dX6_flip_19 : decode cX6_flip 19 = .ok (.invokestatic 107, 3) := by decide +kernel
theorem dX6_flip_22 : decode cX6_flip 22 = .ok (.invokevirtual 80, 3) := by decide +kernel
theorem dX6_flip_25 : decode cX6_flip 25 = .ok (.invokestatic 104, 3) := by decide +kernel
theorem dX6_flip_28 : decode cX6_flip 28 = .ok (.ireturn, 1) := by decide +kernel
theorem dX6_halve_0 : decode cX6_halve 0 = .ok (.iload_n 1, 1) := by decide +kernel
theorem dX6_halve_1 : decode cX6_halve 1 = .ok (.invokestatic 73, 3) := by decide +kernel
theorem dX6_halve_4 : decode cX6_halve 4 = .ok (.ifCond .eq 10, 3) := by decide +kernel
theorem dX6_halve_7 : decode cX6_halve 7 = .ok (.iload_n 2, 1) := by decide +kernel
theorem dX6_halve_8 : decode cX6_halve 8 = .ok (.invokestatic 110, 3) := by decide +kernel
theorem dX6_halve_11 : decode cX6_halve 11 = .ok (.ifCond .ne 5, 3) := by decide +kernel
theorem dX6_halve_14 : decode cX6_halve 14 = .ok (.iconst (-1), 1) := by decide +kernel
theorem dX6_halve_15 : decode cX6_halve 15 = .ok (.ireturn, 1) := by decide +kernel
theorem dX6_halve_16 : decode cX6_halve 16 = .ok (.aload_n 0, 1) := by decide +kernel
theorem dX6_halve_17 : decode cX6_halve 17 = .ok (.iload_n 1, 1) := by decide +kernel
theorem dX6_halve_18 : decode cX6_halve 18 = .ok (.aload_n 0, 1) := by decide +kernel
theorem dX6_halve_19 : decode cX6_halve 19 = .ok (.getfield 10, 3) := by decide +kernel
theorem dX6_halve_22 : decode cX6_halve 22 = .ok (.iload_n 1, 1) := by decide +kernel
theorem dX6_halve_23 : decode cX6_halve 23 = .ok (.invokevirtual 94, 3) := by decide +kernel
theorem dX6_halve_26 : decode cX6_halve 26 = .ok (.iload_n 2, 1) := by decide +kernel
theorem dX6_halve_27 : decode cX6_halve 27 = .ok (.invokestatic 113, 3) := by decide +kernel
theorem dX6_halve_30 : decode cX6_halve 30 = .ok (.invokevirtual 80, 3) := by decide +kernel
theorem dX6_halve_33 : decode cX6_halve 33 = .ok (.invokestatic 84, 3) := by decide +kernel
theorem dX6_halve_36 : decode cX6_halve 36 = .ok (.ireturn, 1) := by decide +kernel
theorem dX6_grow_0 : decode cX6_grow 0 = .ok (.iload_n 1, 1) := by decide +kernel
theorem dX6_grow_1 : decode cX6_grow 1 = .ok (.invokestatic 73, 3) := by decide +kernel
theorem dX6_grow_4 : decode cX6_grow 4 = .ok (.ifCond .eq 10, 3) := by decide +kernel
theorem dX6_grow_7 : decode cX6_grow 7 = .ok (.iload_n 2, 1) := by decide +kernel
theorem dX6_grow_8 : decode cX6_grow 8 = .ok (.invokestatic 110, 3) := by decide +kernel
theorem dX6_grow_11 : decode cX6_grow 11 = .ok (.ifCond .ne 5, 3) := by decide +kernel
theorem dX6_grow_14 : decode cX6_grow 14 = .ok (.iconst (-1), 1) := by decide +kernel
theorem dX6_grow_15 : decode cX6_grow 15 = .ok (.ireturn, 1) := by decide +kernel
theorem dX6_grow_16 : decode cX6_grow 16 = .ok (.aload_n 0, 1) := by decide +kernel
theorem dX6_grow_17 : decode cX6_grow 17 = .ok (.iload_n 1, 1) := by decide +kernel
theorem dX6_grow_18 : decode cX6_grow 18 = .ok (.aload_n 0, 1) := by decide +kernel
theorem dX6_grow_19 : decode cX6_grow 19 = .ok (.getfield 10, 3) := by decide +kernel
theorem dX6_grow_22 : decode cX6_grow 22 = .ok (.iload_n 1, 1) := by decide +kernel
theorem dX6_grow_23 : decode cX6_grow 23 = .ok (.invokevirtual 94, 3) := by decide +kernel
theorem dX6_grow_26 : decode cX6_grow 26 = .ok (.iload_n 2, 1) := by decide +kernel
theorem dX6_grow_27 : decode cX6_grow 27 = .ok (.invokestatic 117, 3) := by decide +kernel
theorem dX6_grow_30 : decode cX6_grow 30 = .ok (.invokevirtual 80, 3) := by decide +kernel
theorem dX6_grow_33 : decode cX6_grow 33 = .ok (.invokestatic 84, 3) := by decide +kernel
theorem dX6_grow_36 : decode cX6_grow 36 = .ok (.ireturn, 1) := by decide +kernel
theorem dX6_undo_0 : decode cX6_undo 0 = .ok (.aload_n 0, 1) := by decide +kernel
theorem dX6_undo_1 : decode cX6_undo 1 = .ok (.getfield 33, 3) := by decide +kernel
theorem dX6_undo_4 : decode cX6_undo 4 = .ok (.invokevirtual 120, 3) := by decide +kernel
theorem dX6_undo_7 : decode cX6_undo 7 = .ok (.ifCond .ne 6, 3) := by decide +kernel
theorem dX6_undo_10 : decode cX6_undo 10 = .ok (.bipush (-3), 2) := by decide +kernel
theorem dX6_undo_12 : decode cX6_undo 12 = .ok (.ireturn, 1) := by decide +kernel
theorem dX6_undo_13 : decode cX6_undo 13 = .ok (.aload_n 0, 1) := by decide +kernel
theorem dX6_undo_14 : decode cX6_undo 14 = .ok (.getfield 10, 3) := by decide +kernel
theorem dX6_undo_17 : decode cX6_undo 17 = .ok (.aload_n 0, 1) := by decide +kernel
theorem dX6_undo_18 : decode cX6_undo 18 = .ok (.getfield 33, 3) := by decide +kernel
theorem dX6_undo_21 : decode cX6_undo 21 = .ok (.invokevirtual 121, 3) := by decide +kernel
theorem dX6_undo_24 : decode cX6_undo 24 = .ok (.aload_n 0, 1) := by decide +kernel
theorem dX6_undo_25 : decode cX6_undo 25 = .ok (.getfield 33, 3) := by decide +kernel
theorem dX6_undo_28 : decode cX6_undo 28 = .ok (.invokevirtual 124, 3) := by decide +kernel
theorem dX6_undo_31 : decode cX6_undo 31 = .ok (.invokevirtual 127, 3) := by decide +kernel
theorem dX6_undo_34 : decode cX6_undo 34 = .ok (.aload_n 0, 1) := by decide +kernel
theorem dX6_undo_35 : decode cX6_undo 35 = .ok (.getfield 33, 3) := by decide +kernel
theorem dX6_undo_38 : decode cX6_undo 38 = .ok (.invokevirtual 131, 3) := by decide +kernel
theorem dX6_undo_41 : decode cX6_undo 41 = .ok (.aload_n 0, 1) := by decide +kernel
theorem dX6_undo_42 : decode cX6_undo 42 = .ok (.getfield 33, 3) := by decide +kernel
theorem dX6_undo_45 : decode cX6_undo 45 = .ok (.invokevirtual 120, 3) := by decide +kernel
theorem dX6_undo_48 : decode cX6_undo 48 = .ok (.ireturn, 1) := by decide +kernel
theorem dX6_black_0 : decode cX6_black 0 = .ok (.aload_n 0, 1) := by decide +kernel
theorem dX6_black_1 : decode cX6_black 1 = .ok (.getfield 10, 3) := by decide +kernel
theorem dX6_black_4 : decode cX6_black 4 = .ok (.iload_n 1, 1) := by decide +kernel
theorem dX6_black_5 : decode cX6_black 5 = .ok (.invokevirtual 94, 3) := by decide +kernel
theorem dX6_black_8 : decode cX6_black 8 = .ok (.lreturn, 1) := by decide +kernel
theorem dX6_look_0 : decode cX6_look 0 = .ok (.iload_n 1, 1) := by decide +kernel
theorem dX6_look_1 : decode cX6_look 1 = .ok (.invokestatic 73, 3) := by decide +kernel
theorem dX6_look_4 : decode cX6_look 4 = .ok (.ifCond .ne 5, 3) := by decide +kernel
theorem dX6_look_7 : decode cX6_look 7 = .ok (.iconst (-1), 1) := by decide +kernel
theorem dX6_look_8 : decode cX6_look 8 = .ok (.ireturn, 1) := by decide +kernel
theorem dX6_look_9 : decode cX6_look 9 = .ok (.aload_n 0, 1) := by decide +kernel
theorem dX6_look_10 : decode cX6_look 10 = .ok (.getfield 10, 3) := by decide +kernel
theorem dX6_look_13 : decode cX6_look 13 = .ok (.iload_n 1, 1) := by decide +kernel
theorem dX6_look_14 : decode cX6_look 14 = .ok (.invokevirtual 94, 3) := by decide +kernel
theorem dX6_look_17 : decode cX6_look 17 = .ok (.lstore_n 3, 1) := by decide +kernel
theorem dX6_look_18 : decode cX6_look 18 = .ok (.iload_n 2, 1) := by decide +kernel
theorem dX6_look_19 : decode cX6_look 19 = .ok (.tableswitch 62 0 4 #[33, 38, 47, 52, 57], 33) := by decide +kernel
theorem dX6_look_52 : decode cX6_look 52 = .ok (.lload_n 3, 1) := by decide +kernel
theorem dX6_look_53 : decode cX6_look 53 = .ok (.invokestatic 84, 3) := by decide +kernel
theorem dX6_look_56 : decode cX6_look 56 = .ok (.ireturn, 1) := by decide +kernel
theorem dX6_look_57 : decode cX6_look 57 = .ok (.aload_n 0, 1) := by decide +kernel
theorem dX6_look_58 : decode cX6_look 58 = .ok (.getfield 47, 3) := by decide +kernel
theorem dX6_look_61 : decode cX6_look 61 = .ok (.lload_n 3, 1) := by decide +kernel
theorem dX6_look_62 : decode cX6_look 62 = .ok (.invokevirtual 134, 3) := by decide +kernel
theorem dX6_look_65 : decode cX6_look 65 = .ok (.ireturn, 1) := by decide +kernel
theorem dX6_look_66 : decode cX6_look 66 = .ok (.lload_n 3, 1) := by decide +kernel
theorem dX6_look_67 : decode cX6_look 67 = .ok (.invokestatic 137, 3) := by decide +kernel
theorem dX6_look_70 : decode cX6_look 70 = .ok (.ireturn, 1) := by decide +kernel
theorem dX6_look_71 : decode cX6_look 71 = .ok (.lload_n 3, 1) := by decide +kernel
theorem dX6_look_72 : decode cX6_look 72 = .ok (.invokestatic 140, 3) := by decide +kernel
theorem dX6_look_75 : decode cX6_look 75 = .ok (.ireturn, 1) := by decide +kernel
theorem dX6_look_76 : decode cX6_look 76 = .ok (.lload_n 3, 1) := by decide +kernel
theorem dX6_look_77 : decode cX6_look 77 = .ok (.invokestatic 143, 3) := by decide +kernel
theorem dX6_look_80 : decode cX6_look 80 = .ok (.ireturn, 1) := by decide +kernel
theorem dX6_look_81 : decode cX6_look 81 = .ok (.bipush (-2), 2) := by decide +kernel
theorem dX6_look_83 : decode cX6_look 83 = .ok (.ireturn, 1) := by decide +kernel
theorem dX6_letter_0 : decode cX6_letter 0 = .ok (.iload_n 1, 1) := by decide +kernel
theorem dX6_letter_1 : decode cX6_letter 1 = .ok (.invokestatic 73, 3) := by decide +kernel
theorem dX6_letter_4 : decode cX6_letter 4 = .ok (.ifCond .ne 5, 3) := by decide +kernel
theorem dX6_letter_7 : decode cX6_letter 7 = .ok (.iconst (-1), 1) := by decide +kernel
theorem dX6_letter_8 : decode cX6_letter 8 = .ok (.ireturn, 1) := by decide +kernel
theorem dX6_letter_9 : decode cX6_letter 9 = .ok (.aload_n 0, 1) := by decide +kernel
theorem dX6_letter_10 : decode cX6_letter 10 = .ok (.getfield 47, 3) := by decide +kernel
theorem dX6_letter_13 : decode cX6_letter 13 = .ok (.aload_n 0, 1) := by decide +kernel
theorem dX6_letter_14 : decode cX6_letter 14 = .ok (.getfield 10, 3) := by decide +kernel
theorem dX6_letter_17 : decode cX6_letter 17 = .ok (.iload_n 1, 1) := by decide +kernel
theorem dX6_letter_18 : decode cX6_letter 18 = .ok (.invokevirtual 94, 3) := by decide +kernel
theorem dX6_letter_21 : decode cX6_letter 21 = .ok (.iload_n 2, 1) := by decide +kernel
theorem dX6_letter_22 : decode cX6_letter 22 = .ok (.invokevirtual 146, 3) := by decide +kernel
theorem dX6_letter_25 : decode cX6_letter 25 = .ok (.ireturn, 1) := by decide +kernel
theorem dX6_at_0 : decode cX6_at 0 = .ok (.iload_n 1, 1) := by decide +kernel
theorem dX6_at_1 : decode cX6_at 1 = .ok (.invokestatic 73, 3) := by decide +kernel
theorem dX6_at_4 : decode cX6_at 4 = .ok (.ifCond .eq 10, 3) := by decide +kernel
theorem dX6_at_7 : decode cX6_at 7 = .ok (.iload_n 2, 1) := by decide +kernel
theorem dX6_at_8 : decode cX6_at 8 = .ok (.invokestatic 150, 3) := by decide +kernel
theorem dX6_at_11 : decode cX6_at 11 = .ok (.ifCond .ne 5, 3) := by decide +kernel
theorem dX6_at_14 : decode cX6_at 14 = .ok (.iconst (-1), 1) := by decide +kernel
theorem dX6_at_15 : decode cX6_at 15 = .ok (.ireturn, 1) := by decide +kernel
theorem dX6_at_16 : decode cX6_at 16 = .ok (.aload_n 0, 1) := by decide +kernel
theorem dX6_at_17 : decode cX6_at 17 = .ok (.getfield 10, 3) := by decide +kernel
theorem dX6_at_20 : decode cX6_at 20 = .ok (.iload_n 1, 1) := by decide +kernel
theorem dX6_at_21 : decode cX6_at 21 = .ok (.invokevirtual 94, 3) := by decide +kernel
theorem dX6_at_24 : decode cX6_at 24 = .ok (.lstore 4, 2) := by decide +kernel
theorem dX6_at_26 : decode cX6_at 26 = .ok (.iload_n 3, 1) := by decide +kernel
theorem dX6_at_27 : decode cX6_at 27 = .ok (.tableswitch 63 0 2 #[25, 40, 47], 25) := by decide +kernel
theorem dX6_at_52 : decode cX6_at 52 = .ok (.lload 4, 2) := by decide +kernel
theorem dX6_at_54 : decode cX6_at 54 = .ok (.iload_n 2, 1) := by decide +kernel
theorem dX6_at_55 : decode cX6_at 55 = .ok (.invokestatic 153, 3) := by decide +kernel
theorem dX6_at_58 : decode cX6_at 58 = .ok (.ifCond .eq 7, 3) := by decide +kernel
theorem dX6_at_61 : decode cX6_at 61 = .ok (.iconst 1, 1) := by decide +kernel
theorem dX6_at_62 : decode cX6_at 62 = .ok (.goto 4, 3) := by decide +kernel
theorem dX6_at_65 : decode cX6_at 65 = .ok (.iconst 0, 1) := by decide +kernel
theorem dX6_at_66 : decode cX6_at 66 = .ok (.ireturn, 1) := by decide +kernel
theorem dX6_at_67 : decode cX6_at 67 = .ok (.lload 4, 2) := by decide +kernel
theorem dX6_at_69 : decode cX6_at 69 = .ok (.iload_n 2, 1) := by decide +kernel
theorem dX6_at_70 : decode cX6_at 70 = .ok (.invokestatic 157, 3) := by decide +kernel
theorem dX6_at_73 : decode cX6_at 73 = .ok (.ireturn, 1) := by decide +kernel
theorem dX6_at_74 : decode cX6_at 74 = .ok (.lload 4, 2) := by decide +kernel
theorem dX6_at_76 : decode cX6_at 76 = .ok (.iload_n 2, 1) := by decide +kernel
theorem dX6_at_77 : decode cX6_at 77 = .ok (.lload 4, 2) := by decide +kernel
theorem dX6_at_79 : decode cX6_at 79 = .ok (.iload_n 2, 1) := by decide +kernel
theorem dX6_at_80 : decode cX6_at 80 = .ok (.invokestatic 157, 3) := by decide +kernel
theorem dX6_at_83 : decode cX6_at 83 = .ok (.invokestatic 160, 3) := by decide +kernel
theorem dX6_at_86 : decode cX6_at 86 = .ok (.invokestatic 164, 3) := by decide +kernel
theorem dX6_at_89 : decode cX6_at 89 = .ok (.ireturn, 1) := by decide +kernel
theorem dX6_at_90 : decode cX6_at 90 = .ok (.bipush (-2), 2) := by decide +kernel
theorem dX6_at_92 : decode cX6_at 92 = .ok (.ireturn, 1) := by decide +kernel
theorem dX6_alike_0 : decode cX6_alike 0 = .ok (.iload_n 1, 1) := by decide +kernel
theorem dX6_alike_1 : decode cX6_alike 1 = .ok (.invokestatic 73, 3) := by decide +kernel
theorem dX6_alike_4 : decode cX6_alike 4 = .ok (.ifCond .eq 10, 3) := by decide +kernel
theorem dX6_alike_7 : decode cX6_alike 7 = .ok (.iload_n 2, 1) := by decide +kernel
theorem dX6_alike_8 : decode cX6_alike 8 = .ok (.invokestatic 73, 3) := by decide +kernel
theorem dX6_alike_11 : decode cX6_alike 11 = .ok (.ifCond .ne 5, 3) := by decide +kernel
theorem dX6_alike_14 : decode cX6_alike 14 = .ok (.iconst (-1), 1) := by decide +kernel
theorem dX6_alike_15 : decode cX6_alike 15 = .ok (.ireturn, 1) := by decide +kernel
theorem dX6_alike_16 : decode cX6_alike 16 = .ok (.aload_n 0, 1) := by decide +kernel
theorem dX6_alike_17 : decode cX6_alike 17 = .ok (.getfield 10, 3) := by decide +kernel
theorem dX6_alike_20 : decode cX6_alike 20 = .ok (.iload_n 1, 1) := by decide +kernel
theorem dX6_alike_21 : decode cX6_alike 21 = .ok (.invokevirtual 94, 3) := by decide +kernel
theorem dX6_alike_24 : decode cX6_alike 24 = .ok (.aload_n 0, 1) := by decide +kernel
theorem dX6_alike_25 : decode cX6_alike 25 = .ok (.getfield 10, 3) := by decide +kernel
theorem dX6_alike_28 : decode cX6_alike 28 = .ok (.iload_n 2, 1) := by decide +kernel
theorem dX6_alike_29 : decode cX6_alike 29 = .ok (.invokevirtual 94, 3) := by decide +kernel
theorem dX6_alike_32 : decode cX6_alike 32 = .ok (.invokestatic 168, 3) := by decide +kernel
theorem dX6_alike_35 : decode cX6_alike 35 = .ok (.ireturn, 1) := by decide +kernel
theorem dX6_near_0 : decode cX6_near 0 = .ok (.iload_n 1, 1) := by decide +kernel
theorem dX6_near_1 : decode cX6_near 1 = .ok (.invokestatic 73, 3) := by decide +kernel
theorem dX6_near_4 : decode cX6_near 4 = .ok (.ifCond .eq 10, 3) := by decide +kernel
theorem dX6_near_7 : decode cX6_near 7 = .ok (.iload_n 2, 1) := by decide +kernel
theorem dX6_near_8 : decode cX6_near 8 = .ok (.invokestatic 73, 3) := by decide +kernel
theorem dX6_near_11 : decode cX6_near 11 = .ok (.ifCond .ne 5, 3) := by decide +kernel
theorem dX6_near_14 : decode cX6_near 14 = .ok (.iconst (-1), 1) := by decide +kernel
theorem dX6_near_15 : decode cX6_near 15 = .ok (.ireturn, 1) := by decide +kernel
theorem dX6_near_16 : decode cX6_near 16 = .ok (.iload_n 3, 1) := by decide +kernel
theorem dX6_near_17 : decode cX6_near 17 = .ok (.ifCond .eq 11, 3) := by decide +kernel
theorem dX6_near_20 : decode cX6_near 20 = .ok (.iload_n 3, 1) := by decide +kernel
theorem dX6_near_21 : decode cX6_near 21 = .ok (.iconst 1, 1) := by decide +kernel
theorem dX6_near_22 : decode cX6_near 22 = .ok (.if_icmp .eq 6, 3) := by decide +kernel
theorem dX6_near_25 : decode cX6_near 25 = .ok (.bipush (-2), 2) := by decide +kernel
theorem dX6_near_27 : decode cX6_near 27 = .ok (.ireturn, 1) := by decide +kernel
theorem dX6_near_28 : decode cX6_near 28 = .ok (.aload_n 0, 1) := by decide +kernel
theorem dX6_near_29 : decode cX6_near 29 = .ok (.getfield 10, 3) := by decide +kernel
theorem dX6_near_32 : decode cX6_near 32 = .ok (.iload_n 1, 1) := by decide +kernel
theorem dX6_near_33 : decode cX6_near 33 = .ok (.invokevirtual 94, 3) := by decide +kernel
theorem dX6_near_36 : decode cX6_near 36 = .ok (.aload_n 0, 1) := by decide +kernel
theorem dX6_near_37 : decode cX6_near 37 = .ok (.getfield 10, 3) := by decide +kernel
theorem dX6_near_40 : decode cX6_near 40 = .ok (.iload_n 2, 1) := by decide +kernel
theorem dX6_near_41 : decode cX6_near 41 = .ok (.invokevirtual 94, 3) := by decide +kernel
theorem dX6_near_44 : decode cX6_near 44 = .ok (.invokestatic 171, 3) := by decide +kernel
theorem dX6_near_47 : decode cX6_near 47 = .ok (.istore 4, 2) := by decide +kernel
theorem dX6_near_49 : decode cX6_near 49 = .ok (.iload_n 3, 1) := by decide +kernel
theorem dX6_near_50 : decode cX6_near 50 = .ok (.iconst 1, 1) := by decide +kernel
theorem dX6_near_51 : decode cX6_near 51 = .ok (.if_icmp .ne 8, 3) := by decide +kernel
theorem dX6_near_54 : decode cX6_near 54 = .ok (.iload 4, 2) := by decide +kernel
theorem dX6_near_56 : decode cX6_near 56 = .ok (.goto 24, 3) := by decide +kernel
theorem dX6_near_59 : decode cX6_near 59 = .ok (.aload_n 0, 1) := by decide +kernel
theorem dX6_near_60 : decode cX6_near 60 = .ok (.getfield 10, 3) := by decide +kernel
theorem dX6_near_63 : decode cX6_near 63 = .ok (.iload_n 1, 1) := by decide +kernel
theorem dX6_near_64 : decode cX6_near 64 = .ok (.invokevirtual 94, 3) := by decide +kernel
theorem dX6_near_67 : decode cX6_near 67 = .ok (.aload_n 0, 1) := by decide +kernel
theorem dX6_near_68 : decode cX6_near 68 = .ok (.getfield 10, 3) := by decide +kernel
theorem dX6_near_71 : decode cX6_near 71 = .ok (.iload_n 2, 1) := by decide +kernel
theorem dX6_near_72 : decode cX6_near 72 = .ok (.invokevirtual 94, 3) := by decide +kernel
theorem dX6_near_75 : decode cX6_near 75 = .ok (.iload 4, 2) := by decide +kernel
theorem dX6_near_77 : decode cX6_near 77 = .ok (.invokestatic 174, 3) := by decide +kernel
theorem dX6_near_80 : decode cX6_near 80 = .ok (.ireturn, 1) := by decide +kernel
theorem dX6_judge_0 : decode cX6_judge 0 = .ok (.iload_n 1, 1) := by decide +kernel
theorem dX6_judge_1 : decode cX6_judge 1 = .ok (.iconst 1, 1) := by decide +kernel
theorem dX6_judge_2 : decode cX6_judge 2 = .ok (.if_icmp .lt 23, 3) := by decide +kernel
theorem dX6_judge_5 : decode cX6_judge 5 = .ok (.iload_n 1, 1) := by decide +kernel
theorem dX6_judge_6 : decode cX6_judge 6 = .ok (.iconst 4, 1) := by decide +kernel
theorem dX6_judge_7 : decode cX6_judge 7 = .ok (.if_icmp .gt 18, 3) := by decide +kernel
theorem dX6_judge_10 : decode cX6_judge 10 = .ok (.lload_n 2, 1) := by decide +kernel
theorem dX6_judge_11 : decode cX6_judge 11 = .ok (.lconst 0, 1) := by decide +kernel
theorem dX6_judge_12 : decode cX6_judge 12 = .ok (.lcmp, 1) := by decide +kernel
theorem dX6_judge_13 : decode cX6_judge 13 = .ok (.ifCond .lt 12, 3) := by decide +kernel
theorem dX6_judge_16 : decode cX6_judge 16 = .ok (.aload_n 0, 1) := by decide +kernel
theorem dX6_judge_17 : decode cX6_judge 17 = .ok (.iload_n 1, 1) := by decide +kernel
theorem dX6_judge_18 : decode cX6_judge 18 = .ok (.lload_n 2, 1) := by decide +kernel
theorem dX6_judge_19 : decode cX6_judge 19 = .ok (.invokevirtual 178, 3) := by decide +kernel
theorem dX6_judge_22 : decode cX6_judge 22 = .ok (.ifCond .ne 6, 3) := by decide +kernel
theorem dX6_judge_25 : decode cX6_judge 25 = .ok (.bipush (-2), 2) := by decide +kernel
theorem dX6_judge_27 : decode cX6_judge 27 = .ok (.ireturn, 1) := by decide +kernel
theorem dX6_judge_28 : decode cX6_judge 28 = .ok (.aload_n 0, 1) := by decide +kernel
theorem dX6_judge_29 : decode cX6_judge 29 = .ok (.getfield 16, 3) := by decide +kernel
theorem dX6_judge_32 : decode cX6_judge 32 = .ok (.aload_n 0, 1) := by decide +kernel
theorem dX6_judge_33 : decode cX6_judge 33 = .ok (.getfield 10, 3) := by decide +kernel
theorem dX6_judge_36 : decode cX6_judge 36 = .ok (.invokevirtual 182, 3) := by decide +kernel
theorem dX6_judge_39 : decode cX6_judge 39 = .ok (.iconst 0, 1) := by decide +kernel
theorem dX6_judge_40 : decode cX6_judge 40 = .ok (.istore 4, 2) := by decide +kernel
theorem dX6_judge_42 : decode cX6_judge 42 = .ok (.iload 4, 2) := by decide +kernel
theorem dX6_judge_44 : decode cX6_judge 44 = .ok (.iload_n 1, 1) := by decide +kernel
theorem dX6_judge_45 : decode cX6_judge 45 = .ok (.if_icmp .ge 49, 3) := by decide +kernel
theorem dX6_judge_48 : decode cX6_judge 48 = .ok (.aload_n 0, 1) := by decide +kernel
theorem dX6_judge_49 : decode cX6_judge 49 = .ok (.getfield 51, 3) := by decide +kernel
theorem dX6_judge_52 : decode cX6_judge 52 = .ok (.iload 4, 2) := by decide +kernel
theorem dX6_judge_54 : decode cX6_judge 54 = .ok (.iaload, 1) := by decide +kernel
theorem dX6_judge_55 : decode cX6_judge 55 = .ok (.istore 5, 2) := by decide +kernel
theorem dX6_judge_57 : decode cX6_judge 57 = .ok (.aload_n 0, 1) := by decide +kernel
theorem dX6_judge_58 : decode cX6_judge 58 = .ok (.getfield 16, 3) := by decide +kernel
theorem dX6_judge_61 : decode cX6_judge 61 = .ok (.iload 5, 2) := by decide +kernel
theorem dX6_judge_63 : decode cX6_judge 63 = .ok (.bipush 100, 2) := by decide +kernel
theorem dX6_judge_65 : decode cX6_judge 65 = .ok (.idiv, 1) := by decide +kernel
theorem dX6_judge_66 : decode cX6_judge 66 = .ok (.iload 5, 2) := by decide +kernel
theorem dX6_judge_68 : decode cX6_judge 68 = .ok (.bipush 10, 2) := by decide +kernel
theorem dX6_judge_70 : decode cX6_judge 70 = .ok (.idiv, 1) := by decide +kernel
theorem dX6_judge_71 : decode cX6_judge 71 = .ok (.bipush 10, 2) := by decide +kernel
theorem dX6_judge_73 : decode cX6_judge 73 = .ok (.irem, 1) := by decide +kernel
theorem dX6_judge_74 : decode cX6_judge 74 = .ok (.iload 5, 2) := by decide +kernel
theorem dX6_judge_76 : decode cX6_judge 76 = .ok (.bipush 10, 2) := by decide +kernel
theorem dX6_judge_78 : decode cX6_judge 78 = .ok (.irem, 1) := by decide +kernel
theorem dX6_judge_79 : decode cX6_judge 79 = .ok (.invokevirtual 186, 3) := by decide +kernel
theorem dX6_judge_82 : decode cX6_judge 82 = .ok (.ifCond .ne 6, 3) := by decide +kernel
theorem dX6_judge_85 : decode cX6_judge 85 = .ok (.iload 4, 2) := by decide +kernel
theorem dX6_judge_87 : decode cX6_judge 87 = .ok (.ireturn, 1) := by decide +kernel
theorem dX6_judge_88 : decode cX6_judge 88 = .ok (.iinc 4 1, 3) := by decide +kernel
theorem dX6_judge_91 : decode cX6_judge 91 = .ok (.goto (-49), 3) := by decide +kernel
theorem dX6_judge_94 : decode cX6_judge 94 = .ok (.bipush (-9), 2) := by decide +kernel
theorem dX6_judge_96 : decode cX6_judge 96 = .ok (.ireturn, 1) := by decide +kernel
theorem dX6_see_0 : decode cX6_see 0 = .ok (.iload_n 1, 1) := by decide +kernel
theorem dX6_see_1 : decode cX6_see 1 = .ok (.invokestatic 150, 3) := by decide +kernel
theorem dX6_see_4 : decode cX6_see 4 = .ok (.ifCond .ne 5, 3) := by decide +kernel
theorem dX6_see_7 : decode cX6_see 7 = .ok (.iconst (-1), 1) := by decide +kernel
theorem dX6_see_8 : decode cX6_see 8 = .ok (.ireturn, 1) := by decide +kernel
theorem dX6_see_9 : decode cX6_see 9 = .ok (.iload_n 2, 1) := by decide +kernel
theorem dX6_see_10 : decode cX6_see 10 = .ok (.ifCond .eq 11, 3) := by decide +kernel
theorem dX6_see_13 : decode cX6_see 13 = .ok (.iload_n 2, 1) := by decide +kernel
theorem dX6_see_14 : decode cX6_see 14 = .ok (.iconst 1, 1) := by decide +kernel
theorem dX6_see_15 : decode cX6_see 15 = .ok (.if_icmp .eq 6, 3) := by decide +kernel
theorem dX6_see_18 : decode cX6_see 18 = .ok (.bipush (-2), 2) := by decide +kernel
theorem dX6_see_20 : decode cX6_see 20 = .ok (.ireturn, 1) := by decide +kernel
theorem dX6_see_21 : decode cX6_see 21 = .ok (.aload_n 0, 1) := by decide +kernel
theorem dX6_see_22 : decode cX6_see 22 = .ok (.getfield 40, 3) := by decide +kernel
theorem dX6_see_25 : decode cX6_see 25 = .ok (.iload_n 1, 1) := by decide +kernel
theorem dX6_see_26 : decode cX6_see 26 = .ok (.iload_n 2, 1) := by decide +kernel
theorem dX6_see_27 : decode cX6_see 27 = .ok (.iconst 1, 1) := by decide +kernel
theorem dX6_see_28 : decode cX6_see 28 = .ok (.if_icmp .ne 7, 3) := by decide +kernel
theorem dX6_see_31 : decode cX6_see 31 = .ok (.iconst 1, 1) := by decide +kernel
theorem dX6_see_32 : decode cX6_see 32 = .ok (.goto 4, 3) := by decide +kernel
theorem dX6_see_35 : decode cX6_see 35 = .ok (.iconst 0, 1) := by decide +kernel
theorem dX6_see_36 : decode cX6_see 36 = .ok (.invokevirtual 190, 3) := by decide +kernel
theorem dX6_see_39 : decode cX6_see 39 = .ok (.ifCond .eq 13, 3) := by decide +kernel
theorem dX6_see_42 : decode cX6_see 42 = .ok (.aload_n 0, 1) := by decide +kernel
theorem dX6_see_43 : decode cX6_see 43 = .ok (.getfield 40, 3) := by decide +kernel
theorem dX6_see_46 : decode cX6_see 46 = .ok (.invokevirtual 193, 3) := by decide +kernel
theorem dX6_see_49 : decode cX6_see 49 = .ok (.goto 5, 3) := by decide +kernel
theorem dX6_see_52 : decode cX6_see 52 = .ok (.bipush (-4), 2) := by decide +kernel
theorem dX6_see_54 : decode cX6_see 54 = .ok (.ireturn, 1) := by decide +kernel
theorem dX6_unsee_0 : decode cX6_unsee 0 = .ok (.aload_n 0, 1) := by decide +kernel
theorem dX6_unsee_1 : decode cX6_unsee 1 = .ok (.getfield 40, 3) := by decide +kernel
theorem dX6_unsee_4 : decode cX6_unsee 4 = .ok (.invokevirtual 193, 3) := by decide +kernel
theorem dX6_unsee_7 : decode cX6_unsee 7 = .ok (.istore_n 1, 1) := by decide +kernel
theorem dX6_unsee_8 : decode cX6_unsee 8 = .ok (.aload_n 0, 1) := by decide +kernel
theorem dX6_unsee_9 : decode cX6_unsee 9 = .ok (.getfield 40, 3) := by decide +kernel
theorem dX6_unsee_12 : decode cX6_unsee 12 = .ok (.invokevirtual 194, 3) := by decide +kernel
theorem dX6_unsee_15 : decode cX6_unsee 15 = .ok (.iload_n 1, 1) := by decide +kernel
theorem dX6_unsee_16 : decode cX6_unsee 16 = .ok (.ireturn, 1) := by decide +kernel
theorem dX6_leaves_0 : decode cX6_leaves 0 = .ok (.iload_n 1, 1) := by decide +kernel
theorem dX6_leaves_1 : decode cX6_leaves 1 = .ok (.ifCond .ne 11, 3) := by decide +kernel
theorem dX6_leaves_4 : decode cX6_leaves 4 = .ok (.aload_n 0, 1) := by decide +kernel
theorem dX6_leaves_5 : decode cX6_leaves 5 = .ok (.getfield 40, 3) := by decide +kernel
theorem dX6_leaves_8 : decode cX6_leaves 8 = .ok (.invokevirtual 195, 3) := by decide +kernel
theorem dX6_leaves_11 : decode cX6_leaves 11 = .ok (.ireturn, 1) := by decide +kernel
theorem dX6_leaves_12 : decode cX6_leaves 12 = .ok (.iload_n 1, 1) := by decide +kernel
theorem dX6_leaves_13 : decode cX6_leaves 13 = .ok (.iconst 1, 1) := by decide +kernel
theorem dX6_leaves_14 : decode cX6_leaves 14 = .ok (.if_icmp .ne 13, 3) := by decide +kernel
theorem dX6_leaves_17 : decode cX6_leaves 17 = .ok (.aload_n 0, 1) := by decide +kernel
theorem dX6_leaves_18 : decode cX6_leaves 18 = .ok (.getfield 40, 3) := by decide +kernel
theorem dX6_leaves_21 : decode cX6_leaves 21 = .ok (.invokevirtual 198, 3) := by decide +kernel
theorem dX6_leaves_24 : decode cX6_leaves 24 = .ok (.goto 5, 3) := by decide +kernel
theorem dX6_leaves_27 : decode cX6_leaves 27 = .ok (.bipush (-2), 2) := by decide +kernel
theorem dX6_leaves_29 : decode cX6_leaves 29 = .ok (.ireturn, 1) := by decide +kernel
theorem dX6_share_0 : decode cX6_share 0 = .ok (.iload_n 1, 1) := by decide +kernel
theorem dX6_share_1 : decode cX6_share 1 = .ok (.invokestatic 73, 3) := by decide +kernel
theorem dX6_share_4 : decode cX6_share 4 = .ok (.ifCond .ne 5, 3) := by decide +kernel
theorem dX6_share_7 : decode cX6_share 7 = .ok (.iconst (-1), 1) := by decide +kernel
theorem dX6_share_8 : decode cX6_share 8 = .ok (.ireturn, 1) := by decide +kernel
theorem dX6_share_9 : decode cX6_share 9 = .ok (.iconst 0, 1) := by decide +kernel
theorem dX6_share_10 : decode cX6_share 10 = .ok (.istore_n 3, 1) := by decide +kernel
theorem dX6_share_11 : decode cX6_share 11 = .ok (.iconst 0, 1) := by decide +kernel
theorem dX6_share_12 : decode cX6_share 12 = .ok (.istore 4, 2) := by decide +kernel
theorem dX6_share_14 : decode cX6_share 14 = .ok (.iload 4, 2) := by decide +kernel
theorem dX6_share_16 : decode cX6_share 16 = .ok (.bipush 64, 2) := by decide +kernel
theorem dX6_share_18 : decode cX6_share 18 = .ok (.if_icmp .ge 40, 3) := by decide +kernel
theorem dX6_share_21 : decode cX6_share 21 = .ok (.aload_n 0, 1) := by decide +kernel
theorem dX6_share_22 : decode cX6_share 22 = .ok (.getfield 10, 3) := by decide +kernel
theorem dX6_share_25 : decode cX6_share 25 = .ok (.iload_n 1, 1) := by decide +kernel
theorem dX6_share_26 : decode cX6_share 26 = .ok (.invokevirtual 94, 3) := by decide +kernel
theorem dX6_share_29 : decode cX6_share 29 = .ok (.iload 4, 2) := by decide +kernel
theorem dX6_share_31 : decode cX6_share 31 = .ok (.invokestatic 153, 3) := by decide +kernel
theorem dX6_share_34 : decode cX6_share 34 = .ok (.ifCond .eq 18, 3) := by decide +kernel
theorem dX6_share_37 : decode cX6_share 37 = .ok (.iload_n 3, 1) := by decide +kernel
theorem dX6_share_38 : decode cX6_share 38 = .ok (.aload_n 0, 1) := by decide +kernel
theorem dX6_share_39 : decode cX6_share 39 = .ok (.getfield 10, 3) := by decide +kernel
theorem dX6_share_42 : decode cX6_share 42 = .ok (.iload 4, 2) := by decide +kernel
theorem dX6_share_44 : decode cX6_share 44 = .ok (.invokevirtual 201, 3) := by decide +kernel
theorem dX6_share_47 : decode cX6_share 47 = .ok (.invokestatic 205, 3) := by decide +kernel
theorem dX6_share_50 : decode cX6_share 50 = .ok (.iadd, 1) := by decide +kernel
theorem dX6_share_51 : decode cX6_share 51 = .ok (.istore_n 3, 1) := by decide +kernel
theorem dX6_share_52 : decode cX6_share 52 = .ok (.iinc 4 1, 3) := by decide +kernel
theorem dX6_share_55 : decode cX6_share 55 = .ok (.goto (-41), 3) := by decide +kernel
theorem dX6_share_58 : decode cX6_share 58 = .ok (.iload_n 3, 1) := by decide +kernel
theorem dX6_share_59 : decode cX6_share 59 = .ok (.bipush 6, 2) := by decide +kernel
theorem dX6_share_61 : decode cX6_share 61 = .ok (.iload_n 2, 1) := by decide +kernel
theorem dX6_share_62 : decode cX6_share 62 = .ok (.invokestatic 208, 3) := by decide +kernel
theorem dX6_share_65 : decode cX6_share 65 = .ok (.ireturn, 1) := by decide +kernel
theorem dX6_rests_0 : decode cX6_rests 0 = .ok (.iload_n 1, 1) := by decide +kernel
theorem dX6_rests_1 : decode cX6_rests 1 = .ok (.invokestatic 73, 3) := by decide +kernel
theorem dX6_rests_4 : decode cX6_rests 4 = .ok (.ifCond .eq 10, 3) := by decide +kernel
theorem dX6_rests_7 : decode cX6_rests 7 = .ok (.iload_n 2, 1) := by decide +kernel
theorem dX6_rests_8 : decode cX6_rests 8 = .ok (.invokestatic 73, 3) := by decide +kernel
theorem dX6_rests_11 : decode cX6_rests 11 = .ok (.ifCond .ne 5, 3) := by decide +kernel
theorem dX6_rests_14 : decode cX6_rests 14 = .ok (.iconst (-1), 1) := by decide +kernel
theorem dX6_rests_15 : decode cX6_rests 15 = .ok (.ireturn, 1) := by decide +kernel
theorem dX6_rests_16 : decode cX6_rests 16 = .ok (.iload_n 1, 1) := by decide +kernel
theorem dX6_rests_17 : decode cX6_rests 17 = .ok (.iload_n 2, 1) := by decide +kernel
theorem dX6_rests_18 : decode cX6_rests 18 = .ok (.if_icmp .eq 12, 3) := by decide +kernel
theorem dX6_rests_21 : decode cX6_rests 21 = .ok (.iload_n 3, 1) := by decide +kernel
theorem dX6_rests_22 : decode cX6_rests 22 = .ok (.ifCond .eq 11, 3) := by decide +kernel
theorem dX6_rests_25 : decode cX6_rests 25 = .ok (.iload_n 3, 1) := by decide +kernel
theorem dX6_rests_26 : decode cX6_rests 26 = .ok (.iconst 1, 1) := by decide +kernel
theorem dX6_rests_27 : decode cX6_rests 27 = .ok (.if_icmp .eq 6, 3) := by decide +kernel
theorem dX6_rests_30 : decode cX6_rests 30 = .ok (.bipush (-2), 2) := by decide +kernel
theorem dX6_rests_32 : decode cX6_rests 32 = .ok (.ireturn, 1) := by decide +kernel
theorem dX6_rests_33 : decode cX6_rests 33 = .ok (.iconst 0, 1) := by decide +kernel
theorem dX6_rests_34 : decode cX6_rests 34 = .ok (.istore 4, 2) := by decide +kernel
theorem dX6_rests_36 : decode cX6_rests 36 = .ok (.bipush (-9), 2) := by decide +kernel
theorem dX6_rests_38 : decode cX6_rests 38 = .ok (.istore 5, 2) := by decide +kernel
theorem dX6_rests_40 : decode cX6_rests 40 = .ok (.iconst 0, 1) := by decide +kernel
theorem dX6_rests_41 : decode cX6_rests 41 = .ok (.istore 6, 2) := by decide +kernel
theorem dX6_rests_43 : decode cX6_rests 43 = .ok (.iload 6, 2) := by decide +kernel
theorem dX6_rests_45 : decode cX6_rests 45 = .ok (.iconst 4, 1) := by decide +kernel
theorem dX6_rests_46 : decode cX6_rests 46 = .ok (.if_icmp .ge 53, 3) := by decide +kernel
theorem dX6_rests_49 : decode cX6_rests 49 = .ok (.aload_n 0, 1) := by decide +kernel
theorem dX6_rests_50 : decode cX6_rests 50 = .ok (.iload_n 1, 1) := by decide +kernel
theorem dX6_rests_51 : decode cX6_rests 51 = .ok (.iload_n 2, 1) := by decide +kernel
theorem dX6_rests_52 : decode cX6_rests 52 = .ok (.iload 6, 2) := by decide +kernel
theorem dX6_rests_54 : decode cX6_rests 54 = .ok (.iconst 2, 1) := by decide +kernel
theorem dX6_rests_55 : decode cX6_rests 55 = .ok (.idiv, 1) := by decide +kernel
theorem dX6_rests_56 : decode cX6_rests 56 = .ok (.iload 6, 2) := by decide +kernel
theorem dX6_rests_58 : decode cX6_rests 58 = .ok (.iconst 2, 1) := by decide +kernel
theorem dX6_rests_59 : decode cX6_rests 59 = .ok (.irem, 1) := by decide +kernel
theorem dX6_rests_60 : decode cX6_rests 60 = .ok (.invokevirtual 212, 3) := by decide +kernel
theorem dX6_rests_63 : decode cX6_rests 63 = .ok (.ifCond .eq 30, 3) := by decide +kernel
theorem dX6_rests_66 : decode cX6_rests 66 = .ok (.iload 4, 2) := by decide +kernel
theorem dX6_rests_68 : decode cX6_rests 68 = .ok (.ifCond .ne 18, 3) := by decide +kernel
theorem dX6_rests_71 : decode cX6_rests 71 = .ok (.bipush 10, 2) := by decide +kernel
theorem dX6_rests_73 : decode cX6_rests 73 = .ok (.iload 6, 2) := by decide +kernel
theorem dX6_rests_75 : decode cX6_rests 75 = .ok (.iconst 2, 1) := by decide +kernel
theorem dX6_rests_76 : decode cX6_rests 76 = .ok (.idiv, 1) := by decide +kernel
theorem dX6_rests_77 : decode cX6_rests 77 = .ok (.imul, 1) := by decide +kernel
theorem dX6_rests_78 : decode cX6_rests 78 = .ok (.iload 6, 2) := by decide +kernel
theorem dX6_rests_80 : decode cX6_rests 80 = .ok (.iconst 2, 1) := by decide +kernel
theorem dX6_rests_81 : decode cX6_rests 81 = .ok (.irem, 1) := by decide +kernel
theorem dX6_rests_82 : decode cX6_rests 82 = .ok (.iadd, 1) := by decide +kernel
theorem dX6_rests_83 : decode cX6_rests 83 = .ok (.goto 5, 3) := by decide +kernel
theorem dX6_rests_86 : decode cX6_rests 86 = .ok (.iload 5, 2) := by decide +kernel
theorem dX6_rests_88 : decode cX6_rests 88 = .ok (.istore 5, 2) := by decide +kernel
theorem dX6_rests_90 : decode cX6_rests 90 = .ok (.iinc 4 1, 3) := by decide +kernel
theorem dX6_rests_93 : decode cX6_rests 93 = .ok (.iinc 6 1, 3) := by decide +kernel
theorem dX6_rests_96 : decode cX6_rests 96 = .ok (.goto (-53), 3) := by decide +kernel
theorem dX6_rests_99 : decode cX6_rests 99 = .ok (.iload_n 3, 1) := by decide +kernel
theorem dX6_rests_100 : decode cX6_rests 100 = .ok (.ifCond .ne 8, 3) := by decide +kernel
theorem dX6_rests_103 : decode cX6_rests 103 = .ok (.iload 4, 2) := by decide +kernel
theorem dX6_rests_105 : decode cX6_rests 105 = .ok (.goto 5, 3) := by decide +kernel
theorem dX6_rests_108 : decode cX6_rests 108 = .ok (.iload 5, 2) := by decide +kernel
theorem dX6_rests_110 : decode cX6_rests 110 = .ok (.ireturn, 1) := by decide +kernel
theorem dX6_fades_0 : decode cX6_fades 0 = .ok (.iload_n 1, 1) := by decide +kernel
theorem dX6_fades_1 : decode cX6_fades 1 = .ok (.invokestatic 73, 3) := by decide +kernel
theorem dX6_fades_4 : decode cX6_fades 4 = .ok (.ifCond .ne 5, 3) := by decide +kernel
theorem dX6_fades_7 : decode cX6_fades 7 = .ok (.iconst (-1), 1) := by decide +kernel
theorem dX6_fades_8 : decode cX6_fades 8 = .ok (.ireturn, 1) := by decide +kernel
theorem dX6_fades_9 : decode cX6_fades 9 = .ok (.iload_n 2, 1) := by decide +kernel
theorem dX6_fades_10 : decode cX6_fades 10 = .ok (.ifCond .lt 19, 3) := by decide +kernel
theorem dX6_fades_13 : decode cX6_fades 13 = .ok (.iload_n 2, 1) := by decide +kernel
theorem dX6_fades_14 : decode cX6_fades 14 = .ok (.bipush 64, 2) := by decide +kernel
theorem dX6_fades_16 : decode cX6_fades 16 = .ok (.if_icmp .gt 13, 3) := by decide +kernel
theorem dX6_fades_19 : decode cX6_fades 19 = .ok (.iload_n 3, 1) := by decide +kernel
theorem dX6_fades_20 : decode cX6_fades 20 = .ok (.ifCond .lt 9, 3) := by decide +kernel
theorem dX6_fades_23 : decode cX6_fades 23 = .ok (.iload_n 3, 1) := by decide +kernel
theorem dX6_fades_24 : decode cX6_fades 24 = .ok (.bipush 10, 2) := by decide +kernel
theorem dX6_fades_26 : decode cX6_fades 26 = .ok (.if_icmp .le 6, 3) := by decide +kernel
theorem dX6_fades_29 : decode cX6_fades 29 = .ok (.bipush (-2), 2) := by decide +kernel
theorem dX6_fades_31 : decode cX6_fades 31 = .ok (.ireturn, 1) := by decide +kernel
theorem dX6_fades_32 : decode cX6_fades 32 = .ok (.iconst 0, 1) := by decide +kernel
theorem dX6_fades_33 : decode cX6_fades 33 = .ok (.istore 5, 2) := by decide +kernel
theorem dX6_fades_35 : decode cX6_fades 35 = .ok (.iconst 0, 1) := by decide +kernel
theorem dX6_fades_36 : decode cX6_fades 36 = .ok (.istore 6, 2) := by decide +kernel
theorem dX6_fades_38 : decode cX6_fades 38 = .ok (.iload 6, 2) := by decide +kernel
theorem dX6_fades_40 : decode cX6_fades 40 = .ok (.bipush 16, 2) := by decide +kernel
theorem dX6_fades_42 : decode cX6_fades 42 = .ok (.if_icmp .ge 37, 3) := by decide +kernel
theorem dX6_fades_45 : decode cX6_fades 45 = .ok (.aload_n 0, 1) := by decide +kernel
theorem dX6_fades_46 : decode cX6_fades 46 = .ok (.getfield 10, 3) := by decide +kernel
theorem dX6_fades_49 : decode cX6_fades 49 = .ok (.iload_n 1, 1) := by decide +kernel
theorem dX6_fades_50 : decode cX6_fades 50 = .ok (.invokevirtual 94, 3) := by decide +kernel
theorem dX6_fades_53 : decode cX6_fades 53 = .ok (.iload 6, 2) := by decide +kernel
theorem dX6_fades_55 : decode cX6_fades 55 = .ok (.invokestatic 216, 3) := by decide +kernel
theorem dX6_fades_58 : decode cX6_fades 58 = .ok (.iload_n 2, 1) := by decide +kernel
theorem dX6_fades_59 : decode cX6_fades 59 = .ok (.if_icmp .lt 14, 3) := by decide +kernel
theorem dX6_fades_62 : decode cX6_fades 62 = .ok (.iload 5, 2) := by decide +kernel
theorem dX6_fades_64 : decode cX6_fades 64 = .ok (.iload 6, 2) := by decide +kernel
theorem dX6_fades_66 : decode cX6_fades 66 = .ok (.iload_n 3, 1) := by decide +kernel
theorem dX6_fades_67 : decode cX6_fades 67 = .ok (.invokestatic 219, 3) := by decide +kernel
theorem dX6_fades_70 : decode cX6_fades 70 = .ok (.iadd, 1) := by decide +kernel
theorem dX6_fades_71 : decode cX6_fades 71 = .ok (.istore 5, 2) := by decide +kernel
theorem dX6_fades_73 : decode cX6_fades 73 = .ok (.iinc 6 1, 3) := by decide +kernel
theorem dX6_fades_76 : decode cX6_fades 76 = .ok (.goto (-38), 3) := by decide +kernel
theorem dX6_fades_79 : decode cX6_fades 79 = .ok (.iload 5, 2) := by decide +kernel
theorem dX6_fades_81 : decode cX6_fades 81 = .ok (.sipush 10000, 3) := by decide +kernel
theorem dX6_fades_84 : decode cX6_fades 84 = .ok (.iload 4, 2) := by decide +kernel
theorem dX6_fades_86 : decode cX6_fades 86 = .ok (.invokestatic 208, 3) := by decide +kernel
theorem dX6_fades_89 : decode cX6_fades 89 = .ok (.ireturn, 1) := by decide +kernel
theorem dX6_seed_0 : decode cX6_seed 0 = .ok (.aload_n 0, 1) := by decide +kernel
theorem dX6_seed_1 : decode cX6_seed 1 = .ok (.getfield 55, 3) := by decide +kernel
theorem dX6_seed_4 : decode cX6_seed 4 = .ok (.lstore_n 3, 1) := by decide +kernel
theorem dX6_seed_5 : decode cX6_seed 5 = .ok (.aload_n 0, 1) := by decide +kernel
theorem dX6_seed_6 : decode cX6_seed 6 = .ok (.lload_n 1, 1) := by decide +kernel
theorem dX6_seed_7 : decode cX6_seed 7 = .ok (.putfield 55, 3) := by decide +kernel
theorem dX6_seed_10 : decode cX6_seed 10 = .ok (.lload_n 3, 1) := by decide +kernel
theorem dX6_seed_11 : decode cX6_seed 11 = .ok (.lreturn, 1) := by decide +kernel
theorem dX6_years_0 : decode cX6_years 0 = .ok (.iload_n 1, 1) := by decide +kernel
theorem dX6_years_1 : decode cX6_years 1 = .ok (.iconst 1, 1) := by decide +kernel
theorem dX6_years_2 : decode cX6_years 2 = .ok (.if_icmp .lt 9, 3) := by decide +kernel
theorem dX6_years_5 : decode cX6_years 5 = .ok (.iload_n 1, 1) := by decide +kernel
theorem dX6_years_6 : decode cX6_years 6 = .ok (.bipush 30, 2) := by decide +kernel
theorem dX6_years_8 : decode cX6_years 8 = .ok (.if_icmp .le 6, 3) := by decide +kernel
theorem dX6_years_11 : decode cX6_years 11 = .ok (.bipush (-2), 2) := by decide +kernel
theorem dX6_years_13 : decode cX6_years 13 = .ok (.ireturn, 1) := by decide +kernel
theorem dX6_years_14 : decode cX6_years 14 = .ok (.aload_n 0, 1) := by decide +kernel
theorem dX6_years_15 : decode cX6_years 15 = .ok (.getfield 16, 3) := by decide +kernel
theorem dX6_years_18 : decode cX6_years 18 = .ok (.aload_n 0, 1) := by decide +kernel
theorem dX6_years_19 : decode cX6_years 19 = .ok (.getfield 10, 3) := by decide +kernel
theorem dX6_years_22 : decode cX6_years 22 = .ok (.invokevirtual 182, 3) := by decide +kernel
theorem dX6_years_25 : decode cX6_years 25 = .ok (.iconst 0, 1) := by decide +kernel
theorem dX6_years_26 : decode cX6_years 26 = .ok (.istore_n 2, 1) := by decide +kernel
theorem dX6_years_27 : decode cX6_years 27 = .ok (.iconst 0, 1) := by decide +kernel
theorem dX6_years_28 : decode cX6_years 28 = .ok (.istore_n 3, 1) := by decide +kernel
theorem dX6_years_29 : decode cX6_years 29 = .ok (.iload_n 3, 1) := by decide +kernel
theorem dX6_years_30 : decode cX6_years 30 = .ok (.iload_n 1, 1) := by decide +kernel
theorem dX6_years_31 : decode cX6_years 31 = .ok (.if_icmp .ge 51, 3) := by decide +kernel
theorem dX6_years_34 : decode cX6_years 34 = .ok (.aload_n 0, 1) := by decide +kernel
theorem dX6_years_35 : decode cX6_years 35 = .ok (.aload_n 0, 1) := by decide +kernel
theorem dX6_years_36 : decode cX6_years 36 = .ok (.getfield 55, 3) := by decide +kernel
theorem dX6_years_39 : decode cX6_years 39 = .ok (.ldc2_w 223, 3) := by decide +kernel
theorem dX6_years_42 : decode cX6_years 42 = .ok (.lmul, 1) := by decide +kernel
theorem dX6_years_43 : decode cX6_years 43 = .ok (.ldc2_w 225, 3) := by decide +kernel
theorem dX6_years_46 : decode cX6_years 46 = .ok (.ladd, 1) := by decide +kernel
theorem dX6_years_47 : decode cX6_years 47 = .ok (.putfield 55, 3) := by decide +kernel
theorem dX6_years_50 : decode cX6_years 50 = .ok (.aload_n 0, 1) := by decide +kernel
theorem dX6_years_51 : decode cX6_years 51 = .ok (.aload_n 0, 1) := by decide +kernel
theorem dX6_years_52 : decode cX6_years 52 = .ok (.getfield 55, 3) := by decide +kernel
theorem dX6_years_55 : decode cX6_years 55 = .ok (.bipush 33, 2) := by decide +kernel
theorem dX6_years_57 : decode cX6_years 57 = .ok (.lushr, 1) := by decide +kernel
theorem dX6_years_58 : decode cX6_years 58 = .ok (.ldc2_w 227, 3) := by decide +kernel
theorem dX6_years_61 : decode cX6_years 61 = .ok (.lrem, 1) := by decide +kernel
theorem dX6_years_62 : decode cX6_years 62 = .ok (.l2i, 1) := by decide +kernel
theorem dX6_years_63 : decode cX6_years 63 = .ok (.invokevirtual 229, 3) := by decide +kernel
theorem dX6_years_66 : decode cX6_years 66 = .ok (.iload_n 2, 1) := by decide +kernel
theorem dX6_years_67 : decode cX6_years 67 = .ok (.aload_n 0, 1) := by decide +kernel
theorem dX6_years_68 : decode cX6_years 68 = .ok (.getfield 16, 3) := by decide +kernel
theorem dX6_years_71 : decode cX6_years 71 = .ok (.invokevirtual 233, 3) := by decide +kernel
theorem dX6_years_74 : decode cX6_years 74 = .ok (.iadd, 1) := by decide +kernel
theorem dX6_years_75 : decode cX6_years 75 = .ok (.istore_n 2, 1) := by decide +kernel
theorem dX6_years_76 : decode cX6_years 76 = .ok (.iinc 3 1, 3) := by decide +kernel
theorem dX6_years_79 : decode cX6_years 79 = .ok (.goto (-50), 3) := by decide +kernel
theorem dX6_years_82 : decode cX6_years 82 = .ok (.iload_n 2, 1) := by decide +kernel
theorem dX6_years_83 : decode cX6_years 83 = .ok (.ireturn, 1) := by decide +kernel
theorem dX6_keep_0 : decode cX6_keep 0 = .ok (.iload_n 1, 1) := by decide +kernel
theorem dX6_keep_1 : decode cX6_keep 1 = .ok (.ifCond .lt 8, 3) := by decide +kernel
theorem dX6_keep_4 : decode cX6_keep 4 = .ok (.iload_n 1, 1) := by decide +kernel
theorem dX6_keep_5 : decode cX6_keep 5 = .ok (.iconst 2, 1) := by decide +kernel
theorem dX6_keep_6 : decode cX6_keep 6 = .ok (.if_icmp .lt 5, 3) := by decide +kernel
theorem dX6_keep_9 : decode cX6_keep 9 = .ok (.iconst (-1), 1) := by decide +kernel
theorem dX6_keep_10 : decode cX6_keep 10 = .ok (.ireturn, 1) := by decide +kernel
theorem dX6_keep_11 : decode cX6_keep 11 = .ok (.aload_n 0, 1) := by decide +kernel
theorem dX6_keep_12 : decode cX6_keep 12 = .ok (.getfield 19, 3) := by decide +kernel
theorem dX6_keep_15 : decode cX6_keep 15 = .ok (.iload_n 1, 1) := by decide +kernel
theorem dX6_keep_16 : decode cX6_keep 16 = .ok (.aaload, 1) := by decide +kernel
theorem dX6_keep_17 : decode cX6_keep 17 = .ok (.astore_n 2, 1) := by decide +kernel
theorem dX6_keep_18 : decode cX6_keep 18 = .ok (.aload_n 2, 1) := by decide +kernel
theorem dX6_keep_19 : decode cX6_keep 19 = .ok (.ifnonnull 18, 3) := by decide +kernel
theorem dX6_keep_22 : decode cX6_keep 22 = .ok (.new 7, 3) := by decide +kernel
theorem dX6_keep_25 : decode cX6_keep 25 = .ok (.dup, 1) := by decide +kernel
theorem dX6_keep_26 : decode cX6_keep 26 = .ok (.invokespecial 9, 3) := by decide +kernel
theorem dX6_keep_29 : decode cX6_keep 29 = .ok (.astore_n 2, 1) := by decide +kernel
theorem dX6_keep_30 : decode cX6_keep 30 = .ok (.aload_n 0, 1) := by decide +kernel
theorem dX6_keep_31 : decode cX6_keep 31 = .ok (.getfield 19, 3) := by decide +kernel
theorem dX6_keep_34 : decode cX6_keep 34 = .ok (.iload_n 1, 1) := by decide +kernel
theorem dX6_keep_35 : decode cX6_keep 35 = .ok (.aload_n 2, 1) := by decide +kernel
theorem dX6_keep_36 : decode cX6_keep 36 = .ok (.aastore, 1) := by decide +kernel
theorem dX6_keep_37 : decode cX6_keep 37 = .ok (.aload_n 2, 1) := by decide +kernel
theorem dX6_keep_38 : decode cX6_keep 38 = .ok (.aload_n 0, 1) := by decide +kernel
theorem dX6_keep_39 : decode cX6_keep 39 = .ok (.getfield 10, 3) := by decide +kernel
theorem dX6_keep_42 : decode cX6_keep 42 = .ok (.invokevirtual 182, 3) := by decide +kernel
theorem dX6_keep_45 : decode cX6_keep 45 = .ok (.aload_n 0, 1) := by decide +kernel
theorem dX6_keep_46 : decode cX6_keep 46 = .ok (.getfield 10, 3) := by decide +kernel
theorem dX6_keep_49 : decode cX6_keep 49 = .ok (.invokevirtual 233, 3) := by decide +kernel
theorem dX6_keep_52 : decode cX6_keep 52 = .ok (.ireturn, 1) := by decide +kernel
theorem dX6_again_0 : decode cX6_again 0 = .ok (.iload_n 1, 1) := by decide +kernel
theorem dX6_again_1 : decode cX6_again 1 = .ok (.ifCond .lt 8, 3) := by decide +kernel
theorem dX6_again_4 : decode cX6_again 4 = .ok (.iload_n 1, 1) := by decide +kernel
theorem dX6_again_5 : decode cX6_again 5 = .ok (.iconst 2, 1) := by decide +kernel
theorem dX6_again_6 : decode cX6_again 6 = .ok (.if_icmp .lt 5, 3) := by decide +kernel
theorem dX6_again_9 : decode cX6_again 9 = .ok (.iconst (-1), 1) := by decide +kernel
theorem dX6_again_10 : decode cX6_again 10 = .ok (.ireturn, 1) := by decide +kernel
theorem dX6_again_11 : decode cX6_again 11 = .ok (.aload_n 0, 1) := by decide +kernel
theorem dX6_again_12 : decode cX6_again 12 = .ok (.getfield 19, 3) := by decide +kernel
theorem dX6_again_15 : decode cX6_again 15 = .ok (.iload_n 1, 1) := by decide +kernel
theorem dX6_again_16 : decode cX6_again 16 = .ok (.aaload, 1) := by decide +kernel
theorem dX6_again_17 : decode cX6_again 17 = .ok (.astore_n 2, 1) := by decide +kernel
theorem dX6_again_18 : decode cX6_again 18 = .ok (.aload_n 2, 1) := by decide +kernel
theorem dX6_again_19 : decode cX6_again 19 = .ok (.ifnonnull 6, 3) := by decide +kernel
theorem dX6_again_22 : decode cX6_again 22 = .ok (.bipush (-3), 2) := by decide +kernel
theorem dX6_again_24 : decode cX6_again 24 = .ok (.ireturn, 1) := by decide +kernel
theorem dX6_again_25 : decode cX6_again 25 = .ok (.aload_n 0, 1) := by decide +kernel
theorem dX6_again_26 : decode cX6_again 26 = .ok (.getfield 10, 3) := by decide +kernel
theorem dX6_again_29 : decode cX6_again 29 = .ok (.aload_n 2, 1) := by decide +kernel
theorem dX6_again_30 : decode cX6_again 30 = .ok (.invokevirtual 182, 3) := by decide +kernel
theorem dX6_again_33 : decode cX6_again 33 = .ok (.aload_n 0, 1) := by decide +kernel
theorem dX6_again_34 : decode cX6_again 34 = .ok (.getfield 33, 3) := by decide +kernel
theorem dX6_again_37 : decode cX6_again 37 = .ok (.invokevirtual 236, 3) := by decide +kernel
theorem dX6_again_40 : decode cX6_again 40 = .ok (.aload_n 0, 1) := by decide +kernel
theorem dX6_again_41 : decode cX6_again 41 = .ok (.getfield 10, 3) := by decide +kernel
theorem dX6_again_44 : decode cX6_again 44 = .ok (.invokevirtual 233, 3) := by decide +kernel
theorem dX6_again_47 : decode cX6_again 47 = .ok (.ireturn, 1) := by decide +kernel
theorem dX6_count_0 : decode cX6_count 0 = .ok (.iload_n 1, 1) := by decide +kernel
theorem dX6_count_1 : decode cX6_count 1 = .ok (.tableswitch 131 0 5 #[39, 47, 55, 85, 115, 123], 39) := by decide +kernel
theorem dX6_count_40 : decode cX6_count 40 = .ok (.aload_n 0, 1) := by decide +kernel
theorem dX6_count_41 : decode cX6_count 41 = .ok (.getfield 26, 3) := by decide +kernel
theorem dX6_count_44 : decode cX6_count 44 = .ok (.invokevirtual 63, 3) := by decide +kernel
theorem dX6_count_47 : decode cX6_count 47 = .ok (.ireturn, 1) := by decide +kernel
theorem dX6_count_48 : decode cX6_count 48 = .ok (.aload_n 0, 1) := by decide +kernel
theorem dX6_count_49 : decode cX6_count 49 = .ok (.getfield 10, 3) := by decide +kernel
theorem dX6_count_52 : decode cX6_count 52 = .ok (.invokevirtual 233, 3) := by decide +kernel
theorem dX6_count_55 : decode cX6_count 55 = .ok (.ireturn, 1) := by decide +kernel
theorem dX6_count_56 : decode cX6_count 56 = .ok (.aload_n 0, 1) := by decide +kernel
theorem dX6_count_57 : decode cX6_count 57 = .ok (.getfield 10, 3) := by decide +kernel
theorem dX6_count_60 : decode cX6_count 60 = .ok (.iconst 0, 1) := by decide +kernel
theorem dX6_count_61 : decode cX6_count 61 = .ok (.invokevirtual 94, 3) := by decide +kernel
theorem dX6_count_64 : decode cX6_count 64 = .ok (.aload_n 0, 1) := by decide +kernel
theorem dX6_count_65 : decode cX6_count 65 = .ok (.getfield 10, 3) := by decide +kernel
theorem dX6_count_68 : decode cX6_count 68 = .ok (.iconst 1, 1) := by decide +kernel
theorem dX6_count_69 : decode cX6_count 69 = .ok (.invokevirtual 94, 3) := by decide +kernel
theorem dX6_count_72 : decode cX6_count 72 = .ok (.lor, 1) := by decide +kernel
theorem dX6_count_73 : decode cX6_count 73 = .ok (.aload_n 0, 1) := by decide +kernel
theorem dX6_count_74 : decode cX6_count 74 = .ok (.getfield 10, 3) := by decide +kernel
theorem dX6_count_77 : decode cX6_count 77 = .ok (.iconst 2, 1) := by decide +kernel
theorem dX6_count_78 : decode cX6_count 78 = .ok (.invokevirtual 94, 3) := by decide +kernel
theorem dX6_count_81 : decode cX6_count 81 = .ok (.lor, 1) := by decide +kernel
theorem dX6_count_82 : decode cX6_count 82 = .ok (.invokestatic 84, 3) := by decide +kernel
theorem dX6_count_85 : decode cX6_count 85 = .ok (.ireturn, 1) := by decide +kernel
theorem dX6_count_86 : decode cX6_count 86 = .ok (.aload_n 0, 1) := by decide +kernel
theorem dX6_count_87 : decode cX6_count 87 = .ok (.getfield 10, 3) := by decide +kernel
theorem dX6_count_90 : decode cX6_count 90 = .ok (.iconst 0, 1) := by decide +kernel
theorem dX6_count_91 : decode cX6_count 91 = .ok (.invokevirtual 94, 3) := by decide +kernel
theorem dX6_count_94 : decode cX6_count 94 = .ok (.aload_n 0, 1) := by decide +kernel
theorem dX6_count_95 : decode cX6_count 95 = .ok (.getfield 10, 3) := by decide +kernel
theorem dX6_count_98 : decode cX6_count 98 = .ok (.iconst 1, 1) := by decide +kernel
theorem dX6_count_99 : decode cX6_count 99 = .ok (.invokevirtual 94, 3) := by decide +kernel
theorem dX6_count_102 : decode cX6_count 102 = .ok (.land, 1) := by decide +kernel
theorem dX6_count_103 : decode cX6_count 103 = .ok (.aload_n 0, 1) := by decide +kernel
theorem dX6_count_104 : decode cX6_count 104 = .ok (.getfield 10, 3) := by decide +kernel
theorem dX6_count_107 : decode cX6_count 107 = .ok (.iconst 2, 1) := by decide +kernel
theorem dX6_count_108 : decode cX6_count 108 = .ok (.invokevirtual 94, 3) := by decide +kernel
theorem dX6_count_111 : decode cX6_count 111 = .ok (.land, 1) := by decide +kernel
theorem dX6_count_112 : decode cX6_count 112 = .ok (.invokestatic 84, 3) := by decide +kernel
theorem dX6_count_115 : decode cX6_count 115 = .ok (.ireturn, 1) := by decide +kernel
theorem dX6_count_116 : decode cX6_count 116 = .ok (.aload_n 0, 1) := by decide +kernel
theorem dX6_count_117 : decode cX6_count 117 = .ok (.getfield 33, 3) := by decide +kernel
theorem dX6_count_120 : decode cX6_count 120 = .ok (.invokevirtual 120, 3) := by decide +kernel
theorem dX6_count_123 : decode cX6_count 123 = .ok (.ireturn, 1) := by decide +kernel
theorem dX6_count_124 : decode cX6_count 124 = .ok (.aload_n 0, 1) := by decide +kernel
theorem dX6_count_125 : decode cX6_count 125 = .ok (.getfield 40, 3) := by decide +kernel
theorem dX6_count_128 : decode cX6_count 128 = .ok (.invokevirtual 193, 3) := by decide +kernel
theorem dX6_count_131 : decode cX6_count 131 = .ok (.ireturn, 1) := by decide +kernel
theorem dX6_count_132 : decode cX6_count 132 = .ok (.bipush (-2), 2) := by decide +kernel
theorem dX6_count_134 : decode cX6_count 134 = .ok (.ireturn, 1) := by decide +kernel
theorem dX6_isPicture_0 : decode cX6_isPicture 0 = .ok (.iload_n 0, 1) := by decide +kernel
theorem dX6_isPicture_1 : decode cX6_isPicture 1 = .ok (.ifCond .lt 12, 3) := by decide +kernel
theorem dX6_isPicture_4 : decode cX6_isPicture 4 = .ok (.iload_n 0, 1) := by decide +kernel
theorem dX6_isPicture_5 : decode cX6_isPicture 5 = .ok (.iconst 3, 1) := by decide +kernel
theorem dX6_isPicture_6 : decode cX6_isPicture 6 = .ok (.if_icmp .ge 7, 3) := by decide +kernel
theorem dX6_isPicture_9 : decode cX6_isPicture 9 = .ok (.iconst 1, 1) := by decide +kernel
theorem dX6_isPicture_10 : decode cX6_isPicture 10 = .ok (.goto 4, 3) := by decide +kernel
theorem dX6_isPicture_13 : decode cX6_isPicture 13 = .ok (.iconst 0, 1) := by decide +kernel
theorem dX6_isPicture_14 : decode cX6_isPicture 14 = .ok (.ireturn, 1) := by decide +kernel
theorem dX6_isCell_0 : decode cX6_isCell 0 = .ok (.iload_n 0, 1) := by decide +kernel
theorem dX6_isCell_1 : decode cX6_isCell 1 = .ok (.ifCond .lt 13, 3) := by decide +kernel
theorem dX6_isCell_4 : decode cX6_isCell 4 = .ok (.iload_n 0, 1) := by decide +kernel
theorem dX6_isCell_5 : decode cX6_isCell 5 = .ok (.bipush 64, 2) := by decide +kernel
theorem dX6_isCell_7 : decode cX6_isCell 7 = .ok (.if_icmp .ge 7, 3) := by decide +kernel
theorem dX6_isCell_10 : decode cX6_isCell 10 = .ok (.iconst 1, 1) := by decide +kernel
theorem dX6_isCell_11 : decode cX6_isCell 11 = .ok (.goto 4, 3) := by decide +kernel
theorem dX6_isCell_14 : decode cX6_isCell 14 = .ok (.iconst 0, 1) := by decide +kernel
theorem dX6_isCell_15 : decode cX6_isCell 15 = .ok (.ireturn, 1) := by decide +kernel
theorem dX6_isQuarter_0 : decode cX6_isQuarter 0 = .ok (.iload_n 0, 1) := by decide +kernel
theorem dX6_isQuarter_1 : decode cX6_isQuarter 1 = .ok (.ifCond .lt 12, 3) := by decide +kernel
theorem dX6_isQuarter_4 : decode cX6_isQuarter 4 = .ok (.iload_n 0, 1) := by decide +kernel
theorem dX6_isQuarter_5 : decode cX6_isQuarter 5 = .ok (.iconst 4, 1) := by decide +kernel
theorem dX6_isQuarter_6 : decode cX6_isQuarter 6 = .ok (.if_icmp .ge 7, 3) := by decide +kernel
theorem dX6_isQuarter_9 : decode cX6_isQuarter 9 = .ok (.iconst 1, 1) := by decide +kernel
theorem dX6_isQuarter_10 : decode cX6_isQuarter 10 = .ok (.goto 4, 3) := by decide +kernel
theorem dX6_isQuarter_13 : decode cX6_isQuarter 13 = .ok (.iconst 0, 1) := by decide +kernel
theorem dX6_isQuarter_14 : decode cX6_isQuarter 14 = .ok (.ireturn, 1) := by decide +kernel
theorem dX6_change_0 : decode cX6_change 0 = .ok (.aload_n 0, 1) := by decide +kernel
theorem dX6_change_1 : decode cX6_change 1 = .ok (.getfield 33, 3) := by decide +kernel
theorem dX6_change_4 : decode cX6_change 4 = .ok (.iload_n 1, 1) := by decide +kernel
theorem dX6_change_5 : decode cX6_change 5 = .ok (.aload_n 0, 1) := by decide +kernel
theorem dX6_change_6 : decode cX6_change 6 = .ok (.getfield 10, 3) := by decide +kernel
theorem dX6_change_9 : decode cX6_change 9 = .ok (.iload_n 1, 1) := by decide +kernel
theorem dX6_change_10 : decode cX6_change 10 = .ok (.invokevirtual 94, 3) := by decide +kernel
theorem dX6_change_13 : decode cX6_change 13 = .ok (.invokevirtual 237, 3) := by decide +kernel
theorem dX6_change_16 : decode cX6_change 16 = .ok (.aload_n 0, 1) := by decide +kernel
theorem dX6_change_17 : decode cX6_change 17 = .ok (.getfield 10, 3) := by decide +kernel
theorem dX6_change_20 : decode cX6_change 20 = .ok (.iload_n 1, 1) := by decide +kernel
theorem dX6_change_21 : decode cX6_change 21 = .ok (.lload_n 2, 1) := by decide +kernel
theorem dX6_change_22 : decode cX6_change 22 = .ok (.invokevirtual 127, 3) := by decide +kernel
theorem dX6_change_25 : decode cX6_change 25 = .ok (.lload_n 2, 1) := by decide +kernel
theorem dX6_change_26 : decode cX6_change 26 = .ok (.lreturn, 1) := by decide +kernel
theorem dX6_combine_0 : decode cX6_combine 0 = .ok (.iload_n 2, 1) := by decide +kernel
theorem dX6_combine_1 : decode cX6_combine 1 = .ok (.invokestatic 73, 3) := by decide +kernel
theorem dX6_combine_4 : decode cX6_combine 4 = .ok (.ifCond .eq 10, 3) := by decide +kernel
theorem dX6_combine_7 : decode cX6_combine 7 = .ok (.iload_n 3, 1) := by decide +kernel
theorem dX6_combine_8 : decode cX6_combine 8 = .ok (.invokestatic 73, 3) := by decide +kernel
theorem dX6_combine_11 : decode cX6_combine 11 = .ok (.ifCond .ne 5, 3) := by decide +kernel
theorem dX6_combine_14 : decode cX6_combine 14 = .ok (.iconst (-1), 1) := by decide +kernel
theorem dX6_combine_15 : decode cX6_combine 15 = .ok (.ireturn, 1) := by decide +kernel
theorem dX6_combine_16 : decode cX6_combine 16 = .ok (.iload_n 2, 1) := by decide +kernel
theorem dX6_combine_17 : decode cX6_combine 17 = .ok (.iload_n 3, 1) := by decide +kernel
theorem dX6_combine_18 : decode cX6_combine 18 = .ok (.if_icmp .ne 6, 3) := by decide +kernel
theorem dX6_combine_21 : decode cX6_combine 21 = .ok (.bipush (-2), 2) := by decide +kernel
theorem dX6_combine_23 : decode cX6_combine 23 = .ok (.ireturn, 1) := by decide +kernel
theorem dX6_combine_24 : decode cX6_combine 24 = .ok (.aload_n 0, 1) := by decide +kernel
theorem dX6_combine_25 : decode cX6_combine 25 = .ok (.iload_n 2, 1) := by decide +kernel
theorem dX6_combine_26 : decode cX6_combine 26 = .ok (.iload_n 1, 1) := by decide +kernel
theorem dX6_combine_27 : decode cX6_combine 27 = .ok (.aload_n 0, 1) := by decide +kernel
theorem dX6_combine_28 : decode cX6_combine 28 = .ok (.getfield 10, 3) := by decide +kernel
theorem dX6_combine_31 : decode cX6_combine 31 = .ok (.iload_n 2, 1) := by decide +kernel
theorem dX6_combine_32 : decode cX6_combine 32 = .ok (.invokevirtual 94, 3) := by decide +kernel
theorem dX6_combine_35 : decode cX6_combine 35 = .ok (.aload_n 0, 1) := by decide +kernel
theorem dX6_combine_36 : decode cX6_combine 36 = .ok (.getfield 10, 3) := by decide +kernel
theorem dX6_combine_39 : decode cX6_combine 39 = .ok (.iload_n 3, 1) := by decide +kernel
theorem dX6_combine_40 : decode cX6_combine 40 = .ok (.invokevirtual 94, 3) := by decide +kernel
theorem dX6_combine_43 : decode cX6_combine 43 = .ok (.invokestatic 239, 3) := by decide +kernel
theorem dX6_combine_46 : decode cX6_combine 46 = .ok (.invokevirtual 80, 3) := by decide +kernel
theorem dX6_combine_49 : decode cX6_combine 49 = .ok (.invokestatic 84, 3) := by decide +kernel
theorem dX6_combine_52 : decode cX6_combine 52 = .ok (.ireturn, 1) := by decide +kernel
theorem dX6_readsDoings_0 : decode cX6_readsDoings 0 = .ok (.lload_n 2, 1) := by decide +kernel
theorem dX6_readsDoings_1 : decode cX6_readsDoings 1 = .ok (.lstore 4, 2) := by decide +kernel
theorem dX6_readsDoings_3 : decode cX6_readsDoings 3 = .ok (.iload_n 1, 1) := by decide +kernel
theorem dX6_readsDoings_4 : decode cX6_readsDoings 4 = .ok (.iconst 4, 1) := by decide +kernel
theorem dX6_readsDoings_5 : decode cX6_readsDoings 5 = .ok (.invokestatic 243, 3) := by decide +kernel
theorem dX6_readsDoings_8 : decode cX6_readsDoings 8 = .ok (.iconst 1, 1) := by decide +kernel
theorem dX6_readsDoings_9 : decode cX6_readsDoings 9 = .ok (.isub, 1) := by decide +kernel
theorem dX6_readsDoings_10 : decode cX6_readsDoings 10 = .ok (.istore 6, 2) := by decide +kernel
theorem dX6_readsDoings_12 : decode cX6_readsDoings 12 = .ok (.iload 6, 2) := by decide +kernel
theorem dX6_readsDoings_14 : decode cX6_readsDoings 14 = .ok (.ifCond .lt 31, 3) := by decide +kernel
theorem dX6_readsDoings_17 : decode cX6_readsDoings 17 = .ok (.aload_n 0, 1) := by decide +kernel
theorem dX6_readsDoings_18 : decode cX6_readsDoings 18 = .ok (.getfield 51, 3) := by decide +kernel
theorem dX6_readsDoings_21 : decode cX6_readsDoings 21 = .ok (.iload 6, 2) := by decide +kernel
theorem dX6_readsDoings_23 : decode cX6_readsDoings 23 = .ok (.lload 4, 2) := by decide +kernel
theorem dX6_readsDoings_25 : decode cX6_readsDoings 25 = .ok (.ldc2_w 248, 3) := by decide +kernel
theorem dX6_readsDoings_28 : decode cX6_readsDoings 28 = .ok (.lrem, 1) := by decide +kernel
theorem dX6_readsDoings_29 : decode cX6_readsDoings 29 = .ok (.l2i, 1) := by decide +kernel
theorem dX6_readsDoings_30 : decode cX6_readsDoings 30 = .ok (.iastore, 1) := by decide +kernel
theorem dX6_readsDoings_31 : decode cX6_readsDoings 31 = .ok (.lload 4, 2) := by decide +kernel
theorem dX6_readsDoings_33 : decode cX6_readsDoings 33 = .ok (.ldc2_w 248, 3) := by decide +kernel
theorem dX6_readsDoings_36 : decode cX6_readsDoings 36 = .ok (.ldiv, 1) := by decide +kernel
theorem dX6_readsDoings_37 : decode cX6_readsDoings 37 = .ok (.lstore 4, 2) := by decide +kernel
theorem dX6_readsDoings_39 : decode cX6_readsDoings 39 = .ok (.iinc 6 (-1), 3) := by decide +kernel
theorem dX6_readsDoings_42 : decode cX6_readsDoings 42 = .ok (.goto (-30), 3) := by decide +kernel
theorem dX6_readsDoings_45 : decode cX6_readsDoings 45 = .ok (.lload 4, 2) := by decide +kernel
theorem dX6_readsDoings_47 : decode cX6_readsDoings 47 = .ok (.lconst 0, 1) := by decide +kernel
theorem dX6_readsDoings_48 : decode cX6_readsDoings 48 = .ok (.lcmp, 1) := by decide +kernel
theorem dX6_readsDoings_49 : decode cX6_readsDoings 49 = .ok (.ifCond .ne 7, 3) := by decide +kernel
theorem dX6_readsDoings_52 : decode cX6_readsDoings 52 = .ok (.iconst 1, 1) := by decide +kernel
theorem dX6_readsDoings_53 : decode cX6_readsDoings 53 = .ok (.goto 4, 3) := by decide +kernel
theorem dX6_readsDoings_56 : decode cX6_readsDoings 56 = .ok (.iconst 0, 1) := by decide +kernel
theorem dX6_readsDoings_57 : decode cX6_readsDoings 57 = .ok (.ireturn, 1) := by decide +kernel
theorem dX6_sixthsOfCell_0 : decode cX6_sixthsOfCell 0 = .ok (.iload_n 0, 1) := by decide +kernel
theorem dX6_sixthsOfCell_1 : decode cX6_sixthsOfCell 1 = .ok (.iconst 1, 1) := by decide +kernel
theorem dX6_sixthsOfCell_2 : decode cX6_sixthsOfCell 2 = .ok (.if_icmp .ne 6, 3) := by decide +kernel
theorem dX6_sixthsOfCell_5 : decode cX6_sixthsOfCell 5 = .ok (.bipush 6, 2) := by decide +kernel
theorem dX6_sixthsOfCell_7 : decode cX6_sixthsOfCell 7 = .ok (.ireturn, 1) := by decide +kernel
theorem dX6_sixthsOfCell_8 : decode cX6_sixthsOfCell 8 = .ok (.iload_n 0, 1) := by decide +kernel
theorem dX6_sixthsOfCell_9 : decode cX6_sixthsOfCell 9 = .ok (.iconst 2, 1) := by decide +kernel
theorem dX6_sixthsOfCell_10 : decode cX6_sixthsOfCell 10 = .ok (.if_icmp .ne 7, 3) := by decide +kernel
theorem dX6_sixthsOfCell_13 : decode cX6_sixthsOfCell 13 = .ok (.iconst 3, 1) := by decide +kernel
theorem dX6_sixthsOfCell_14 : decode cX6_sixthsOfCell 14 = .ok (.goto 4, 3) := by decide +kernel
theorem dX6_sixthsOfCell_17 : decode cX6_sixthsOfCell 17 = .ok (.iconst 2, 1) := by decide +kernel
theorem dX6_sixthsOfCell_18 : decode cX6_sixthsOfCell 18 = .ok (.ireturn, 1) := by decide +kernel
theorem dX6_isRest_0 : decode cX6_isRest 0 = .ok (.aload_n 0, 1) := by decide +kernel
theorem dX6_isRest_1 : decode cX6_isRest 1 = .ok (.getfield 10, 3) := by decide +kernel
theorem dX6_isRest_4 : decode cX6_isRest 4 = .ok (.iconst 3, 1) := by decide +kernel
theorem dX6_isRest_5 : decode cX6_isRest 5 = .ok (.iload_n 1, 1) := by decide +kernel
theorem dX6_isRest_6 : decode cX6_isRest 6 = .ok (.isub, 1) := by decide +kernel
theorem dX6_isRest_7 : decode cX6_isRest 7 = .ok (.iload_n 2, 1) := by decide +kernel
theorem dX6_isRest_8 : decode cX6_isRest 8 = .ok (.isub, 1) := by decide +kernel
theorem dX6_isRest_9 : decode cX6_isRest 9 = .ok (.invokevirtual 94, 3) := by decide +kernel
theorem dX6_isRest_12 : decode cX6_isRest 12 = .ok (.lstore 5, 2) := by decide +kernel
theorem dX6_isRest_14 : decode cX6_isRest 14 = .ok (.aload_n 0, 1) := by decide +kernel
theorem dX6_isRest_15 : decode cX6_isRest 15 = .ok (.getfield 10, 3) := by decide +kernel
theorem dX6_isRest_18 : decode cX6_isRest 18 = .ok (.iload_n 1, 1) := by decide +kernel
theorem dX6_isRest_19 : decode cX6_isRest 19 = .ok (.invokevirtual 94, 3) := by decide +kernel
theorem dX6_isRest_22 : decode cX6_isRest 22 = .ok (.iload_n 3, 1) := by decide +kernel
theorem dX6_isRest_23 : decode cX6_isRest 23 = .ok (.invokestatic 250, 3) := by decide +kernel
theorem dX6_isRest_26 : decode cX6_isRest 26 = .ok (.lstore 7, 2) := by decide +kernel
theorem dX6_isRest_28 : decode cX6_isRest 28 = .ok (.aload_n 0, 1) := by decide +kernel
theorem dX6_isRest_29 : decode cX6_isRest 29 = .ok (.getfield 10, 3) := by decide +kernel
theorem dX6_isRest_32 : decode cX6_isRest 32 = .ok (.iload_n 1, 1) := by decide +kernel
theorem dX6_isRest_33 : decode cX6_isRest 33 = .ok (.invokevirtual 94, 3) := by decide +kernel
theorem dX6_isRest_36 : decode cX6_isRest 36 = .ok (.iconst 1, 1) := by decide +kernel
theorem dX6_isRest_37 : decode cX6_isRest 37 = .ok (.iload_n 3, 1) := by decide +kernel
theorem dX6_isRest_38 : decode cX6_isRest 38 = .ok (.isub, 1) := by decide +kernel
theorem dX6_isRest_39 : decode cX6_isRest 39 = .ok (.invokestatic 250, 3) := by decide +kernel
theorem dX6_isRest_42 : decode cX6_isRest 42 = .ok (.lstore 9, 2) := by decide +kernel
theorem dX6_isRest_44 : decode cX6_isRest 44 = .ok (.aload_n 0, 1) := by decide +kernel
theorem dX6_isRest_45 : decode cX6_isRest 45 = .ok (.getfield 10, 3) := by decide +kernel
theorem dX6_isRest_48 : decode cX6_isRest 48 = .ok (.iload_n 2, 1) := by decide +kernel
theorem dX6_isRest_49 : decode cX6_isRest 49 = .ok (.invokevirtual 94, 3) := by decide +kernel
theorem dX6_isRest_52 : decode cX6_isRest 52 = .ok (.iload 4, 2) := by decide +kernel
theorem dX6_isRest_54 : decode cX6_isRest 54 = .ok (.invokestatic 250, 3) := by decide +kernel
theorem dX6_isRest_57 : decode cX6_isRest 57 = .ok (.lstore 11, 2) := by decide +kernel
theorem dX6_isRest_59 : decode cX6_isRest 59 = .ok (.aload_n 0, 1) := by decide +kernel
theorem dX6_isRest_60 : decode cX6_isRest 60 = .ok (.getfield 10, 3) := by decide +kernel
theorem dX6_isRest_63 : decode cX6_isRest 63 = .ok (.iload_n 2, 1) := by decide +kernel
theorem dX6_isRest_64 : decode cX6_isRest 64 = .ok (.invokevirtual 94, 3) := by decide +kernel
theorem dX6_isRest_67 : decode cX6_isRest 67 = .ok (.iconst 1, 1) := by decide +kernel
theorem dX6_isRest_68 : decode cX6_isRest 68 = .ok (.iload 4, 2) := by decide +kernel
theorem dX6_isRest_70 : decode cX6_isRest 70 = .ok (.isub, 1) := by decide +kernel
theorem dX6_isRest_71 : decode cX6_isRest 71 = .ok (.invokestatic 250, 3) := by decide +kernel
theorem dX6_isRest_74 : decode cX6_isRest 74 = .ok (.lstore 13, 2) := by decide +kernel
theorem dX6_isRest_76 : decode cX6_isRest 76 = .ok (.lload 7, 2) := by decide +kernel
theorem dX6_isRest_78 : decode cX6_isRest 78 = .ok (.lload 11, 2) := by decide +kernel
theorem dX6_isRest_80 : decode cX6_isRest 80 = .ok (.lload 5, 2) := by decide +kernel
theorem dX6_isRest_82 : decode cX6_isRest 82 = .ok (.invokestatic 253, 3) := by decide +kernel
theorem dX6_isRest_85 : decode cX6_isRest 85 = .ok (.lload 9, 2) := by decide +kernel
theorem dX6_isRest_87 : decode cX6_isRest 87 = .ok (.lload 11, 2) := by decide +kernel
theorem dX6_isRest_89 : decode cX6_isRest 89 = .ok (.lload 5, 2) := by decide +kernel
theorem dX6_isRest_91 : decode cX6_isRest 91 = .ok (.invokestatic 253, 3) := by decide +kernel
theorem dX6_isRest_94 : decode cX6_isRest 94 = .ok (.if_icmp .lt 28, 3) := by decide +kernel
theorem dX6_isRest_97 : decode cX6_isRest 97 = .ok (.lload 11, 2) := by decide +kernel
theorem dX6_isRest_99 : decode cX6_isRest 99 = .ok (.lload 7, 2) := by decide +kernel
theorem dX6_isRest_101 : decode cX6_isRest 101 = .ok (.lload 5, 2) := by decide +kernel
theorem dX6_isRest_103 : decode cX6_isRest 103 = .ok (.invokestatic 253, 3) := by decide +kernel
theorem dX6_isRest_106 : decode cX6_isRest 106 = .ok (.lload 13, 2) := by decide +kernel
theorem dX6_isRest_108 : decode cX6_isRest 108 = .ok (.lload 7, 2) := by decide +kernel
theorem dX6_isRest_110 : decode cX6_isRest 110 = .ok (.lload 5, 2) := by decide +kernel
theorem dX6_isRest_112 : decode cX6_isRest 112 = .ok (.invokestatic 253, 3) := by decide +kernel
theorem dX6_isRest_115 : decode cX6_isRest 115 = .ok (.if_icmp .lt 7, 3) := by decide +kernel
theorem dX6_isRest_118 : decode cX6_isRest 118 = .ok (.iconst 1, 1) := by decide +kernel
theorem dX6_isRest_119 : decode cX6_isRest 119 = .ok (.goto 4, 3) := by decide +kernel
theorem dX6_isRest_122 : decode cX6_isRest 122 = .ok (.iconst 0, 1) := by decide +kernel
theorem dX6_isRest_123 : decode cX6_isRest 123 = .ok (.ireturn, 1) := by decide +kernel
theorem dX6_gain_0 : decode cX6_gain 0 = .ok (.lload_n 0, 1) := by decide +kernel
theorem dX6_gain_1 : decode cX6_gain 1 = .ok (.lload 4, 2) := by decide +kernel
theorem dX6_gain_3 : decode cX6_gain 3 = .ok (.land, 1) := by decide +kernel
theorem dX6_gain_4 : decode cX6_gain 4 = .ok (.invokestatic 84, 3) := by decide +kernel
theorem dX6_gain_7 : decode cX6_gain 7 = .ok (.lload_n 0, 1) := by decide +kernel
theorem dX6_gain_8 : decode cX6_gain 8 = .ok (.lload_n 2, 1) := by decide +kernel
theorem dX6_gain_9 : decode cX6_gain 9 = .ok (.land, 1) := by decide +kernel
theorem dX6_gain_10 : decode cX6_gain 10 = .ok (.invokestatic 84, 3) := by decide +kernel
theorem dX6_gain_13 : decode cX6_gain 13 = .ok (.isub, 1) := by decide +kernel
theorem dX6_gain_14 : decode cX6_gain 14 = .ok (.ireturn, 1) := by decide +kernel
theorem dX6_areaLeft_0 : decode cX6_areaLeft 0 = .ok (.iconst 0, 1) := by decide +kernel
theorem dX6_areaLeft_1 : decode cX6_areaLeft 1 = .ok (.istore_n 3, 1) := by decide +kernel
theorem dX6_areaLeft_2 : decode cX6_areaLeft 2 = .ok (.iconst 0, 1) := by decide +kernel
theorem dX6_areaLeft_3 : decode cX6_areaLeft 3 = .ok (.istore 4, 2) := by decide +kernel
theorem dX6_areaLeft_5 : decode cX6_areaLeft 5 = .ok (.iload 4, 2) := by decide +kernel
theorem dX6_areaLeft_7 : decode cX6_areaLeft 7 = .ok (.iconst 4, 1) := by decide +kernel
theorem dX6_areaLeft_8 : decode cX6_areaLeft 8 = .ok (.if_icmp .ge 32, 3) := by decide +kernel
theorem dX6_areaLeft_11 : decode cX6_areaLeft 11 = .ok (.iload_n 2, 1) := by decide +kernel
theorem dX6_areaLeft_12 : decode cX6_areaLeft 12 = .ok (.iload 4, 2) := by decide +kernel
theorem dX6_areaLeft_14 : decode cX6_areaLeft 14 = .ok (.ishr, 1) := by decide +kernel
theorem dX6_areaLeft_15 : decode cX6_areaLeft 15 = .ok (.iconst 1, 1) := by decide +kernel
theorem dX6_areaLeft_16 : decode cX6_areaLeft 16 = .ok (.iand, 1) := by decide +kernel
theorem dX6_areaLeft_17 : decode cX6_areaLeft 17 = .ok (.iconst 1, 1) := by decide +kernel
theorem dX6_areaLeft_18 : decode cX6_areaLeft 18 = .ok (.if_icmp .ne 16, 3) := by decide +kernel
theorem dX6_areaLeft_21 : decode cX6_areaLeft 21 = .ok (.iload_n 3, 1) := by decide +kernel
theorem dX6_areaLeft_22 : decode cX6_areaLeft 22 = .ok (.lload_n 0, 1) := by decide +kernel
theorem dX6_areaLeft_23 : decode cX6_areaLeft 23 = .ok (.iload 4, 2) := by decide +kernel
theorem dX6_areaLeft_25 : decode cX6_areaLeft 25 = .ok (.invokestatic 257, 3) := by decide +kernel
theorem dX6_areaLeft_28 : decode cX6_areaLeft 28 = .ok (.land, 1) := by decide +kernel
theorem dX6_areaLeft_29 : decode cX6_areaLeft 29 = .ok (.invokestatic 84, 3) := by decide +kernel
theorem dX6_areaLeft_32 : decode cX6_areaLeft 32 = .ok (.iadd, 1) := by decide +kernel
theorem dX6_areaLeft_33 : decode cX6_areaLeft 33 = .ok (.istore_n 3, 1) := by decide +kernel
theorem dX6_areaLeft_34 : decode cX6_areaLeft 34 = .ok (.iinc 4 1, 3) := by decide +kernel
theorem dX6_areaLeft_37 : decode cX6_areaLeft 37 = .ok (.goto (-32), 3) := by decide +kernel
theorem dX6_areaLeft_40 : decode cX6_areaLeft 40 = .ok (.iload_n 3, 1) := by decide +kernel
theorem dX6_areaLeft_41 : decode cX6_areaLeft 41 = .ok (.ireturn, 1) := by decide +kernel
theorem dX6_chanceOf_0 : decode cX6_chanceOf 0 = .ok (.iconst 1, 1) := by decide +kernel
theorem dX6_chanceOf_1 : decode cX6_chanceOf 1 = .ok (.istore_n 2, 1) := by decide +kernel
theorem dX6_chanceOf_2 : decode cX6_chanceOf 2 = .ok (.iconst 0, 1) := by decide +kernel
theorem dX6_chanceOf_3 : decode cX6_chanceOf 3 = .ok (.istore_n 3, 1) := by decide +kernel
theorem dX6_chanceOf_4 : decode cX6_chanceOf 4 = .ok (.iload_n 3, 1) := by decide +kernel
theorem dX6_chanceOf_5 : decode cX6_chanceOf 5 = .ok (.iconst 4, 1) := by decide +kernel
theorem dX6_chanceOf_6 : decode cX6_chanceOf 6 = .ok (.if_icmp .ge 29, 3) := by decide +kernel
theorem dX6_chanceOf_9 : decode cX6_chanceOf 9 = .ok (.iload_n 2, 1) := by decide +kernel
theorem dX6_chanceOf_10 : decode cX6_chanceOf 10 = .ok (.iload_n 0, 1) := by decide +kernel
theorem dX6_chanceOf_11 : decode cX6_chanceOf 11 = .ok (.iload_n 3, 1) := by decide +kernel
theorem dX6_chanceOf_12 : decode cX6_chanceOf 12 = .ok (.ishr, 1) := by decide +kernel
theorem dX6_chanceOf_13 : decode cX6_chanceOf 13 = .ok (.iconst 1, 1) := by decide +kernel
theorem dX6_chanceOf_14 : decode cX6_chanceOf 14 = .ok (.iand, 1) := by decide +kernel
theorem dX6_chanceOf_15 : decode cX6_chanceOf 15 = .ok (.iconst 1, 1) := by decide +kernel
theorem dX6_chanceOf_16 : decode cX6_chanceOf 16 = .ok (.if_icmp .ne 10, 3) := by decide +kernel
theorem dX6_chanceOf_19 : decode cX6_chanceOf 19 = .ok (.bipush 10, 2) := by decide +kernel
theorem dX6_chanceOf_21 : decode cX6_chanceOf 21 = .ok (.iload_n 1, 1) := by decide +kernel
theorem dX6_chanceOf_22 : decode cX6_chanceOf 22 = .ok (.isub, 1) := by decide +kernel
theorem dX6_chanceOf_23 : decode cX6_chanceOf 23 = .ok (.goto 4, 3) := by decide +kernel
theorem dX6_chanceOf_26 : decode cX6_chanceOf 26 = .ok (.iload_n 1, 1) := by decide +kernel
theorem dX6_chanceOf_27 : decode cX6_chanceOf 27 = .ok (.imul, 1) := by decide +kernel
theorem dX6_chanceOf_28 : decode cX6_chanceOf 28 = .ok (.istore_n 2, 1) := by decide +kernel
theorem dX6_chanceOf_29 : decode cX6_chanceOf 29 = .ok (.iinc 3 1, 3) := by decide +kernel
theorem dX6_chanceOf_32 : decode cX6_chanceOf 32 = .ok (.goto (-28), 3) := by decide +kernel
theorem dX6_chanceOf_35 : decode cX6_chanceOf 35 = .ok (.iload_n 2, 1) := by decide +kernel
theorem dX6_chanceOf_36 : decode cX6_chanceOf 36 = .ok (.ireturn, 1) := by decide +kernel
theorem dX6_told_0 : decode cX6_told 0 = .ok (.iload_n 0, 1) := by decide +kernel
theorem dX6_told_1 : decode cX6_told 1 = .ok (.iload_n 1, 1) := by decide +kernel
theorem dX6_told_2 : decode cX6_told 2 = .ok (.invokestatic 260, 3) := by decide +kernel
theorem dX6_told_5 : decode cX6_told 5 = .ok (.istore_n 3, 1) := by decide +kernel
theorem dX6_told_6 : decode cX6_told 6 = .ok (.iload_n 2, 1) := by decide +kernel
theorem dX6_told_7 : decode cX6_told 7 = .ok (.ifCond .eq 7, 3) := by decide +kernel
theorem dX6_told_10 : decode cX6_told 10 = .ok (.iload_n 0, 1) := by decide +kernel
theorem dX6_told_11 : decode cX6_told 11 = .ok (.goto 4, 3) := by decide +kernel
theorem dX6_told_14 : decode cX6_told 14 = .ok (.iload_n 1, 1) := by decide +kernel
theorem dX6_told_15 : decode cX6_told 15 = .ok (.istore 4, 2) := by decide +kernel
theorem dX6_told_17 : decode cX6_told 17 = .ok (.iload_n 3, 1) := by decide +kernel
theorem dX6_told_18 : decode cX6_told 18 = .ok (.iconst 1, 1) := by decide +kernel
theorem dX6_told_19 : decode cX6_told 19 = .ok (.if_icmp .le 10, 3) := by decide +kernel
theorem dX6_told_22 : decode cX6_told 22 = .ok (.iload 4, 2) := by decide +kernel
theorem dX6_told_24 : decode cX6_told 24 = .ok (.iload_n 3, 1) := by decide +kernel
theorem dX6_told_25 : decode cX6_told 25 = .ok (.idiv, 1) := by decide +kernel
theorem dX6_told_26 : decode cX6_told 26 = .ok (.goto 5, 3) := by decide +kernel
theorem dX6_told_29 : decode cX6_told 29 = .ok (.iload 4, 2) := by decide +kernel
theorem dX6_told_31 : decode cX6_told 31 = .ok (.ireturn, 1) := by decide +kernel
theorem dX6_commonDivisor_0 : decode cX6_commonDivisor 0 = .ok (.iload_n 0, 1) := by decide +kernel
theorem dX6_commonDivisor_1 : decode cX6_commonDivisor 1 = .ok (.istore_n 2, 1) := by decide +kernel
theorem dX6_commonDivisor_2 : decode cX6_commonDivisor 2 = .ok (.iload_n 1, 1) := by decide +kernel
theorem dX6_commonDivisor_3 : decode cX6_commonDivisor 3 = .ok (.istore_n 3, 1) := by decide +kernel
theorem dX6_commonDivisor_4 : decode cX6_commonDivisor 4 = .ok (.iconst 0, 1) := by decide +kernel
theorem dX6_commonDivisor_5 : decode cX6_commonDivisor 5 = .ok (.istore 4, 2) := by decide +kernel
theorem dX6_commonDivisor_7 : decode cX6_commonDivisor 7 = .ok (.iload 4, 2) := by decide +kernel
theorem dX6_commonDivisor_9 : decode cX6_commonDivisor 9 = .ok (.bipush 64, 2) := by decide +kernel
theorem dX6_commonDivisor_11 : decode cX6_commonDivisor 11 = .ok (.if_icmp .ge 23, 3) := by decide +kernel
theorem dX6_commonDivisor_14 : decode cX6_commonDivisor 14 = .ok (.iload_n 3, 1) := by decide +kernel
theorem dX6_commonDivisor_15 : decode cX6_commonDivisor 15 = .ok (.ifCond .eq 19, 3) := by decide +kernel
theorem dX6_commonDivisor_18 : decode cX6_commonDivisor 18 = .ok (.iload_n 2, 1) := by decide +kernel
theorem dX6_commonDivisor_19 : decode cX6_commonDivisor 19 = .ok (.iload_n 3, 1) := by decide +kernel
theorem dX6_commonDivisor_20 : decode cX6_commonDivisor 20 = .ok (.irem, 1) := by decide +kernel
theorem dX6_commonDivisor_21 : decode cX6_commonDivisor 21 = .ok (.istore 5, 2) := by decide +kernel
theorem dX6_commonDivisor_23 : decode cX6_commonDivisor 23 = .ok (.iload_n 3, 1) := by decide +kernel
theorem dX6_commonDivisor_24 : decode cX6_commonDivisor 24 = .ok (.istore_n 2, 1) := by decide +kernel
theorem dX6_commonDivisor_25 : decode cX6_commonDivisor 25 = .ok (.iload 5, 2) := by decide +kernel
theorem dX6_commonDivisor_27 : decode cX6_commonDivisor 27 = .ok (.istore_n 3, 1) := by decide +kernel
theorem dX6_commonDivisor_28 : decode cX6_commonDivisor 28 = .ok (.iinc 4 1, 3) := by decide +kernel
theorem dX6_commonDivisor_31 : decode cX6_commonDivisor 31 = .ok (.goto (-24), 3) := by decide +kernel
theorem dX6_commonDivisor_34 : decode cX6_commonDivisor 34 = .ok (.iload_n 2, 1) := by decide +kernel
theorem dX6_commonDivisor_35 : decode cX6_commonDivisor 35 = .ok (.ireturn, 1) := by decide +kernel
theorem dX6_passYear_0 : decode cX6_passYear 0 = .ok (.iload_n 1, 1) := by decide +kernel
theorem dX6_passYear_1 : decode cX6_passYear 1 = .ok (.bipush 27, 2) := by decide +kernel
theorem dX6_passYear_3 : decode cX6_passYear 3 = .ok (.if_icmp .ge 29, 3) := by decide +kernel
theorem dX6_passYear_6 : decode cX6_passYear 6 = .ok (.aload_n 0, 1) := by decide +kernel
theorem dX6_passYear_7 : decode cX6_passYear 7 = .ok (.getfield 16, 3) := by decide +kernel
theorem dX6_passYear_10 : decode cX6_passYear 10 = .ok (.iconst 1, 1) := by decide +kernel
theorem dX6_passYear_11 : decode cX6_passYear 11 = .ok (.iload_n 1, 1) := by decide +kernel
theorem dX6_passYear_12 : decode cX6_passYear 12 = .ok (.bipush 9, 2) := by decide +kernel
theorem dX6_passYear_14 : decode cX6_passYear 14 = .ok (.idiv, 1) := by decide +kernel
theorem dX6_passYear_15 : decode cX6_passYear 15 = .ok (.iadd, 1) := by decide +kernel
theorem dX6_passYear_16 : decode cX6_passYear 16 = .ok (.iload_n 1, 1) := by decide +kernel
theorem dX6_passYear_17 : decode cX6_passYear 17 = .ok (.bipush 9, 2) := by decide +kernel
theorem dX6_passYear_19 : decode cX6_passYear 19 = .ok (.irem, 1) := by decide +kernel
theorem dX6_passYear_20 : decode cX6_passYear 20 = .ok (.iconst 3, 1) := by decide +kernel
theorem dX6_passYear_21 : decode cX6_passYear 21 = .ok (.idiv, 1) := by decide +kernel
theorem dX6_passYear_22 : decode cX6_passYear 22 = .ok (.iload_n 1, 1) := by decide +kernel
theorem dX6_passYear_23 : decode cX6_passYear 23 = .ok (.iconst 3, 1) := by decide +kernel
theorem dX6_passYear_24 : decode cX6_passYear 24 = .ok (.irem, 1) := by decide +kernel
theorem dX6_passYear_25 : decode cX6_passYear 25 = .ok (.invokevirtual 186, 3) := by decide +kernel
theorem dX6_passYear_28 : decode cX6_passYear 28 = .ok (.pop, 1) := by decide +kernel
theorem dX6_passYear_29 : decode cX6_passYear 29 = .ok (.goto 65, 3) := by decide +kernel
theorem dX6_passYear_32 : decode cX6_passYear 32 = .ok (.iload_n 1, 1) := by decide +kernel
theorem dX6_passYear_33 : decode cX6_passYear 33 = .ok (.bipush 30, 2) := by decide +kernel
theorem dX6_passYear_35 : decode cX6_passYear 35 = .ok (.if_icmp .ge 20, 3) := by decide +kernel
theorem dX6_passYear_38 : decode cX6_passYear 38 = .ok (.aload_n 0, 1) := by decide +kernel
theorem dX6_passYear_39 : decode cX6_passYear 39 = .ok (.getfield 16, 3) := by decide +kernel
theorem dX6_passYear_42 : decode cX6_passYear 42 = .ok (.iconst 4, 1) := by decide +kernel
theorem dX6_passYear_43 : decode cX6_passYear 43 = .ok (.iconst 0, 1) := by decide +kernel
theorem dX6_passYear_44 : decode cX6_passYear 44 = .ok (.iload_n 1, 1) := by decide +kernel
theorem dX6_passYear_45 : decode cX6_passYear 45 = .ok (.bipush 27, 2) := by decide +kernel
theorem dX6_passYear_47 : decode cX6_passYear 47 = .ok (.isub, 1) := by decide +kernel
theorem dX6_passYear_48 : decode cX6_passYear 48 = .ok (.invokevirtual 186, 3) := by decide +kernel
theorem dX6_passYear_51 : decode cX6_passYear 51 = .ok (.pop, 1) := by decide +kernel
theorem dX6_passYear_52 : decode cX6_passYear 52 = .ok (.goto 42, 3) := by decide +kernel
theorem dX6_passYear_55 : decode cX6_passYear 55 = .ok (.iload_n 1, 1) := by decide +kernel
theorem dX6_passYear_56 : decode cX6_passYear 56 = .ok (.bipush 33, 2) := by decide +kernel
theorem dX6_passYear_58 : decode cX6_passYear 58 = .ok (.if_icmp .ge 21, 3) := by decide +kernel
theorem dX6_passYear_61 : decode cX6_passYear 61 = .ok (.aload_n 0, 1) := by decide +kernel
theorem dX6_passYear_62 : decode cX6_passYear 62 = .ok (.getfield 16, 3) := by decide +kernel
theorem dX6_passYear_65 : decode cX6_passYear 65 = .ok (.bipush 6, 2) := by decide +kernel
theorem dX6_passYear_67 : decode cX6_passYear 67 = .ok (.iload_n 1, 1) := by decide +kernel
theorem dX6_passYear_68 : decode cX6_passYear 68 = .ok (.bipush 30, 2) := by decide +kernel
theorem dX6_passYear_70 : decode cX6_passYear 70 = .ok (.isub, 1) := by decide +kernel
theorem dX6_passYear_71 : decode cX6_passYear 71 = .ok (.iconst 0, 1) := by decide +kernel
theorem dX6_passYear_72 : decode cX6_passYear 72 = .ok (.invokevirtual 186, 3) := by decide +kernel
theorem dX6_passYear_75 : decode cX6_passYear 75 = .ok (.pop, 1) := by decide +kernel
theorem dX6_passYear_76 : decode cX6_passYear 76 = .ok (.goto 18, 3) := by decide +kernel
theorem dX6_passYear_79 : decode cX6_passYear 79 = .ok (.aload_n 0, 1) := by decide +kernel
theorem dX6_passYear_80 : decode cX6_passYear 80 = .ok (.getfield 16, 3) := by decide +kernel
theorem dX6_passYear_83 : decode cX6_passYear 83 = .ok (.bipush 7, 2) := by decide +kernel
theorem dX6_passYear_85 : decode cX6_passYear 85 = .ok (.iload_n 1, 1) := by decide +kernel
theorem dX6_passYear_86 : decode cX6_passYear 86 = .ok (.bipush 33, 2) := by decide +kernel
theorem dX6_passYear_88 : decode cX6_passYear 88 = .ok (.isub, 1) := by decide +kernel
theorem dX6_passYear_89 : decode cX6_passYear 89 = .ok (.iconst 0, 1) := by decide +kernel
theorem dX6_passYear_90 : decode cX6_passYear 90 = .ok (.invokevirtual 186, 3) := by decide +kernel
theorem dX6_passYear_93 : decode cX6_passYear 93 = .ok (.pop, 1) := by decide +kernel
theorem dX6_passYear_94 : decode cX6_passYear 94 = .ok (.return_, 1) := by decide +kernel
end
section
theorem dX7_init_0 : decode cX7_init 0 = .ok (.aload_n 0, 1) := by decide +kernel
theorem dX7_init_1 : decode cX7_init 1 = .ok (.invokespecial 1, 3) := by decide +kernel
theorem dX7_init_4 : decode cX7_init 4 = .ok (.aload_n 0, 1) := by decide +kernel
theorem dX7_init_5 : decode cX7_init 5 = .ok (.bipush 64, 2) := by decide +kernel
theorem dX7_init_7 : decode cX7_init 7 = .ok (.newarray .int, 2) := by decide +kernel
theorem dX7_init_9 : decode cX7_init 9 = .ok (.putfield 7, 3) := by decide +kernel
theorem dX7_init_12 : decode cX7_init 12 = .ok (.aload_n 0, 1) := by decide +kernel
theorem dX7_init_13 : decode cX7_init 13 = .ok (.bipush 6, 2) := by decide +kernel
theorem dX7_init_15 : decode cX7_init 15 = .ok (.newarray .long, 2) := by decide +kernel
theorem dX7_init_17 : decode cX7_init 17 = .ok (.putfield 13, 3) := by decide +kernel
theorem dX7_init_20 : decode cX7_init 20 = .ok (.aload_n 0, 1) := by decide +kernel
theorem dX7_init_21 : decode cX7_init 21 = .ok (.bipush 42, 2) := by decide +kernel
theorem dX7_init_23 : decode cX7_init 23 = .ok (.newarray .long, 2) := by decide +kernel
theorem dX7_init_25 : decode cX7_init 25 = .ok (.putfield 17, 3) := by decide +kernel
theorem dX7_init_28 : decode cX7_init 28 = .ok (.aload_n 0, 1) := by decide +kernel
theorem dX7_init_29 : decode cX7_init 29 = .ok (.bipush 85, 2) := by decide +kernel
theorem dX7_init_31 : decode cX7_init 31 = .ok (.newarray .int, 2) := by decide +kernel
theorem dX7_init_33 : decode cX7_init 33 = .ok (.putfield 20, 3) := by decide +kernel
theorem dX7_init_36 : decode cX7_init 36 = .ok (.aload_n 0, 1) := by decide +kernel
theorem dX7_init_37 : decode cX7_init 37 = .ok (.bipush 64, 2) := by decide +kernel
theorem dX7_init_39 : decode cX7_init 39 = .ok (.newarray .int, 2) := by decide +kernel
theorem dX7_init_41 : decode cX7_init 41 = .ok (.putfield 23, 3) := by decide +kernel
theorem dX7_init_44 : decode cX7_init 44 = .ok (.aload_n 0, 1) := by decide +kernel
theorem dX7_init_45 : decode cX7_init 45 = .ok (.bipush 64, 2) := by decide +kernel
theorem dX7_init_47 : decode cX7_init 47 = .ok (.newarray .int, 2) := by decide +kernel
theorem dX7_init_49 : decode cX7_init 49 = .ok (.putfield 26, 3) := by decide +kernel
theorem dX7_init_52 : decode cX7_init 52 = .ok (.aload_n 0, 1) := by decide +kernel
theorem dX7_init_53 : decode cX7_init 53 = .ok (.bipush 6, 2) := by decide +kernel
theorem dX7_init_55 : decode cX7_init 55 = .ok (.newarray .int, 2) := by decide +kernel
theorem dX7_init_57 : decode cX7_init 57 = .ok (.putfield 29, 3) := by decide +kernel
theorem dX7_init_60 : decode cX7_init 60 = .ok (.aload_n 0, 1) := by decide +kernel
theorem dX7_init_61 : decode cX7_init 61 = .ok (.bipush 6, 2) := by decide +kernel
theorem dX7_init_63 : decode cX7_init 63 = .ok (.newarray .int, 2) := by decide +kernel
theorem dX7_init_65 : decode cX7_init 65 = .ok (.putfield 32, 3) := by decide +kernel
theorem dX7_init_68 : decode cX7_init 68 = .ok (.aload_n 0, 1) := by decide +kernel
theorem dX7_init_69 : decode cX7_init 69 = .ok (.iconst 2, 1) := by decide +kernel
theorem dX7_init_70 : decode cX7_init 70 = .ok (.newarray .boolean, 2) := by decide +kernel
theorem dX7_init_72 : decode cX7_init 72 = .ok (.putfield 35, 3) := by decide +kernel
theorem dX7_init_75 : decode cX7_init 75 = .ok (.aload_n 0, 1) := by decide +kernel
theorem dX7_init_76 : decode cX7_init 76 = .ok (.bipush 6, 2) := by decide +kernel
theorem dX7_init_78 : decode cX7_init 78 = .ok (.newarray .long, 2) := by decide +kernel
theorem dX7_init_80 : decode cX7_init 80 = .ok (.putfield 39, 3) := by decide +kernel
theorem dX7_init_83 : decode cX7_init 83 = .ok (.return_, 1) := by decide +kernel
theorem dX7_in_0 : decode cX7_in 0 = .ok (.lload_n 0, 1) := by decide +kernel
theorem dX7_in_1 : decode cX7_in 1 = .ok (.lload_n 2, 1) := by decide +kernel
theorem dX7_in_2 : decode cX7_in 2 = .ok (.lcmp, 1) := by decide +kernel
theorem dX7_in_3 : decode cX7_in 3 = .ok (.ifCond .lt 14, 3) := by decide +kernel
theorem dX7_in_6 : decode cX7_in 6 = .ok (.lload_n 0, 1) := by decide +kernel
theorem dX7_in_7 : decode cX7_in 7 = .ok (.lload 4, 2) := by decide +kernel
theorem dX7_in_9 : decode cX7_in 9 = .ok (.lcmp, 1) := by decide +kernel
theorem dX7_in_10 : decode cX7_in 10 = .ok (.ifCond .gt 7, 3) := by decide +kernel
theorem dX7_in_13 : decode cX7_in 13 = .ok (.iconst 1, 1) := by decide +kernel
theorem dX7_in_14 : decode cX7_in 14 = .ok (.goto 4, 3) := by decide +kernel
theorem dX7_in_17 : decode cX7_in 17 = .ok (.iconst 0, 1) := by decide +kernel
theorem dX7_in_18 : decode cX7_in 18 = .ok (.ireturn, 1) := by decide +kernel
theorem dX7_ones_0 : decode cX7_ones 0 = .ok (.iconst 0, 1) := by decide +kernel
theorem dX7_ones_1 : decode cX7_ones 1 = .ok (.istore_n 2, 1) := by decide +kernel
theorem dX7_ones_2 : decode cX7_ones 2 = .ok (.iconst 0, 1) := by decide +kernel
theorem dX7_ones_3 : decode cX7_ones 3 = .ok (.istore_n 3, 1) := by decide +kernel
theorem dX7_ones_4 : decode cX7_ones 4 = .ok (.iload_n 3, 1) := by decide +kernel
theorem dX7_ones_5 : decode cX7_ones 5 = .ok (.bipush 64, 2) := by decide +kernel
theorem dX7_ones_7 : decode cX7_ones 7 = .ok (.if_icmp .ge 18, 3) := by decide +kernel
theorem dX7_ones_10 : decode cX7_ones 10 = .ok (.iload_n 2, 1) := by decide +kernel
theorem dX7_ones_11 : decode cX7_ones 11 = .ok (.lload_n 0, 1) := by decide +kernel
theorem dX7_ones_12 : decode cX7_ones 12 = .ok (.iload_n 3, 1) := by decide +kernel
theorem dX7_ones_13 : decode cX7_ones 13 = .ok (.lushr, 1) := by decide +kernel
theorem dX7_ones_14 : decode cX7_ones 14 = .ok (.lconst 1, 1) := by decide +kernel
theorem dX7_ones_15 : decode cX7_ones 15 = .ok (.land, 1) := by decide +kernel
theorem dX7_ones_16 : decode cX7_ones 16 = .ok (.l2i, 1) := by decide +kernel
theorem dX7_ones_17 : decode cX7_ones 17 = .ok (.iadd, 1) := by decide +kernel
theorem dX7_ones_18 : decode cX7_ones 18 = .ok (.istore_n 2, 1) := by decide +kernel
theorem dX7_ones_19 : decode cX7_ones 19 = .ok (.iinc 3 1, 3) := by decide +kernel
theorem dX7_ones_22 : decode cX7_ones 22 = .ok (.goto (-18), 3) := by decide +kernel
theorem dX7_ones_25 : decode cX7_ones 25 = .ok (.iload_n 2, 1) := by decide +kernel
theorem dX7_ones_26 : decode cX7_ones 26 = .ok (.ireturn, 1) := by decide +kernel
theorem dX7_is_0 : decode cX7_is 0 = .ok (.iload_n 2, 1) := by decide +kernel
theorem dX7_is_1 : decode cX7_is 1 = .ok (.i2l, 1) := by decide +kernel
theorem dX7_is_2 : decode cX7_is 2 = .ok (.lconst 0, 1) := by decide +kernel
theorem dX7_is_3 : decode cX7_is 3 = .ok (.ldc2_w 42, 3) := by decide +kernel
theorem dX7_is_6 : decode cX7_is 6 = .ok (.invokestatic 44, 3) := by decide +kernel
theorem dX7_is_9 : decode cX7_is 9 = .ok (.ifCond .eq 34, 3) := by decide +kernel
theorem dX7_is_12 : decode cX7_is 12 = .ok (.iload_n 3, 1) := by decide +kernel
theorem dX7_is_13 : decode cX7_is 13 = .ok (.i2l, 1) := by decide +kernel
theorem dX7_is_14 : decode cX7_is 14 = .ok (.lconst 0, 1) := by decide +kernel
theorem dX7_is_15 : decode cX7_is 15 = .ok (.ldc2_w 42, 3) := by decide +kernel
theorem dX7_is_18 : decode cX7_is 18 = .ok (.invokestatic 44, 3) := by decide +kernel
theorem dX7_is_21 : decode cX7_is 21 = .ok (.ifCond .eq 22, 3) := by decide +kernel
theorem dX7_is_24 : decode cX7_is 24 = .ok (.lload_n 0, 1) := by decide +kernel
theorem dX7_is_25 : decode cX7_is 25 = .ok (.bipush 8, 2) := by decide +kernel
theorem dX7_is_27 : decode cX7_is 27 = .ok (.iload_n 3, 1) := by decide +kernel
theorem dX7_is_28 : decode cX7_is 28 = .ok (.imul, 1) := by decide +kernel
theorem dX7_is_29 : decode cX7_is 29 = .ok (.iload_n 2, 1) := by decide +kernel
theorem dX7_is_30 : decode cX7_is 30 = .ok (.iadd, 1) := by decide +kernel
theorem dX7_is_31 : decode cX7_is 31 = .ok (.lushr, 1) := by decide +kernel
theorem dX7_is_32 : decode cX7_is 32 = .ok (.lconst 1, 1) := by decide +kernel
theorem dX7_is_33 : decode cX7_is 33 = .ok (.land, 1) := by decide +kernel
theorem dX7_is_34 : decode cX7_is 34 = .ok (.lconst 1, 1) := by decide +kernel
theorem dX7_is_35 : decode cX7_is 35 = .ok (.lcmp, 1) := by decide +kernel
theorem dX7_is_36 : decode cX7_is 36 = .ok (.ifCond .ne 7, 3) := by decide +kernel
theorem dX7_is_39 : decode cX7_is 39 = .ok (.iconst 1, 1) := by decide +kernel
theorem dX7_is_40 : decode cX7_is 40 = .ok (.goto 4, 3) := by decide +kernel
theorem dX7_is_43 : decode cX7_is 43 = .ok (.iconst 0, 1) := by decide +kernel
theorem dX7_is_44 : decode cX7_is 44 = .ok (.ireturn, 1) := by decide +kernel
theorem dX7_widthAt_0 : decode cX7_widthAt 0 = .ok (.bipush 8, 2) := by decide +kernel
theorem dX7_widthAt_2 : decode cX7_widthAt 2 = .ok (.iload_n 0, 1) := by decide +kernel
theorem dX7_widthAt_3 : decode cX7_widthAt 3 = .ok (.ishr, 1) := by decide +kernel
theorem dX7_widthAt_4 : decode cX7_widthAt 4 = .ok (.ireturn, 1) := by decide +kernel
theorem dX7_leftOf_0 : decode cX7_leftOf 0 = .ok (.iconst 0, 1) := by decide +kernel
theorem dX7_leftOf_1 : decode cX7_leftOf 1 = .ok (.istore_n 2, 1) := by decide +kernel
theorem dX7_leftOf_2 : decode cX7_leftOf 2 = .ok (.iload_n 1, 1) := by decide +kernel
theorem dX7_leftOf_3 : decode cX7_leftOf 3 = .ok (.istore_n 3, 1) := by decide +kernel
theorem dX7_leftOf_4 : decode cX7_leftOf 4 = .ok (.iload_n 0, 1) := by decide +kernel
theorem dX7_leftOf_5 : decode cX7_leftOf 5 = .ok (.istore 4, 2) := by decide +kernel
theorem dX7_leftOf_7 : decode cX7_leftOf 7 = .ok (.iload 4, 2) := by decide +kernel
theorem dX7_leftOf_9 : decode cX7_leftOf 9 = .ok (.ifCond .le 25, 3) := by decide +kernel
theorem dX7_leftOf_12 : decode cX7_leftOf 12 = .ok (.iload_n 2, 1) := by decide +kernel
theorem dX7_leftOf_13 : decode cX7_leftOf 13 = .ok (.iload_n 3, 1) := by decide +kernel
theorem dX7_leftOf_14 : decode cX7_leftOf 14 = .ok (.iconst 2, 1) := by decide +kernel
theorem dX7_leftOf_15 : decode cX7_leftOf 15 = .ok (.irem, 1) := by decide +kernel
theorem dX7_leftOf_16 : decode cX7_leftOf 16 = .ok (.iload 4, 2) := by decide +kernel
theorem dX7_leftOf_18 : decode cX7_leftOf 18 = .ok (.invokestatic 48, 3) := by decide +kernel
theorem dX7_leftOf_21 : decode cX7_leftOf 21 = .ok (.imul, 1) := by decide +kernel
theorem dX7_leftOf_22 : decode cX7_leftOf 22 = .ok (.iadd, 1) := by decide +kernel
theorem dX7_leftOf_23 : decode cX7_leftOf 23 = .ok (.istore_n 2, 1) := by decide +kernel
theorem dX7_leftOf_24 : decode cX7_leftOf 24 = .ok (.iload_n 3, 1) := by decide +kernel
theorem dX7_leftOf_25 : decode cX7_leftOf 25 = .ok (.iconst 4, 1) := by decide +kernel
theorem dX7_leftOf_26 : decode cX7_leftOf 26 = .ok (.idiv, 1) := by decide +kernel
theorem dX7_leftOf_27 : decode cX7_leftOf 27 = .ok (.istore_n 3, 1) := by decide +kernel
theorem dX7_leftOf_28 : decode cX7_leftOf 28 = .ok (.iinc 4 (-1), 3) := by decide +kernel
theorem dX7_leftOf_31 : decode cX7_leftOf 31 = .ok (.goto (-24), 3) := by decide +kernel
theorem dX7_leftOf_34 : decode cX7_leftOf 34 = .ok (.iload_n 2, 1) := by decide +kernel
theorem dX7_leftOf_35 : decode cX7_leftOf 35 = .ok (.ireturn, 1) := by decide +kernel
theorem dX7_lowOf_0 : decode cX7_lowOf 0 = .ok (.iconst 0, 1) := by decide +kernel
theorem dX7_lowOf_1 : decode cX7_lowOf 1 = .ok (.istore_n 2, 1) := by decide +kernel
theorem dX7_lowOf_2 : decode cX7_lowOf 2 = .ok (.iload_n 1, 1) := by decide +kernel
theorem dX7_lowOf_3 : decode cX7_lowOf 3 = .ok (.istore_n 3, 1) := by decide +kernel
theorem dX7_lowOf_4 : decode cX7_lowOf 4 = .ok (.iload_n 0, 1) := by decide +kernel
theorem dX7_lowOf_5 : decode cX7_lowOf 5 = .ok (.istore 4, 2) := by decide +kernel
theorem dX7_lowOf_7 : decode cX7_lowOf 7 = .ok (.iload 4, 2) := by decide +kernel
theorem dX7_lowOf_9 : decode cX7_lowOf 9 = .ok (.ifCond .le 27, 3) := by decide +kernel
theorem dX7_lowOf_12 : decode cX7_lowOf 12 = .ok (.iload_n 2, 1) := by decide +kernel
theorem dX7_lowOf_13 : decode cX7_lowOf 13 = .ok (.iload_n 3, 1) := by decide +kernel
theorem dX7_lowOf_14 : decode cX7_lowOf 14 = .ok (.iconst 4, 1) := by decide +kernel
theorem dX7_lowOf_15 : decode cX7_lowOf 15 = .ok (.irem, 1) := by decide +kernel
theorem dX7_lowOf_16 : decode cX7_lowOf 16 = .ok (.iconst 2, 1) := by decide +kernel
theorem dX7_lowOf_17 : decode cX7_lowOf 17 = .ok (.idiv, 1) := by decide +kernel
theorem dX7_lowOf_18 : decode cX7_lowOf 18 = .ok (.iload 4, 2) := by decide +kernel
theorem dX7_lowOf_20 : decode cX7_lowOf 20 = .ok (.invokestatic 48, 3) := by decide +kernel
theorem dX7_lowOf_23 : decode cX7_lowOf 23 = .ok (.imul, 1) := by decide +kernel
theorem dX7_lowOf_24 : decode cX7_lowOf 24 = .ok (.iadd, 1) := by decide +kernel
theorem dX7_lowOf_25 : decode cX7_lowOf 25 = .ok (.istore_n 2, 1) := by decide +kernel
theorem dX7_lowOf_26 : decode cX7_lowOf 26 = .ok (.iload_n 3, 1) := by decide +kernel
theorem dX7_lowOf_27 : decode cX7_lowOf 27 = .ok (.iconst 4, 1) := by decide +kernel
theorem dX7_lowOf_28 : decode cX7_lowOf 28 = .ok (.idiv, 1) := by decide +kernel
theorem dX7_lowOf_29 : decode cX7_lowOf 29 = .ok (.istore_n 3, 1) := by decide +kernel
theorem dX7_lowOf_30 : decode cX7_lowOf 30 = .ok (.iinc 4 (-1), 3) := by decide +kernel
theorem dX7_lowOf_33 : decode cX7_lowOf 33 = .ok (.goto (-26), 3) := by decide +kernel
theorem dX7_lowOf_36 : decode cX7_lowOf 36 = .ok (.iload_n 2, 1) := by decide +kernel
theorem dX7_lowOf_37 : decode cX7_lowOf 37 = .ok (.ireturn, 1) := by decide +kernel
theorem dX7_tells_0 : decode cX7_tells 0 = .ok (.iload_n 0, 1) := by decide +kernel
theorem dX7_tells_1 : decode cX7_tells 1 = .ok (.bipush 98, 2) := by decide +kernel
theorem dX7_tells_3 : decode cX7_tells 3 = .ok (.if_icmp .eq 29, 3) := by decide +kernel
theorem dX7_tells_6 : decode cX7_tells 6 = .ok (.iload_n 0, 1) := by decide +kernel
theorem dX7_tells_7 : decode cX7_tells 7 = .ok (.bipush 103, 2) := by decide +kernel
theorem dX7_tells_9 : decode cX7_tells 9 = .ok (.if_icmp .ne 11, 3) := by decide +kernel
theorem dX7_tells_12 : decode cX7_tells 12 = .ok (.iload_n 1, 1) := by decide +kernel
theorem dX7_tells_13 : decode cX7_tells 13 = .ok (.iload_n 2, 1) := by decide +kernel
theorem dX7_tells_14 : decode cX7_tells 14 = .ok (.iadd, 1) := by decide +kernel
theorem dX7_tells_15 : decode cX7_tells 15 = .ok (.iconst 2, 1) := by decide +kernel
theorem dX7_tells_16 : decode cX7_tells 16 = .ok (.irem, 1) := by decide +kernel
theorem dX7_tells_17 : decode cX7_tells 17 = .ok (.ifCond .eq 15, 3) := by decide +kernel
theorem dX7_tells_20 : decode cX7_tells 20 = .ok (.iload_n 0, 1) := by decide +kernel
theorem dX7_tells_21 : decode cX7_tells 21 = .ok (.bipush 115, 2) := by decide +kernel
theorem dX7_tells_23 : decode cX7_tells 23 = .ok (.if_icmp .ne 13, 3) := by decide +kernel
theorem dX7_tells_26 : decode cX7_tells 26 = .ok (.iload_n 2, 1) := by decide +kernel
theorem dX7_tells_27 : decode cX7_tells 27 = .ok (.iconst 2, 1) := by decide +kernel
theorem dX7_tells_28 : decode cX7_tells 28 = .ok (.irem, 1) := by decide +kernel
theorem dX7_tells_29 : decode cX7_tells 29 = .ok (.ifCond .ne 7, 3) := by decide +kernel
theorem dX7_tells_32 : decode cX7_tells 32 = .ok (.iconst 1, 1) := by decide +kernel
theorem dX7_tells_33 : decode cX7_tells 33 = .ok (.goto 4, 3) := by decide +kernel
theorem dX7_tells_36 : decode cX7_tells 36 = .ok (.iconst 0, 1) := by decide +kernel
theorem dX7_tells_37 : decode cX7_tells 37 = .ok (.ireturn, 1) := by decide +kernel
theorem dX7_maskOf_0 : decode cX7_maskOf 0 = .ok (.iload_n 0, 1) := by decide +kernel
theorem dX7_maskOf_1 : decode cX7_maskOf 1 = .ok (.iload_n 1, 1) := by decide +kernel
theorem dX7_maskOf_2 : decode cX7_maskOf 2 = .ok (.bipush 98, 2) := by decide +kernel
theorem dX7_maskOf_4 : decode cX7_maskOf 4 = .ok (.invokestatic 52, 3) := by decide +kernel
theorem dX7_maskOf_7 : decode cX7_maskOf 7 = .ok (.lreturn, 1) := by decide +kernel
theorem dX7_paintOf_0 : decode cX7_paintOf 0 = .ok (.lconst 0, 1) := by decide +kernel
theorem dX7_paintOf_1 : decode cX7_paintOf 1 = .ok (.lstore_n 3, 1) := by decide +kernel
theorem dX7_paintOf_2 : decode cX7_paintOf 2 = .ok (.iload_n 0, 1) := by decide +kernel
theorem dX7_paintOf_3 : decode cX7_paintOf 3 = .ok (.iload_n 1, 1) := by decide +kernel
theorem dX7_paintOf_4 : decode cX7_paintOf 4 = .ok (.invokestatic 56, 3) := by decide +kernel
theorem dX7_paintOf_7 : decode cX7_paintOf 7 = .ok (.istore 5, 2) := by decide +kernel
theorem dX7_paintOf_9 : decode cX7_paintOf 9 = .ok (.iload_n 0, 1) := by decide +kernel
theorem dX7_paintOf_10 : decode cX7_paintOf 10 = .ok (.iload_n 1, 1) := by decide +kernel
theorem dX7_paintOf_11 : decode cX7_paintOf 11 = .ok (.invokestatic 60, 3) := by decide +kernel
theorem dX7_paintOf_14 : decode cX7_paintOf 14 = .ok (.istore 6, 2) := by decide +kernel
theorem dX7_paintOf_16 : decode cX7_paintOf 16 = .ok (.iload 6, 2) := by decide +kernel
theorem dX7_paintOf_18 : decode cX7_paintOf 18 = .ok (.istore 7, 2) := by decide +kernel
theorem dX7_paintOf_20 : decode cX7_paintOf 20 = .ok (.iload 7, 2) := by decide +kernel
theorem dX7_paintOf_22 : decode cX7_paintOf 22 = .ok (.iload 6, 2) := by decide +kernel
theorem dX7_paintOf_24 : decode cX7_paintOf 24 = .ok (.iload_n 0, 1) := by decide +kernel
theorem dX7_paintOf_25 : decode cX7_paintOf 25 = .ok (.invokestatic 48, 3) := by decide +kernel
theorem dX7_paintOf_28 : decode cX7_paintOf 28 = .ok (.iadd, 1) := by decide +kernel
theorem dX7_paintOf_29 : decode cX7_paintOf 29 = .ok (.if_icmp .ge 59, 3) := by decide +kernel
theorem dX7_paintOf_32 : decode cX7_paintOf 32 = .ok (.iload 5, 2) := by decide +kernel
theorem dX7_paintOf_34 : decode cX7_paintOf 34 = .ok (.istore 8, 2) := by decide +kernel
theorem dX7_paintOf_36 : decode cX7_paintOf 36 = .ok (.iload 8, 2) := by decide +kernel
theorem dX7_paintOf_38 : decode cX7_paintOf 38 = .ok (.iload 5, 2) := by decide +kernel
theorem dX7_paintOf_40 : decode cX7_paintOf 40 = .ok (.iload_n 0, 1) := by decide +kernel
theorem dX7_paintOf_41 : decode cX7_paintOf 41 = .ok (.invokestatic 48, 3) := by decide +kernel
theorem dX7_paintOf_44 : decode cX7_paintOf 44 = .ok (.iadd, 1) := by decide +kernel
theorem dX7_paintOf_45 : decode cX7_paintOf 45 = .ok (.if_icmp .ge 37, 3) := by decide +kernel
theorem dX7_paintOf_48 : decode cX7_paintOf 48 = .ok (.lload_n 3, 1) := by decide +kernel
theorem dX7_paintOf_49 : decode cX7_paintOf 49 = .ok (.iload_n 2, 1) := by decide +kernel
theorem dX7_paintOf_50 : decode cX7_paintOf 50 = .ok (.iload 8, 2) := by decide +kernel
theorem dX7_paintOf_52 : decode cX7_paintOf 52 = .ok (.iload 7, 2) := by decide +kernel
theorem dX7_paintOf_54 : decode cX7_paintOf 54 = .ok (.invokestatic 63, 3) := by decide +kernel
theorem dX7_paintOf_57 : decode cX7_paintOf 57 = .ok (.ifCond .eq 16, 3) := by decide +kernel
theorem dX7_paintOf_60 : decode cX7_paintOf 60 = .ok (.lconst 1, 1) := by decide +kernel
theorem dX7_paintOf_61 : decode cX7_paintOf 61 = .ok (.bipush 8, 2) := by decide +kernel
theorem dX7_paintOf_63 : decode cX7_paintOf 63 = .ok (.iload 7, 2) := by decide +kernel
theorem dX7_paintOf_65 : decode cX7_paintOf 65 = .ok (.imul, 1) := by decide +kernel
theorem dX7_paintOf_66 : decode cX7_paintOf 66 = .ok (.iload 8, 2) := by decide +kernel
theorem dX7_paintOf_68 : decode cX7_paintOf 68 = .ok (.iadd, 1) := by decide +kernel
theorem dX7_paintOf_69 : decode cX7_paintOf 69 = .ok (.lshl, 1) := by decide +kernel
theorem dX7_paintOf_70 : decode cX7_paintOf 70 = .ok (.goto 4, 3) := by decide +kernel
theorem dX7_paintOf_73 : decode cX7_paintOf 73 = .ok (.lconst 0, 1) := by decide +kernel
theorem dX7_paintOf_74 : decode cX7_paintOf 74 = .ok (.lor, 1) := by decide +kernel
theorem dX7_paintOf_75 : decode cX7_paintOf 75 = .ok (.lstore_n 3, 1) := by decide +kernel
theorem dX7_paintOf_76 : decode cX7_paintOf 76 = .ok (.iinc 8 1, 3) := by decide +kernel
theorem dX7_paintOf_79 : decode cX7_paintOf 79 = .ok (.goto (-43), 3) := by decide +kernel
theorem dX7_paintOf_82 : decode cX7_paintOf 82 = .ok (.iinc 7 1, 3) := by decide +kernel
theorem dX7_paintOf_85 : decode cX7_paintOf 85 = .ok (.goto (-65), 3) := by decide +kernel
theorem dX7_paintOf_88 : decode cX7_paintOf 88 = .ok (.lload_n 3, 1) := by decide +kernel
theorem dX7_paintOf_89 : decode cX7_paintOf 89 = .ok (.lreturn, 1) := by decide +kernel
theorem dX7_isLeaf_0 : decode cX7_isLeaf 0 = .ok (.iload_n 0, 1) := by decide +kernel
theorem dX7_isLeaf_1 : decode cX7_isLeaf 1 = .ok (.bipush 98, 2) := by decide +kernel
theorem dX7_isLeaf_3 : decode cX7_isLeaf 3 = .ok (.if_icmp .eq 21, 3) := by decide +kernel
theorem dX7_isLeaf_6 : decode cX7_isLeaf 6 = .ok (.iload_n 0, 1) := by decide +kernel
theorem dX7_isLeaf_7 : decode cX7_isLeaf 7 = .ok (.bipush 119, 2) := by decide +kernel
theorem dX7_isLeaf_9 : decode cX7_isLeaf 9 = .ok (.if_icmp .eq 15, 3) := by decide +kernel
theorem dX7_isLeaf_12 : decode cX7_isLeaf 12 = .ok (.iload_n 0, 1) := by decide +kernel
theorem dX7_isLeaf_13 : decode cX7_isLeaf 13 = .ok (.bipush 103, 2) := by decide +kernel
theorem dX7_isLeaf_15 : decode cX7_isLeaf 15 = .ok (.if_icmp .eq 9, 3) := by decide +kernel
theorem dX7_isLeaf_18 : decode cX7_isLeaf 18 = .ok (.iload_n 0, 1) := by decide +kernel
theorem dX7_isLeaf_19 : decode cX7_isLeaf 19 = .ok (.bipush 115, 2) := by decide +kernel
theorem dX7_isLeaf_21 : decode cX7_isLeaf 21 = .ok (.if_icmp .ne 7, 3) := by decide +kernel
theorem dX7_isLeaf_24 : decode cX7_isLeaf 24 = .ok (.iconst 1, 1) := by decide +kernel
theorem dX7_isLeaf_25 : decode cX7_isLeaf 25 = .ok (.goto 4, 3) := by decide +kernel
theorem dX7_isLeaf_28 : decode cX7_isLeaf 28 = .ok (.iconst 0, 1) := by decide +kernel
theorem dX7_isLeaf_29 : decode cX7_isLeaf 29 = .ok (.ireturn, 1) := by decide +kernel
theorem dX7_write_0 : decode cX7_write 0 = .ok (.iload_n 1, 1) := by decide +kernel
theorem dX7_write_1 : decode cX7_write 1 = .ok (.i2l, 1) := by decide +kernel
theorem dX7_write_2 : decode cX7_write 2 = .ok (.lconst 0, 1) := by decide +kernel
theorem dX7_write_3 : decode cX7_write 3 = .ok (.ldc2_w 67, 3) := by decide +kernel
theorem dX7_write_6 : decode cX7_write 6 = .ok (.invokestatic 44, 3) := by decide +kernel
theorem dX7_write_9 : decode cX7_write 9 = .ok (.ifCond .ne 6, 3) := by decide +kernel
theorem dX7_write_12 : decode cX7_write 12 = .ok (.bipush (-2), 2) := by decide +kernel
theorem dX7_write_14 : decode cX7_write 14 = .ok (.ireturn, 1) := by decide +kernel
theorem dX7_write_15 : decode cX7_write 15 = .ok (.aload_n 0, 1) := by decide +kernel
theorem dX7_write_16 : decode cX7_write 16 = .ok (.getfield 69, 3) := by decide +kernel
theorem dX7_write_19 : decode cX7_write 19 = .ok (.bipush 64, 2) := by decide +kernel
theorem dX7_write_21 : decode cX7_write 21 = .ok (.if_icmp .ne 6, 3) := by decide +kernel
theorem dX7_write_24 : decode cX7_write 24 = .ok (.bipush (-4), 2) := by decide +kernel
theorem dX7_write_26 : decode cX7_write 26 = .ok (.ireturn, 1) := by decide +kernel
theorem dX7_write_27 : decode cX7_write 27 = .ok (.aload_n 0, 1) := by decide +kernel
theorem dX7_write_28 : decode cX7_write 28 = .ok (.getfield 7, 3) := by decide +kernel
theorem dX7_write_31 : decode cX7_write 31 = .ok (.aload_n 0, 1) := by decide +kernel
theorem dX7_write_32 : decode cX7_write 32 = .ok (.getfield 69, 3) := by decide +kernel
theorem dX7_write_35 : decode cX7_write 35 = .ok (.iload_n 1, 1) := by decide +kernel
theorem dX7_write_36 : decode cX7_write 36 = .ok (.iastore, 1) := by decide +kernel
theorem dX7_write_37 : decode cX7_write 37 = .ok (.aload_n 0, 1) := by decide +kernel
theorem dX7_write_38 : decode cX7_write 38 = .ok (.dup, 1) := by decide +kernel
theorem dX7_write_39 : decode cX7_write 39 = .ok (.getfield 69, 3) := by decide +kernel
theorem dX7_write_42 : decode cX7_write 42 = .ok (.iconst 1, 1) := by decide +kernel
theorem dX7_write_43 : decode cX7_write 43 = .ok (.iadd, 1) := by decide +kernel
theorem dX7_write_44 : decode cX7_write 44 = .ok (.putfield 69, 3) := by decide +kernel
theorem dX7_write_47 : decode cX7_write 47 = .ok (.aload_n 0, 1) := by decide +kernel
theorem dX7_write_48 : decode cX7_write 48 = .ok (.getfield 69, 3) := by decide +kernel
theorem dX7_write_51 : decode cX7_write 51 = .ok (.ireturn, 1) := by decide +kernel
theorem dX7_wipe_0 : decode cX7_wipe 0 = .ok (.aload_n 0, 1) := by decide +kernel
theorem dX7_wipe_1 : decode cX7_wipe 1 = .ok (.getfield 69, 3) := by decide +kernel
theorem dX7_wipe_4 : decode cX7_wipe 4 = .ok (.istore_n 1, 1) := by decide +kernel
theorem dX7_wipe_5 : decode cX7_wipe 5 = .ok (.aload_n 0, 1) := by decide +kernel
theorem dX7_wipe_6 : decode cX7_wipe 6 = .ok (.iconst 0, 1) := by decide +kernel
theorem dX7_wipe_7 : decode cX7_wipe 7 = .ok (.putfield 69, 3) := by decide +kernel
theorem dX7_wipe_10 : decode cX7_wipe 10 = .ok (.iload_n 1, 1) := by decide +kernel
theorem dX7_wipe_11 : decode cX7_wipe 11 = .ok (.ireturn, 1) := by decide +kernel
theorem dX7_goOn_0 : decode cX7_goOn 0 = .ok (.aload_n 0, 1) := by decide +kernel
theorem dX7_goOn_1 : decode cX7_goOn 1 = .ok (.getfield 73, 3) := by decide +kernel
theorem dX7_goOn_4 : decode cX7_goOn 4 = .ok (.ifCond .le 36, 3) := by decide +kernel
theorem dX7_goOn_7 : decode cX7_goOn 7 = .ok (.aload_n 0, 1) := by decide +kernel
theorem dX7_goOn_8 : decode cX7_goOn 8 = .ok (.getfield 76, 3) := by decide +kernel
theorem dX7_goOn_11 : decode cX7_goOn 11 = .ok (.iconst 4, 1) := by decide +kernel
theorem dX7_goOn_12 : decode cX7_goOn 12 = .ok (.irem, 1) := by decide +kernel
theorem dX7_goOn_13 : decode cX7_goOn 13 = .ok (.iconst 3, 1) := by decide +kernel
theorem dX7_goOn_14 : decode cX7_goOn 14 = .ok (.if_icmp .ne 26, 3) := by decide +kernel
theorem dX7_goOn_17 : decode cX7_goOn 17 = .ok (.aload_n 0, 1) := by decide +kernel
theorem dX7_goOn_18 : decode cX7_goOn 18 = .ok (.dup, 1) := by decide +kernel
theorem dX7_goOn_19 : decode cX7_goOn 19 = .ok (.getfield 73, 3) := by decide +kernel
theorem dX7_goOn_22 : decode cX7_goOn 22 = .ok (.iconst 1, 1) := by decide +kernel
theorem dX7_goOn_23 : decode cX7_goOn 23 = .ok (.isub, 1) := by decide +kernel
theorem dX7_goOn_24 : decode cX7_goOn 24 = .ok (.putfield 73, 3) := by decide +kernel
theorem dX7_goOn_27 : decode cX7_goOn 27 = .ok (.aload_n 0, 1) := by decide +kernel
theorem dX7_goOn_28 : decode cX7_goOn 28 = .ok (.dup, 1) := by decide +kernel
theorem dX7_goOn_29 : decode cX7_goOn 29 = .ok (.getfield 76, 3) := by decide +kernel
theorem dX7_goOn_32 : decode cX7_goOn 32 = .ok (.iconst 4, 1) := by decide +kernel
theorem dX7_goOn_33 : decode cX7_goOn 33 = .ok (.idiv, 1) := by decide +kernel
theorem dX7_goOn_34 : decode cX7_goOn 34 = .ok (.putfield 76, 3) := by decide +kernel
theorem dX7_goOn_37 : decode cX7_goOn 37 = .ok (.goto (-37), 3) := by decide +kernel
theorem dX7_goOn_40 : decode cX7_goOn 40 = .ok (.aload_n 0, 1) := by decide +kernel
theorem dX7_goOn_41 : decode cX7_goOn 41 = .ok (.getfield 73, 3) := by decide +kernel
theorem dX7_goOn_44 : decode cX7_goOn 44 = .ok (.ifCond .ne 12, 3) := by decide +kernel
theorem dX7_goOn_47 : decode cX7_goOn 47 = .ok (.aload_n 0, 1) := by decide +kernel
theorem dX7_goOn_48 : decode cX7_goOn 48 = .ok (.bipush (-9), 2) := by decide +kernel
theorem dX7_goOn_50 : decode cX7_goOn 50 = .ok (.putfield 73, 3) := by decide +kernel
theorem dX7_goOn_53 : decode cX7_goOn 53 = .ok (.goto 13, 3) := by decide +kernel
theorem dX7_goOn_56 : decode cX7_goOn 56 = .ok (.aload_n 0, 1) := by decide +kernel
theorem dX7_goOn_57 : decode cX7_goOn 57 = .ok (.dup, 1) := by decide +kernel
theorem dX7_goOn_58 : decode cX7_goOn 58 = .ok (.getfield 76, 3) := by decide +kernel
theorem dX7_goOn_61 : decode cX7_goOn 61 = .ok (.iconst 1, 1) := by decide +kernel
theorem dX7_goOn_62 : decode cX7_goOn 62 = .ok (.iadd, 1) := by decide +kernel
theorem dX7_goOn_63 : decode cX7_goOn 63 = .ok (.putfield 76, 3) := by decide +kernel
theorem dX7_goOn_66 : decode cX7_goOn 66 = .ok (.return_, 1) := by decide +kernel
theorem dX7_readText_0 : decode cX7_readText 0 = .ok (.aload_n 0, 1) := by decide +kernel
theorem dX7_readText_1 : decode cX7_readText 1 = .ok (.iconst 0, 1) := by decide +kernel
theorem dX7_readText_2 : decode cX7_readText 2 = .ok (.putfield 73, 3) := by decide +kernel
theorem dX7_readText_5 : decode cX7_readText 5 = .ok (.aload_n 0, 1) := by decide +kernel
theorem dX7_readText_6 : decode cX7_readText 6 = .ok (.iconst 0, 1) := by decide +kernel
theorem dX7_readText_7 : decode cX7_readText 7 = .ok (.putfield 76, 3) := by decide +kernel
theorem dX7_readText_10 : decode cX7_readText 10 = .ok (.aload_n 0, 1) := by decide +kernel
theorem dX7_readText_11 : decode cX7_readText 11 = .ok (.lconst 0, 1) := by decide +kernel
theorem dX7_readText_12 : decode cX7_readText 12 = .ok (.putfield 79, 3) := by decide +kernel
theorem dX7_readText_15 : decode cX7_readText 15 = .ok (.iconst 0, 1) := by decide +kernel
theorem dX7_readText_16 : decode cX7_readText 16 = .ok (.istore_n 1, 1) := by decide +kernel
theorem dX7_readText_17 : decode cX7_readText 17 = .ok (.iload_n 1, 1) := by decide +kernel
theorem dX7_readText_18 : decode cX7_readText 18 = .ok (.aload_n 0, 1) := by decide +kernel
theorem dX7_readText_19 : decode cX7_readText 19 = .ok (.getfield 69, 3) := by decide +kernel
theorem dX7_readText_22 : decode cX7_readText 22 = .ok (.if_icmp .ge 125, 3) := by decide +kernel
theorem dX7_readText_25 : decode cX7_readText 25 = .ok (.aload_n 0, 1) := by decide +kernel
theorem dX7_readText_26 : decode cX7_readText 26 = .ok (.getfield 7, 3) := by decide +kernel
theorem dX7_readText_29 : decode cX7_readText 29 = .ok (.iload_n 1, 1) := by decide +kernel
theorem dX7_readText_30 : decode cX7_readText 30 = .ok (.iaload, 1) := by decide +kernel
theorem dX7_readText_31 : decode cX7_readText 31 = .ok (.bipush 113, 2) := by decide +kernel
theorem dX7_readText_33 : decode cX7_readText 33 = .ok (.if_icmp .ne 22, 3) := by decide +kernel
theorem dX7_readText_36 : decode cX7_readText 36 = .ok (.aload_n 0, 1) := by decide +kernel
theorem dX7_readText_37 : decode cX7_readText 37 = .ok (.getfield 73, 3) := by decide +kernel
theorem dX7_readText_40 : decode cX7_readText 40 = .ok (.i2l, 1) := by decide +kernel
theorem dX7_readText_41 : decode cX7_readText 41 = .ok (.lconst 0, 1) := by decide +kernel
theorem dX7_readText_42 : decode cX7_readText 42 = .ok (.ldc2_w 83, 3) := by decide +kernel
theorem dX7_readText_45 : decode cX7_readText 45 = .ok (.invokestatic 44, 3) := by decide +kernel
theorem dX7_readText_48 : decode cX7_readText 48 = .ok (.ifCond .eq 7, 3) := by decide +kernel
theorem dX7_readText_51 : decode cX7_readText 51 = .ok (.iconst 1, 1) := by decide +kernel
theorem dX7_readText_52 : decode cX7_readText 52 = .ok (.goto 4, 3) := by decide +kernel
theorem dX7_readText_55 : decode cX7_readText 55 = .ok (.iconst 0, 1) := by decide +kernel
theorem dX7_readText_56 : decode cX7_readText 56 = .ok (.istore_n 2, 1) := by decide +kernel
theorem dX7_readText_57 : decode cX7_readText 57 = .ok (.iload_n 2, 1) := by decide +kernel
theorem dX7_readText_58 : decode cX7_readText 58 = .ok (.ifCond .ne 26, 3) := by decide +kernel
theorem dX7_readText_61 : decode cX7_readText 61 = .ok (.aload_n 0, 1) := by decide +kernel
theorem dX7_readText_62 : decode cX7_readText 62 = .ok (.getfield 73, 3) := by decide +kernel
theorem dX7_readText_65 : decode cX7_readText 65 = .ok (.bipush (-9), 2) := by decide +kernel
theorem dX7_readText_67 : decode cX7_readText 67 = .ok (.if_icmp .eq 15, 3) := by decide +kernel
theorem dX7_readText_70 : decode cX7_readText 70 = .ok (.aload_n 0, 1) := by decide +kernel
theorem dX7_readText_71 : decode cX7_readText 71 = .ok (.getfield 7, 3) := by decide +kernel
theorem dX7_readText_74 : decode cX7_readText 74 = .ok (.iload_n 1, 1) := by decide +kernel
theorem dX7_readText_75 : decode cX7_readText 75 = .ok (.iaload, 1) := by decide +kernel
theorem dX7_readText_76 : decode cX7_readText 76 = .ok (.invokestatic 85, 3) := by decide +kernel
theorem dX7_readText_79 : decode cX7_readText 79 = .ok (.ifCond .ne 5, 3) := by decide +kernel
theorem dX7_readText_82 : decode cX7_readText 82 = .ok (.iload_n 1, 1) := by decide +kernel
theorem dX7_readText_83 : decode cX7_readText 83 = .ok (.ireturn, 1) := by decide +kernel
theorem dX7_readText_84 : decode cX7_readText 84 = .ok (.iload_n 2, 1) := by decide +kernel
theorem dX7_readText_85 : decode cX7_readText 85 = .ok (.ifCond .eq 26, 3) := by decide +kernel
theorem dX7_readText_88 : decode cX7_readText 88 = .ok (.aload_n 0, 1) := by decide +kernel
theorem dX7_readText_89 : decode cX7_readText 89 = .ok (.dup, 1) := by decide +kernel
theorem dX7_readText_90 : decode cX7_readText 90 = .ok (.getfield 73, 3) := by decide +kernel
theorem dX7_readText_93 : decode cX7_readText 93 = .ok (.iconst 1, 1) := by decide +kernel
theorem dX7_readText_94 : decode cX7_readText 94 = .ok (.iadd, 1) := by decide +kernel
theorem dX7_readText_95 : decode cX7_readText 95 = .ok (.putfield 73, 3) := by decide +kernel
theorem dX7_readText_98 : decode cX7_readText 98 = .ok (.aload_n 0, 1) := by decide +kernel
theorem dX7_readText_99 : decode cX7_readText 99 = .ok (.dup, 1) := by decide +kernel
theorem dX7_readText_100 : decode cX7_readText 100 = .ok (.getfield 76, 3) := by decide +kernel
theorem dX7_readText_103 : decode cX7_readText 103 = .ok (.iconst 4, 1) := by decide +kernel
theorem dX7_readText_104 : decode cX7_readText 104 = .ok (.imul, 1) := by decide +kernel
theorem dX7_readText_105 : decode cX7_readText 105 = .ok (.putfield 76, 3) := by decide +kernel
theorem dX7_readText_108 : decode cX7_readText 108 = .ok (.goto 33, 3) := by decide +kernel
theorem dX7_readText_111 : decode cX7_readText 111 = .ok (.aload_n 0, 1) := by decide +kernel
theorem dX7_readText_112 : decode cX7_readText 112 = .ok (.dup, 1) := by decide +kernel
theorem dX7_readText_113 : decode cX7_readText 113 = .ok (.getfield 79, 3) := by decide +kernel
theorem dX7_readText_116 : decode cX7_readText 116 = .ok (.aload_n 0, 1) := by decide +kernel
theorem dX7_readText_117 : decode cX7_readText 117 = .ok (.getfield 73, 3) := by decide +kernel
theorem dX7_readText_120 : decode cX7_readText 120 = .ok (.aload_n 0, 1) := by decide +kernel
theorem dX7_readText_121 : decode cX7_readText 121 = .ok (.getfield 76, 3) := by decide +kernel
theorem dX7_readText_124 : decode cX7_readText 124 = .ok (.aload_n 0, 1) := by decide +kernel
theorem dX7_readText_125 : decode cX7_readText 125 = .ok (.getfield 7, 3) := by decide +kernel
theorem dX7_readText_128 : decode cX7_readText 128 = .ok (.iload_n 1, 1) := by decide +kernel
theorem dX7_readText_129 : decode cX7_readText 129 = .ok (.iaload, 1) := by decide +kernel
theorem dX7_readText_130 : decode cX7_readText 130 = .ok (.invokestatic 52, 3) := by decide +kernel
theorem dX7_readText_133 : decode cX7_readText 133 = .ok (.lor, 1) := by decide +kernel
theorem dX7_readText_134 : decode cX7_readText 134 = .ok (.putfield 79, 3) := by decide +kernel
theorem dX7_readText_137 : decode cX7_readText 137 = .ok (.aload_n 0, 1) := by decide +kernel
theorem dX7_readText_138 : decode cX7_readText 138 = .ok (.invokevirtual 89, 3) := by decide +kernel
theorem dX7_readText_141 : decode cX7_readText 141 = .ok (.iinc 1 1, 3) := by decide +kernel
theorem dX7_readText_144 : decode cX7_readText 144 = .ok (.goto (-127), 3) := by decide +kernel
theorem dX7_readText_147 : decode cX7_readText 147 = .ok (.aload_n 0, 1) := by decide +kernel
theorem dX7_readText_148 : decode cX7_readText 148 = .ok (.getfield 73, 3) := by decide +kernel
theorem dX7_readText_151 : decode cX7_readText 151 = .ok (.bipush (-9), 2) := by decide +kernel
theorem dX7_readText_153 : decode cX7_readText 153 = .ok (.if_icmp .ne 8, 3) := by decide +kernel
theorem dX7_readText_156 : decode cX7_readText 156 = .ok (.bipush (-9), 2) := by decide +kernel
theorem dX7_readText_158 : decode cX7_readText 158 = .ok (.goto 7, 3) := by decide +kernel
theorem dX7_readText_161 : decode cX7_readText 161 = .ok (.aload_n 0, 1) := by decide +kernel
theorem dX7_readText_162 : decode cX7_readText 162 = .ok (.getfield 69, 3) := by decide +kernel
theorem dX7_readText_165 : decode cX7_readText 165 = .ok (.ireturn, 1) := by decide +kernel
theorem dX7_fault_0 : decode cX7_fault 0 = .ok (.aload_n 0, 1) := by decide +kernel
theorem dX7_fault_1 : decode cX7_fault 1 = .ok (.invokevirtual 92, 3) := by decide +kernel
theorem dX7_fault_4 : decode cX7_fault 4 = .ok (.ireturn, 1) := by decide +kernel
theorem dX7_isPicture_0 : decode cX7_isPicture 0 = .ok (.iload_n 0, 1) := by decide +kernel
theorem dX7_isPicture_1 : decode cX7_isPicture 1 = .ok (.i2l, 1) := by decide +kernel
theorem dX7_isPicture_2 : decode cX7_isPicture 2 = .ok (.lconst 0, 1) := by decide +kernel
theorem dX7_isPicture_3 : decode cX7_isPicture 3 = .ok (.ldc2_w 83, 3) := by decide +kernel
theorem dX7_isPicture_6 : decode cX7_isPicture 6 = .ok (.invokestatic 44, 3) := by decide +kernel
theorem dX7_isPicture_9 : decode cX7_isPicture 9 = .ok (.ireturn, 1) := by decide +kernel
theorem dX7_turned_0 : decode cX7_turned 0 = .ok (.lconst 0, 1) := by decide +kernel
theorem dX7_turned_1 : decode cX7_turned 1 = .ok (.lstore_n 2, 1) := by decide +kernel
theorem dX7_turned_2 : decode cX7_turned 2 = .ok (.iconst 0, 1) := by decide +kernel
theorem dX7_turned_3 : decode cX7_turned 3 = .ok (.istore 4, 2) := by decide +kernel
theorem dX7_turned_5 : decode cX7_turned 5 = .ok (.iload 4, 2) := by decide +kernel
theorem dX7_turned_7 : decode cX7_turned 7 = .ok (.bipush 64, 2) := by decide +kernel
theorem dX7_turned_9 : decode cX7_turned 9 = .ok (.if_icmp .ge 54, 3) := by decide +kernel
theorem dX7_turned_12 : decode cX7_turned 12 = .ok (.iload 4, 2) := by decide +kernel
theorem dX7_turned_14 : decode cX7_turned 14 = .ok (.bipush 8, 2) := by decide +kernel
theorem dX7_turned_16 : decode cX7_turned 16 = .ok (.irem, 1) := by decide +kernel
theorem dX7_turned_17 : decode cX7_turned 17 = .ok (.istore 5, 2) := by decide +kernel
theorem dX7_turned_19 : decode cX7_turned 19 = .ok (.iload 4, 2) := by decide +kernel
theorem dX7_turned_21 : decode cX7_turned 21 = .ok (.bipush 8, 2) := by decide +kernel
theorem dX7_turned_23 : decode cX7_turned 23 = .ok (.idiv, 1) := by decide +kernel
theorem dX7_turned_24 : decode cX7_turned 24 = .ok (.istore 6, 2) := by decide +kernel
theorem dX7_turned_26 : decode cX7_turned 26 = .ok (.lload_n 2, 1) := by decide +kernel
theorem dX7_turned_27 : decode cX7_turned 27 = .ok (.lload_n 0, 1) := by decide +kernel
theorem dX7_turned_28 : decode cX7_turned 28 = .ok (.iload 5, 2) := by decide +kernel
theorem dX7_turned_30 : decode cX7_turned 30 = .ok (.iload 6, 2) := by decide +kernel
theorem dX7_turned_32 : decode cX7_turned 32 = .ok (.invokestatic 96, 3) := by decide +kernel
theorem dX7_turned_35 : decode cX7_turned 35 = .ok (.ifCond .eq 19, 3) := by decide +kernel
theorem dX7_turned_38 : decode cX7_turned 38 = .ok (.lconst 1, 1) := by decide +kernel
theorem dX7_turned_39 : decode cX7_turned 39 = .ok (.bipush 8, 2) := by decide +kernel
theorem dX7_turned_41 : decode cX7_turned 41 = .ok (.iload 5, 2) := by decide +kernel
theorem dX7_turned_43 : decode cX7_turned 43 = .ok (.imul, 1) := by decide +kernel
theorem dX7_turned_44 : decode cX7_turned 44 = .ok (.bipush 7, 2) := by decide +kernel
theorem dX7_turned_46 : decode cX7_turned 46 = .ok (.iadd, 1) := by decide +kernel
theorem dX7_turned_47 : decode cX7_turned 47 = .ok (.iload 6, 2) := by decide +kernel
theorem dX7_turned_49 : decode cX7_turned 49 = .ok (.isub, 1) := by decide +kernel
theorem dX7_turned_50 : decode cX7_turned 50 = .ok (.lshl, 1) := by decide +kernel
theorem dX7_turned_51 : decode cX7_turned 51 = .ok (.goto 4, 3) := by decide +kernel
theorem dX7_turned_54 : decode cX7_turned 54 = .ok (.lconst 0, 1) := by decide +kernel
theorem dX7_turned_55 : decode cX7_turned 55 = .ok (.lor, 1) := by decide +kernel
theorem dX7_turned_56 : decode cX7_turned 56 = .ok (.lstore_n 2, 1) := by decide +kernel
theorem dX7_turned_57 : decode cX7_turned 57 = .ok (.iinc 4 1, 3) := by decide +kernel
theorem dX7_turned_60 : decode cX7_turned 60 = .ok (.goto (-55), 3) := by decide +kernel
theorem dX7_turned_63 : decode cX7_turned 63 = .ok (.lload_n 2, 1) := by decide +kernel
theorem dX7_turned_64 : decode cX7_turned 64 = .ok (.lreturn, 1) := by decide +kernel
theorem dX7_flipped_0 : decode cX7_flipped 0 = .ok (.lconst 0, 1) := by decide +kernel
theorem dX7_flipped_1 : decode cX7_flipped 1 = .ok (.lstore_n 2, 1) := by decide +kernel
theorem dX7_flipped_2 : decode cX7_flipped 2 = .ok (.iconst 0, 1) := by decide +kernel
theorem dX7_flipped_3 : decode cX7_flipped 3 = .ok (.istore 4, 2) := by decide +kernel
theorem dX7_flipped_5 : decode cX7_flipped 5 = .ok (.iload 4, 2) := by decide +kernel
theorem dX7_flipped_7 : decode cX7_flipped 7 = .ok (.bipush 64, 2) := by decide +kernel
theorem dX7_flipped_9 : decode cX7_flipped 9 = .ok (.if_icmp .ge 52, 3) := by decide +kernel
theorem dX7_flipped_12 : decode cX7_flipped 12 = .ok (.lload_n 2, 1) := by decide +kernel
theorem dX7_flipped_13 : decode cX7_flipped 13 = .ok (.lload_n 0, 1) := by decide +kernel
theorem dX7_flipped_14 : decode cX7_flipped 14 = .ok (.iload 4, 2) := by decide +kernel
theorem dX7_flipped_16 : decode cX7_flipped 16 = .ok (.bipush 8, 2) := by decide +kernel
theorem dX7_flipped_18 : decode cX7_flipped 18 = .ok (.irem, 1) := by decide +kernel
theorem dX7_flipped_19 : decode cX7_flipped 19 = .ok (.iload 4, 2) := by decide +kernel
theorem dX7_flipped_21 : decode cX7_flipped 21 = .ok (.bipush 8, 2) := by decide +kernel
theorem dX7_flipped_23 : decode cX7_flipped 23 = .ok (.idiv, 1) := by decide +kernel
theorem dX7_flipped_24 : decode cX7_flipped 24 = .ok (.invokestatic 96, 3) := by decide +kernel
theorem dX7_flipped_27 : decode cX7_flipped 27 = .ok (.ifCond .eq 25, 3) := by decide +kernel
theorem dX7_flipped_30 : decode cX7_flipped 30 = .ok (.lconst 1, 1) := by decide +kernel
theorem dX7_flipped_31 : decode cX7_flipped 31 = .ok (.bipush 8, 2) := by decide +kernel
theorem dX7_flipped_33 : decode cX7_flipped 33 = .ok (.iload 4, 2) := by decide +kernel
theorem dX7_flipped_35 : decode cX7_flipped 35 = .ok (.bipush 8, 2) := by decide +kernel
theorem dX7_flipped_37 : decode cX7_flipped 37 = .ok (.idiv, 1) := by decide +kernel
theorem dX7_flipped_38 : decode cX7_flipped 38 = .ok (.imul, 1) := by decide +kernel
theorem dX7_flipped_39 : decode cX7_flipped 39 = .ok (.bipush 7, 2) := by decide +kernel
theorem dX7_flipped_41 : decode cX7_flipped 41 = .ok (.iadd, 1) := by decide +kernel
theorem dX7_flipped_42 : decode cX7_flipped 42 = .ok (.iload 4, 2) := by decide +kernel
theorem dX7_flipped_44 : decode cX7_flipped 44 = .ok (.bipush 8, 2) := by decide +kernel
theorem dX7_flipped_46 : decode cX7_flipped 46 = .ok (.irem, 1) := by decide +kernel
theorem dX7_flipped_47 : decode cX7_flipped 47 = .ok (.isub, 1) := by decide +kernel
theorem dX7_flipped_48 : decode cX7_flipped 48 = .ok (.lshl, 1) := by decide +kernel
theorem dX7_flipped_49 : decode cX7_flipped 49 = .ok (.goto 4, 3) := by decide +kernel
theorem dX7_flipped_52 : decode cX7_flipped 52 = .ok (.lconst 0, 1) := by decide +kernel
theorem dX7_flipped_53 : decode cX7_flipped 53 = .ok (.lor, 1) := by decide +kernel
theorem dX7_flipped_54 : decode cX7_flipped 54 = .ok (.lstore_n 2, 1) := by decide +kernel
theorem dX7_flipped_55 : decode cX7_flipped 55 = .ok (.iinc 4 1, 3) := by decide +kernel
theorem dX7_flipped_58 : decode cX7_flipped 58 = .ok (.goto (-53), 3) := by decide +kernel
theorem dX7_flipped_61 : decode cX7_flipped 61 = .ok (.lload_n 2, 1) := by decide +kernel
theorem dX7_flipped_62 : decode cX7_flipped 62 = .ok (.lreturn, 1) := by decide +kernel
theorem dX7_halved_0 : decode cX7_halved 0 = .ok (.lconst 0, 1) := by decide +kernel
theorem dX7_halved_1 : decode cX7_halved 1 = .ok (.lstore_n 3, 1) := by decide +kernel
theorem dX7_halved_2 : decode cX7_halved 2 = .ok (.iconst 0, 1) := by decide +kernel
theorem dX7_halved_3 : decode cX7_halved 3 = .ok (.istore 5, 2) := by decide +kernel
theorem dX7_halved_5 : decode cX7_halved 5 = .ok (.iload 5, 2) := by decide +kernel
theorem dX7_halved_7 : decode cX7_halved 7 = .ok (.bipush 16, 2) := by decide +kernel
theorem dX7_halved_9 : decode cX7_halved 9 = .ok (.if_icmp .ge 109, 3) := by decide +kernel
theorem dX7_halved_12 : decode cX7_halved 12 = .ok (.iload 5, 2) := by decide +kernel
theorem dX7_halved_14 : decode cX7_halved 14 = .ok (.iconst 4, 1) := by decide +kernel
theorem dX7_halved_15 : decode cX7_halved 15 = .ok (.irem, 1) := by decide +kernel
theorem dX7_halved_16 : decode cX7_halved 16 = .ok (.istore 6, 2) := by decide +kernel
theorem dX7_halved_18 : decode cX7_halved 18 = .ok (.iload 5, 2) := by decide +kernel
theorem dX7_halved_20 : decode cX7_halved 20 = .ok (.iconst 4, 1) := by decide +kernel
theorem dX7_halved_21 : decode cX7_halved 21 = .ok (.idiv, 1) := by decide +kernel
theorem dX7_halved_22 : decode cX7_halved 22 = .ok (.istore 7, 2) := by decide +kernel
theorem dX7_halved_24 : decode cX7_halved 24 = .ok (.iconst 0, 1) := by decide +kernel
theorem dX7_halved_25 : decode cX7_halved 25 = .ok (.istore 8, 2) := by decide +kernel
theorem dX7_halved_27 : decode cX7_halved 27 = .ok (.iconst 0, 1) := by decide +kernel
theorem dX7_halved_28 : decode cX7_halved 28 = .ok (.istore 9, 2) := by decide +kernel
theorem dX7_halved_30 : decode cX7_halved 30 = .ok (.iload 9, 2) := by decide +kernel
theorem dX7_halved_32 : decode cX7_halved 32 = .ok (.iconst 4, 1) := by decide +kernel
theorem dX7_halved_33 : decode cX7_halved 33 = .ok (.if_icmp .ge 44, 3) := by decide +kernel
theorem dX7_halved_36 : decode cX7_halved 36 = .ok (.iload 8, 2) := by decide +kernel
theorem dX7_halved_38 : decode cX7_halved 38 = .ok (.lload_n 0, 1) := by decide +kernel
theorem dX7_halved_39 : decode cX7_halved 39 = .ok (.iconst 2, 1) := by decide +kernel
theorem dX7_halved_40 : decode cX7_halved 40 = .ok (.iload 6, 2) := by decide +kernel
theorem dX7_halved_42 : decode cX7_halved 42 = .ok (.imul, 1) := by decide +kernel
theorem dX7_halved_43 : decode cX7_halved 43 = .ok (.iload 9, 2) := by decide +kernel
theorem dX7_halved_45 : decode cX7_halved 45 = .ok (.iconst 2, 1) := by decide +kernel
theorem dX7_halved_46 : decode cX7_halved 46 = .ok (.irem, 1) := by decide +kernel
theorem dX7_halved_47 : decode cX7_halved 47 = .ok (.iadd, 1) := by decide +kernel
theorem dX7_halved_48 : decode cX7_halved 48 = .ok (.iconst 2, 1) := by decide +kernel
theorem dX7_halved_49 : decode cX7_halved 49 = .ok (.iload 7, 2) := by decide +kernel
theorem dX7_halved_51 : decode cX7_halved 51 = .ok (.imul, 1) := by decide +kernel
theorem dX7_halved_52 : decode cX7_halved 52 = .ok (.iload 9, 2) := by decide +kernel
theorem dX7_halved_54 : decode cX7_halved 54 = .ok (.iconst 2, 1) := by decide +kernel
theorem dX7_halved_55 : decode cX7_halved 55 = .ok (.idiv, 1) := by decide +kernel
theorem dX7_halved_56 : decode cX7_halved 56 = .ok (.iadd, 1) := by decide +kernel
theorem dX7_halved_57 : decode cX7_halved 57 = .ok (.invokestatic 96, 3) := by decide +kernel
theorem dX7_halved_60 : decode cX7_halved 60 = .ok (.ifCond .eq 7, 3) := by decide +kernel
theorem dX7_halved_63 : decode cX7_halved 63 = .ok (.iconst 1, 1) := by decide +kernel
theorem dX7_halved_64 : decode cX7_halved 64 = .ok (.goto 4, 3) := by decide +kernel
theorem dX7_halved_67 : decode cX7_halved 67 = .ok (.iconst 0, 1) := by decide +kernel
theorem dX7_halved_68 : decode cX7_halved 68 = .ok (.iadd, 1) := by decide +kernel
theorem dX7_halved_69 : decode cX7_halved 69 = .ok (.istore 8, 2) := by decide +kernel
theorem dX7_halved_71 : decode cX7_halved 71 = .ok (.iinc 9 1, 3) := by decide +kernel
theorem dX7_halved_74 : decode cX7_halved 74 = .ok (.goto (-44), 3) := by decide +kernel
theorem dX7_halved_77 : decode cX7_halved 77 = .ok (.lload_n 3, 1) := by decide +kernel
theorem dX7_halved_78 : decode cX7_halved 78 = .ok (.iload 8, 2) := by decide +kernel
theorem dX7_halved_80 : decode cX7_halved 80 = .ok (.iconst 1, 1) := by decide +kernel
theorem dX7_halved_81 : decode cX7_halved 81 = .ok (.if_icmp .le 28, 3) := by decide +kernel
theorem dX7_halved_84 : decode cX7_halved 84 = .ok (.lconst 1, 1) := by decide +kernel
theorem dX7_halved_85 : decode cX7_halved 85 = .ok (.bipush 8, 2) := by decide +kernel
theorem dX7_halved_87 : decode cX7_halved 87 = .ok (.iload 7, 2) := by decide +kernel
theorem dX7_halved_89 : decode cX7_halved 89 = .ok (.iconst 4, 1) := by decide +kernel
theorem dX7_halved_90 : decode cX7_halved 90 = .ok (.iload_n 2, 1) := by decide +kernel
theorem dX7_halved_91 : decode cX7_halved 91 = .ok (.iconst 2, 1) := by decide +kernel
theorem dX7_halved_92 : decode cX7_halved 92 = .ok (.idiv, 1) := by decide +kernel
theorem dX7_halved_93 : decode cX7_halved 93 = .ok (.imul, 1) := by decide +kernel
theorem dX7_halved_94 : decode cX7_halved 94 = .ok (.iadd, 1) := by decide +kernel
theorem dX7_halved_95 : decode cX7_halved 95 = .ok (.imul, 1) := by decide +kernel
theorem dX7_halved_96 : decode cX7_halved 96 = .ok (.iload 6, 2) := by decide +kernel
theorem dX7_halved_98 : decode cX7_halved 98 = .ok (.iadd, 1) := by decide +kernel
theorem dX7_halved_99 : decode cX7_halved 99 = .ok (.iconst 4, 1) := by decide +kernel
theorem dX7_halved_100 : decode cX7_halved 100 = .ok (.iload_n 2, 1) := by decide +kernel
theorem dX7_halved_101 : decode cX7_halved 101 = .ok (.iconst 2, 1) := by decide +kernel
theorem dX7_halved_102 : decode cX7_halved 102 = .ok (.irem, 1) := by decide +kernel
theorem dX7_halved_103 : decode cX7_halved 103 = .ok (.imul, 1) := by decide +kernel
theorem dX7_halved_104 : decode cX7_halved 104 = .ok (.iadd, 1) := by decide +kernel
theorem dX7_halved_105 : decode cX7_halved 105 = .ok (.lshl, 1) := by decide +kernel
theorem dX7_halved_106 : decode cX7_halved 106 = .ok (.goto 4, 3) := by decide +kernel
theorem dX7_halved_109 : decode cX7_halved 109 = .ok (.lconst 0, 1) := by decide +kernel
theorem dX7_halved_110 : decode cX7_halved 110 = .ok (.lor, 1) := by decide +kernel
theorem dX7_halved_111 : decode cX7_halved 111 = .ok (.lstore_n 3, 1) := by decide +kernel
theorem dX7_halved_112 : decode cX7_halved 112 = .ok (.iinc 5 1, 3) := by decide +kernel
theorem dX7_halved_115 : decode cX7_halved 115 = .ok (.goto (-110), 3) := by decide +kernel
theorem dX7_halved_118 : decode cX7_halved 118 = .ok (.lload_n 3, 1) := by decide +kernel
theorem dX7_halved_119 : decode cX7_halved 119 = .ok (.lreturn, 1) := by decide +kernel
theorem dX7_grown_0 : decode cX7_grown 0 = .ok (.lconst 0, 1) := by decide +kernel
theorem dX7_grown_1 : decode cX7_grown 1 = .ok (.lstore_n 3, 1) := by decide +kernel
theorem dX7_grown_2 : decode cX7_grown 2 = .ok (.iconst 0, 1) := by decide +kernel
theorem dX7_grown_3 : decode cX7_grown 3 = .ok (.istore 5, 2) := by decide +kernel
theorem dX7_grown_5 : decode cX7_grown 5 = .ok (.iload 5, 2) := by decide +kernel
theorem dX7_grown_7 : decode cX7_grown 7 = .ok (.bipush 64, 2) := by decide +kernel
theorem dX7_grown_9 : decode cX7_grown 9 = .ok (.if_icmp .ge 59, 3) := by decide +kernel
theorem dX7_grown_12 : decode cX7_grown 12 = .ok (.iload 5, 2) := by decide +kernel
theorem dX7_grown_14 : decode cX7_grown 14 = .ok (.bipush 8, 2) := by decide +kernel
theorem dX7_grown_16 : decode cX7_grown 16 = .ok (.irem, 1) := by decide +kernel
theorem dX7_grown_17 : decode cX7_grown 17 = .ok (.iconst 2, 1) := by decide +kernel
theorem dX7_grown_18 : decode cX7_grown 18 = .ok (.idiv, 1) := by decide +kernel
theorem dX7_grown_19 : decode cX7_grown 19 = .ok (.iconst 4, 1) := by decide +kernel
theorem dX7_grown_20 : decode cX7_grown 20 = .ok (.iload_n 2, 1) := by decide +kernel
theorem dX7_grown_21 : decode cX7_grown 21 = .ok (.iconst 2, 1) := by decide +kernel
theorem dX7_grown_22 : decode cX7_grown 22 = .ok (.irem, 1) := by decide +kernel
theorem dX7_grown_23 : decode cX7_grown 23 = .ok (.imul, 1) := by decide +kernel
theorem dX7_grown_24 : decode cX7_grown 24 = .ok (.iadd, 1) := by decide +kernel
theorem dX7_grown_25 : decode cX7_grown 25 = .ok (.istore 6, 2) := by decide +kernel
theorem dX7_grown_27 : decode cX7_grown 27 = .ok (.iload 5, 2) := by decide +kernel
theorem dX7_grown_29 : decode cX7_grown 29 = .ok (.bipush 16, 2) := by decide +kernel
theorem dX7_grown_31 : decode cX7_grown 31 = .ok (.idiv, 1) := by decide +kernel
theorem dX7_grown_32 : decode cX7_grown 32 = .ok (.iconst 4, 1) := by decide +kernel
theorem dX7_grown_33 : decode cX7_grown 33 = .ok (.iload_n 2, 1) := by decide +kernel
theorem dX7_grown_34 : decode cX7_grown 34 = .ok (.iconst 2, 1) := by decide +kernel
theorem dX7_grown_35 : decode cX7_grown 35 = .ok (.idiv, 1) := by decide +kernel
theorem dX7_grown_36 : decode cX7_grown 36 = .ok (.imul, 1) := by decide +kernel
theorem dX7_grown_37 : decode cX7_grown 37 = .ok (.iadd, 1) := by decide +kernel
theorem dX7_grown_38 : decode cX7_grown 38 = .ok (.istore 7, 2) := by decide +kernel
theorem dX7_grown_40 : decode cX7_grown 40 = .ok (.lload_n 3, 1) := by decide +kernel
theorem dX7_grown_41 : decode cX7_grown 41 = .ok (.lload_n 0, 1) := by decide +kernel
theorem dX7_grown_42 : decode cX7_grown 42 = .ok (.iload 6, 2) := by decide +kernel
theorem dX7_grown_44 : decode cX7_grown 44 = .ok (.iload 7, 2) := by decide +kernel
theorem dX7_grown_46 : decode cX7_grown 46 = .ok (.invokestatic 96, 3) := by decide +kernel
theorem dX7_grown_49 : decode cX7_grown 49 = .ok (.ifCond .eq 10, 3) := by decide +kernel
theorem dX7_grown_52 : decode cX7_grown 52 = .ok (.lconst 1, 1) := by decide +kernel
theorem dX7_grown_53 : decode cX7_grown 53 = .ok (.iload 5, 2) := by decide +kernel
theorem dX7_grown_55 : decode cX7_grown 55 = .ok (.lshl, 1) := by decide +kernel
theorem dX7_grown_56 : decode cX7_grown 56 = .ok (.goto 4, 3) := by decide +kernel
theorem dX7_grown_59 : decode cX7_grown 59 = .ok (.lconst 0, 1) := by decide +kernel
theorem dX7_grown_60 : decode cX7_grown 60 = .ok (.lor, 1) := by decide +kernel
theorem dX7_grown_61 : decode cX7_grown 61 = .ok (.lstore_n 3, 1) := by decide +kernel
theorem dX7_grown_62 : decode cX7_grown 62 = .ok (.iinc 5 1, 3) := by decide +kernel
theorem dX7_grown_65 : decode cX7_grown 65 = .ok (.goto (-60), 3) := by decide +kernel
theorem dX7_grown_68 : decode cX7_grown 68 = .ok (.lload_n 3, 1) := by decide +kernel
theorem dX7_grown_69 : decode cX7_grown 69 = .ok (.lreturn, 1) := by decide +kernel
theorem dX7_keepAct_0 : decode cX7_keepAct 0 = .ok (.iconst 0, 1) := by decide +kernel
theorem dX7_keepAct_1 : decode cX7_keepAct 1 = .ok (.istore_n 1, 1) := by decide +kernel
theorem dX7_keepAct_2 : decode cX7_keepAct 2 = .ok (.iload_n 1, 1) := by decide +kernel
theorem dX7_keepAct_3 : decode cX7_keepAct 3 = .ok (.iconst 3, 1) := by decide +kernel
theorem dX7_keepAct_4 : decode cX7_keepAct 4 = .ok (.if_icmp .ge 28, 3) := by decide +kernel
theorem dX7_keepAct_7 : decode cX7_keepAct 7 = .ok (.aload_n 0, 1) := by decide +kernel
theorem dX7_keepAct_8 : decode cX7_keepAct 8 = .ok (.getfield 17, 3) := by decide +kernel
theorem dX7_keepAct_11 : decode cX7_keepAct 11 = .ok (.iconst 3, 1) := by decide +kernel
theorem dX7_keepAct_12 : decode cX7_keepAct 12 = .ok (.aload_n 0, 1) := by decide +kernel
theorem dX7_keepAct_13 : decode cX7_keepAct 13 = .ok (.getfield 100, 3) := by decide +kernel
theorem dX7_keepAct_16 : decode cX7_keepAct 16 = .ok (.imul, 1) := by decide +kernel
theorem dX7_keepAct_17 : decode cX7_keepAct 17 = .ok (.iload_n 1, 1) := by decide +kernel
theorem dX7_keepAct_18 : decode cX7_keepAct 18 = .ok (.iadd, 1) := by decide +kernel
theorem dX7_keepAct_19 : decode cX7_keepAct 19 = .ok (.aload_n 0, 1) := by decide +kernel
theorem dX7_keepAct_20 : decode cX7_keepAct 20 = .ok (.getfield 13, 3) := by decide +kernel
theorem dX7_keepAct_23 : decode cX7_keepAct 23 = .ok (.iload_n 1, 1) := by decide +kernel
theorem dX7_keepAct_24 : decode cX7_keepAct 24 = .ok (.laload, 1) := by decide +kernel
theorem dX7_keepAct_25 : decode cX7_keepAct 25 = .ok (.lastore, 1) := by decide +kernel
theorem dX7_keepAct_26 : decode cX7_keepAct 26 = .ok (.iinc 1 1, 3) := by decide +kernel
theorem dX7_keepAct_29 : decode cX7_keepAct 29 = .ok (.goto (-27), 3) := by decide +kernel
theorem dX7_keepAct_32 : decode cX7_keepAct 32 = .ok (.aload_n 0, 1) := by decide +kernel
theorem dX7_keepAct_33 : decode cX7_keepAct 33 = .ok (.aload_n 0, 1) := by decide +kernel
theorem dX7_keepAct_34 : decode cX7_keepAct 34 = .ok (.getfield 100, 3) := by decide +kernel
theorem dX7_keepAct_37 : decode cX7_keepAct 37 = .ok (.iconst 1, 1) := by decide +kernel
theorem dX7_keepAct_38 : decode cX7_keepAct 38 = .ok (.iadd, 1) := by decide +kernel
theorem dX7_keepAct_39 : decode cX7_keepAct 39 = .ok (.bipush 14, 2) := by decide +kernel
theorem dX7_keepAct_41 : decode cX7_keepAct 41 = .ok (.irem, 1) := by decide +kernel
theorem dX7_keepAct_42 : decode cX7_keepAct 42 = .ok (.putfield 100, 3) := by decide +kernel
theorem dX7_keepAct_45 : decode cX7_keepAct 45 = .ok (.aload_n 0, 1) := by decide +kernel
theorem dX7_keepAct_46 : decode cX7_keepAct 46 = .ok (.aload_n 0, 1) := by decide +kernel
theorem dX7_keepAct_47 : decode cX7_keepAct 47 = .ok (.getfield 103, 3) := by decide +kernel
theorem dX7_keepAct_50 : decode cX7_keepAct 50 = .ok (.bipush 14, 2) := by decide +kernel
theorem dX7_keepAct_52 : decode cX7_keepAct 52 = .ok (.if_icmp .ge 12, 3) := by decide +kernel
theorem dX7_keepAct_55 : decode cX7_keepAct 55 = .ok (.aload_n 0, 1) := by decide +kernel
theorem dX7_keepAct_56 : decode cX7_keepAct 56 = .ok (.getfield 103, 3) := by decide +kernel
theorem dX7_keepAct_59 : decode cX7_keepAct 59 = .ok (.iconst 1, 1) := by decide +kernel
theorem dX7_keepAct_60 : decode cX7_keepAct 60 = .ok (.iadd, 1) := by decide +kernel
theorem dX7_keepAct_61 : decode cX7_keepAct 61 = .ok (.goto 5, 3) := by decide +kernel
theorem dX7_keepAct_64 : decode cX7_keepAct 64 = .ok (.bipush 14, 2) := by decide +kernel
theorem dX7_keepAct_66 : decode cX7_keepAct 66 = .ok (.putfield 103, 3) := by decide +kernel
theorem dX7_keepAct_69 : decode cX7_keepAct 69 = .ok (.return_, 1) := by decide +kernel
theorem dX7_put_0 : decode cX7_put 0 = .ok (.iload_n 1, 1) := by decide +kernel
theorem dX7_put_1 : decode cX7_put 1 = .ok (.invokestatic 106, 3) := by decide +kernel
theorem dX7_put_4 : decode cX7_put 4 = .ok (.ifCond .ne 5, 3) := by decide +kernel
theorem dX7_put_7 : decode cX7_put 7 = .ok (.iconst (-1), 1) := by decide +kernel
theorem dX7_put_8 : decode cX7_put 8 = .ok (.ireturn, 1) := by decide +kernel
theorem dX7_put_9 : decode cX7_put 9 = .ok (.aload_n 0, 1) := by decide +kernel
theorem dX7_put_10 : decode cX7_put 10 = .ok (.invokevirtual 92, 3) := by decide +kernel
theorem dX7_put_13 : decode cX7_put 13 = .ok (.bipush (-9), 2) := by decide +kernel
theorem dX7_put_15 : decode cX7_put 15 = .ok (.if_icmp .eq 6, 3) := by decide +kernel
theorem dX7_put_18 : decode cX7_put 18 = .ok (.bipush (-3), 2) := by decide +kernel
theorem dX7_put_20 : decode cX7_put 20 = .ok (.ireturn, 1) := by decide +kernel
theorem dX7_put_21 : decode cX7_put 21 = .ok (.aload_n 0, 1) := by decide +kernel
theorem dX7_put_22 : decode cX7_put 22 = .ok (.invokevirtual 109, 3) := by decide +kernel
theorem dX7_put_25 : decode cX7_put 25 = .ok (.aload_n 0, 1) := by decide +kernel
theorem dX7_put_26 : decode cX7_put 26 = .ok (.getfield 13, 3) := by decide +kernel
theorem dX7_put_29 : decode cX7_put 29 = .ok (.iload_n 1, 1) := by decide +kernel
theorem dX7_put_30 : decode cX7_put 30 = .ok (.aload_n 0, 1) := by decide +kernel
theorem dX7_put_31 : decode cX7_put 31 = .ok (.getfield 79, 3) := by decide +kernel
theorem dX7_put_34 : decode cX7_put 34 = .ok (.lastore, 1) := by decide +kernel
theorem dX7_put_35 : decode cX7_put 35 = .ok (.aload_n 0, 1) := by decide +kernel
theorem dX7_put_36 : decode cX7_put 36 = .ok (.getfield 79, 3) := by decide +kernel
theorem dX7_put_39 : decode cX7_put 39 = .ok (.invokestatic 112, 3) := by decide +kernel
theorem dX7_put_42 : decode cX7_put 42 = .ok (.ireturn, 1) := by decide +kernel
theorem dX7_mixOn_0 : decode cX7_mixOn 0 = .ok (.aload_n 0, 1) := by decide +kernel
theorem dX7_mixOn_1 : decode cX7_mixOn 1 = .ok (.getfield 13, 3) := by decide +kernel
theorem dX7_mixOn_4 : decode cX7_mixOn 4 = .ok (.iconst 3, 1) := by decide +kernel
theorem dX7_mixOn_5 : decode cX7_mixOn 5 = .ok (.iload_n 1, 1) := by decide +kernel
theorem dX7_mixOn_6 : decode cX7_mixOn 6 = .ok (.imul, 1) := by decide +kernel
theorem dX7_mixOn_7 : decode cX7_mixOn 7 = .ok (.iload_n 3, 1) := by decide +kernel
theorem dX7_mixOn_8 : decode cX7_mixOn 8 = .ok (.iadd, 1) := by decide +kernel
theorem dX7_mixOn_9 : decode cX7_mixOn 9 = .ok (.laload, 1) := by decide +kernel
theorem dX7_mixOn_10 : decode cX7_mixOn 10 = .ok (.lstore 5, 2) := by decide +kernel
theorem dX7_mixOn_12 : decode cX7_mixOn 12 = .ok (.aload_n 0, 1) := by decide +kernel
theorem dX7_mixOn_13 : decode cX7_mixOn 13 = .ok (.getfield 13, 3) := by decide +kernel
theorem dX7_mixOn_16 : decode cX7_mixOn 16 = .ok (.iconst 3, 1) := by decide +kernel
theorem dX7_mixOn_17 : decode cX7_mixOn 17 = .ok (.iload_n 1, 1) := by decide +kernel
theorem dX7_mixOn_18 : decode cX7_mixOn 18 = .ok (.imul, 1) := by decide +kernel
theorem dX7_mixOn_19 : decode cX7_mixOn 19 = .ok (.iload 4, 2) := by decide +kernel
theorem dX7_mixOn_21 : decode cX7_mixOn 21 = .ok (.iadd, 1) := by decide +kernel
theorem dX7_mixOn_22 : decode cX7_mixOn 22 = .ok (.laload, 1) := by decide +kernel
theorem dX7_mixOn_23 : decode cX7_mixOn 23 = .ok (.lstore 7, 2) := by decide +kernel
theorem dX7_mixOn_25 : decode cX7_mixOn 25 = .ok (.aload_n 0, 1) := by decide +kernel
theorem dX7_mixOn_26 : decode cX7_mixOn 26 = .ok (.getfield 13, 3) := by decide +kernel
theorem dX7_mixOn_29 : decode cX7_mixOn 29 = .ok (.iconst 3, 1) := by decide +kernel
theorem dX7_mixOn_30 : decode cX7_mixOn 30 = .ok (.iload_n 1, 1) := by decide +kernel
theorem dX7_mixOn_31 : decode cX7_mixOn 31 = .ok (.imul, 1) := by decide +kernel
theorem dX7_mixOn_32 : decode cX7_mixOn 32 = .ok (.iload_n 3, 1) := by decide +kernel
theorem dX7_mixOn_33 : decode cX7_mixOn 33 = .ok (.iadd, 1) := by decide +kernel
theorem dX7_mixOn_34 : decode cX7_mixOn 34 = .ok (.iload_n 2, 1) := by decide +kernel
theorem dX7_mixOn_35 : decode cX7_mixOn 35 = .ok (.ifCond .ne 11, 3) := by decide +kernel
theorem dX7_mixOn_38 : decode cX7_mixOn 38 = .ok (.lload 5, 2) := by decide +kernel
theorem dX7_mixOn_40 : decode cX7_mixOn 40 = .ok (.lload 7, 2) := by decide +kernel
theorem dX7_mixOn_42 : decode cX7_mixOn 42 = .ok (.lor, 1) := by decide +kernel
theorem dX7_mixOn_43 : decode cX7_mixOn 43 = .ok (.goto 25, 3) := by decide +kernel
theorem dX7_mixOn_46 : decode cX7_mixOn 46 = .ok (.iload_n 2, 1) := by decide +kernel
theorem dX7_mixOn_47 : decode cX7_mixOn 47 = .ok (.iconst 1, 1) := by decide +kernel
theorem dX7_mixOn_48 : decode cX7_mixOn 48 = .ok (.if_icmp .ne 11, 3) := by decide +kernel
theorem dX7_mixOn_51 : decode cX7_mixOn 51 = .ok (.lload 5, 2) := by decide +kernel
theorem dX7_mixOn_53 : decode cX7_mixOn 53 = .ok (.lload 7, 2) := by decide +kernel
theorem dX7_mixOn_55 : decode cX7_mixOn 55 = .ok (.land, 1) := by decide +kernel
theorem dX7_mixOn_56 : decode cX7_mixOn 56 = .ok (.goto 12, 3) := by decide +kernel
theorem dX7_mixOn_59 : decode cX7_mixOn 59 = .ok (.lload 5, 2) := by decide +kernel
theorem dX7_mixOn_61 : decode cX7_mixOn 61 = .ok (.lload 7, 2) := by decide +kernel
theorem dX7_mixOn_63 : decode cX7_mixOn 63 = .ok (.ldc2_w 116, 3) := by decide +kernel
theorem dX7_mixOn_66 : decode cX7_mixOn 66 = .ok (.lxor, 1) := by decide +kernel
theorem dX7_mixOn_67 : decode cX7_mixOn 67 = .ok (.land, 1) := by decide +kernel
theorem dX7_mixOn_68 : decode cX7_mixOn 68 = .ok (.lastore, 1) := by decide +kernel
theorem dX7_mixOn_69 : decode cX7_mixOn 69 = .ok (.return_, 1) := by decide +kernel
theorem dX7_mix_0 : decode cX7_mix 0 = .ok (.iload_n 2, 1) := by decide +kernel
theorem dX7_mix_1 : decode cX7_mix 1 = .ok (.invokestatic 106, 3) := by decide +kernel
theorem dX7_mix_4 : decode cX7_mix 4 = .ok (.ifCond .eq 10, 3) := by decide +kernel
theorem dX7_mix_7 : decode cX7_mix 7 = .ok (.iload_n 3, 1) := by decide +kernel
theorem dX7_mix_8 : decode cX7_mix 8 = .ok (.invokestatic 106, 3) := by decide +kernel
theorem dX7_mix_11 : decode cX7_mix 11 = .ok (.ifCond .ne 5, 3) := by decide +kernel
theorem dX7_mix_14 : decode cX7_mix 14 = .ok (.iconst (-1), 1) := by decide +kernel
theorem dX7_mix_15 : decode cX7_mix 15 = .ok (.ireturn, 1) := by decide +kernel
theorem dX7_mix_16 : decode cX7_mix 16 = .ok (.iload_n 2, 1) := by decide +kernel
theorem dX7_mix_17 : decode cX7_mix 17 = .ok (.iload_n 3, 1) := by decide +kernel
theorem dX7_mix_18 : decode cX7_mix 18 = .ok (.if_icmp .ne 6, 3) := by decide +kernel
theorem dX7_mix_21 : decode cX7_mix 21 = .ok (.bipush (-2), 2) := by decide +kernel
theorem dX7_mix_23 : decode cX7_mix 23 = .ok (.ireturn, 1) := by decide +kernel
theorem dX7_mix_24 : decode cX7_mix 24 = .ok (.aload_n 0, 1) := by decide +kernel
theorem dX7_mix_25 : decode cX7_mix 25 = .ok (.invokevirtual 109, 3) := by decide +kernel
theorem dX7_mix_28 : decode cX7_mix 28 = .ok (.aload_n 0, 1) := by decide +kernel
theorem dX7_mix_29 : decode cX7_mix 29 = .ok (.iconst 0, 1) := by decide +kernel
theorem dX7_mix_30 : decode cX7_mix 30 = .ok (.iload_n 1, 1) := by decide +kernel
theorem dX7_mix_31 : decode cX7_mix 31 = .ok (.iload_n 2, 1) := by decide +kernel
theorem dX7_mix_32 : decode cX7_mix 32 = .ok (.iload_n 3, 1) := by decide +kernel
theorem dX7_mix_33 : decode cX7_mix 33 = .ok (.invokevirtual 118, 3) := by decide +kernel
theorem dX7_mix_36 : decode cX7_mix 36 = .ok (.aload_n 0, 1) := by decide +kernel
theorem dX7_mix_37 : decode cX7_mix 37 = .ok (.getfield 13, 3) := by decide +kernel
theorem dX7_mix_40 : decode cX7_mix 40 = .ok (.iload_n 2, 1) := by decide +kernel
theorem dX7_mix_41 : decode cX7_mix 41 = .ok (.laload, 1) := by decide +kernel
theorem dX7_mix_42 : decode cX7_mix 42 = .ok (.invokestatic 112, 3) := by decide +kernel
theorem dX7_mix_45 : decode cX7_mix 45 = .ok (.ireturn, 1) := by decide +kernel
theorem dX7_join_0 : decode cX7_join 0 = .ok (.aload_n 0, 1) := by decide +kernel
theorem dX7_join_1 : decode cX7_join 1 = .ok (.iconst 0, 1) := by decide +kernel
theorem dX7_join_2 : decode cX7_join 2 = .ok (.iload_n 1, 1) := by decide +kernel
theorem dX7_join_3 : decode cX7_join 3 = .ok (.iload_n 2, 1) := by decide +kernel
theorem dX7_join_4 : decode cX7_join 4 = .ok (.invokevirtual 122, 3) := by decide +kernel
theorem dX7_join_7 : decode cX7_join 7 = .ok (.ireturn, 1) := by decide +kernel
theorem dX7_meet_0 : decode cX7_meet 0 = .ok (.aload_n 0, 1) := by decide +kernel
theorem dX7_meet_1 : decode cX7_meet 1 = .ok (.iconst 1, 1) := by decide +kernel
theorem dX7_meet_2 : decode cX7_meet 2 = .ok (.iload_n 1, 1) := by decide +kernel
theorem dX7_meet_3 : decode cX7_meet 3 = .ok (.iload_n 2, 1) := by decide +kernel
theorem dX7_meet_4 : decode cX7_meet 4 = .ok (.invokevirtual 122, 3) := by decide +kernel
theorem dX7_meet_7 : decode cX7_meet 7 = .ok (.ireturn, 1) := by decide +kernel
theorem dX7_less_0 : decode cX7_less 0 = .ok (.aload_n 0, 1) := by decide +kernel
theorem dX7_less_1 : decode cX7_less 1 = .ok (.iconst 2, 1) := by decide +kernel
theorem dX7_less_2 : decode cX7_less 2 = .ok (.iload_n 1, 1) := by decide +kernel
theorem dX7_less_3 : decode cX7_less 3 = .ok (.iload_n 2, 1) := by decide +kernel
theorem dX7_less_4 : decode cX7_less 4 = .ok (.invokevirtual 122, 3) := by decide +kernel
theorem dX7_less_7 : decode cX7_less 7 = .ok (.ireturn, 1) := by decide +kernel
theorem dX7_turn_0 : decode cX7_turn 0 = .ok (.iload_n 1, 1) := by decide +kernel
theorem dX7_turn_1 : decode cX7_turn 1 = .ok (.invokestatic 106, 3) := by decide +kernel
theorem dX7_turn_4 : decode cX7_turn 4 = .ok (.ifCond .ne 5, 3) := by decide +kernel
theorem dX7_turn_7 : decode cX7_turn 7 = .ok (.iconst (-1), 1) := by decide +kernel
theorem dX7_turn_8 : decode cX7_turn 8 = .ok (.ireturn, 1) := by decide +kernel
theorem dX7_turn_9 : decode cX7_turn 9 = .ok (.aload_n 0, 1) := by decide +kernel
theorem dX7_turn_10 : decode cX7_turn 10 = .ok (.invokevirtual 109, 3) := by decide +kernel
theorem dX7_turn_13 : decode cX7_turn 13 = .ok (.aload_n 0, 1) := by decide +kernel
theorem dX7_turn_14 : decode cX7_turn 14 = .ok (.getfield 13, 3) := by decide +kernel
theorem dX7_turn_17 : decode cX7_turn 17 = .ok (.iload_n 1, 1) := by decide +kernel
theorem dX7_turn_18 : decode cX7_turn 18 = .ok (.aload_n 0, 1) := by decide +kernel
theorem dX7_turn_19 : decode cX7_turn 19 = .ok (.getfield 13, 3) := by decide +kernel
theorem dX7_turn_22 : decode cX7_turn 22 = .ok (.iload_n 1, 1) := by decide +kernel
theorem dX7_turn_23 : decode cX7_turn 23 = .ok (.laload, 1) := by decide +kernel
theorem dX7_turn_24 : decode cX7_turn 24 = .ok (.invokestatic 126, 3) := by decide +kernel
theorem dX7_turn_27 : decode cX7_turn 27 = .ok (.lastore, 1) := by decide +kernel
theorem dX7_turn_28 : decode cX7_turn 28 = .ok (.aload_n 0, 1) := by decide +kernel
theorem dX7_turn_29 : decode cX7_turn 29 = .ok (.getfield 13, 3) := by decide +kernel
theorem dX7_turn_32 : decode cX7_turn 32 = .ok (.iload_n 1, 1) := by decide +kernel
theorem dX7_turn_33 : decode cX7_turn 33 = .ok (.laload, 1) := by decide +kernel
theorem dX7_turn_34 : decode cX7_turn 34 = .ok (.ldc2_w 67, 3) := by decide +kernel
theorem dX7_turn_37 : decode cX7_turn 37 = .ok (.land, 1) := by decide +kernel
theorem dX7_turn_38 : decode cX7_turn 38 = .ok (.l2i, 1) := by decide +kernel
theorem dX7_turn_39 : decode cX7_turn 39 = .ok (.ireturn, 1) := by decide +kernel
theorem dX7_flip_0 : decode cX7_flip 0 = .ok (.iload_n 1, 1) := by decide +kernel
theorem dX7_flip_1 : decode cX7_flip 1 = .ok (.invokestatic 106, 3) := by decide +kernel
theorem dX7_flip_4 : decode cX7_flip 4 = .ok (.ifCond .ne 5, 3) := by decide +kernel
theorem dX7_flip_7 : decode cX7_flip 7 = .ok (.iconst (-1), 1) := by decide +kernel
theorem dX7_flip_8 : decode cX7_flip 8 = .ok (.ireturn, 1) := by decide +kernel
theorem dX7_flip_9 : decode cX7_flip 9 = .ok (.aload_n 0, 1) := by decide +kernel
theorem dX7_flip_10 : decode cX7_flip 10 = .ok (.invokevirtual 109, 3) := by decide +kernel
theorem dX7_flip_13 : decode cX7_flip 13 = .ok (.aload_n 0, 1) := by decide +kernel
theorem dX7_flip_14 : decode cX7_flip 14 = .ok (.getfield 13, 3) := by decide +kernel
theorem dX7_flip_17 : decode cX7_flip 17 = .ok (.iload_n 1, 1) := by decide +kernel
theorem dX7_flip_18 : decode cX7_flip 18 = .ok (.aload_n 0, 1) := by decide +kernel
theorem dX7_flip_19 : decode cX7_flip 19 = .ok (.getfield 13, 3) := by decide +kernel
theorem dX7_flip_22 : decode cX7_flip 22 = .ok (.iload_n 1, 1) := by decide +kernel
theorem dX7_flip_23 : decode cX7_flip 23 = .ok (.laload, 1) := by decide +kernel
theorem dX7_flip_24 : decode cX7_flip 24 = .ok (.invokestatic 130, 3) := by decide +kernel
theorem dX7_flip_27 : decode cX7_flip 27 = .ok (.lastore, 1) := by decide +kernel
theorem dX7_flip_28 : decode cX7_flip 28 = .ok (.aload_n 0, 1) := by decide +kernel
theorem dX7_flip_29 : decode cX7_flip 29 = .ok (.getfield 13, 3) := by decide +kernel
theorem dX7_flip_32 : decode cX7_flip 32 = .ok (.iload_n 1, 1) := by decide +kernel
theorem dX7_flip_33 : decode cX7_flip 33 = .ok (.laload, 1) := by decide +kernel
theorem dX7_flip_34 : decode cX7_flip 34 = .ok (.ldc2_w 67, 3) := by decide +kernel
theorem dX7_flip_37 : decode cX7_flip 37 = .ok (.land, 1) := by decide +kernel
theorem dX7_flip_38 : decode cX7_flip 38 = .ok (.l2i, 1) := by decide +kernel
theorem dX7_flip_39 : decode cX7_flip 39 = .ok (.ireturn, 1) := by decide +kernel
theorem dX7_halve_0 : decode cX7_halve 0 = .ok (.iload_n 1, 1) := by decide +kernel
theorem dX7_halve_1 : decode cX7_halve 1 = .ok (.invokestatic 106, 3) := by decide +kernel
theorem dX7_halve_4 : decode cX7_halve 4 = .ok (.ifCond .eq 15, 3) := by decide +kernel
theorem dX7_halve_7 : decode cX7_halve 7 = .ok (.iload_n 2, 1) := by decide +kernel
theorem dX7_halve_8 : decode cX7_halve 8 = .ok (.i2l, 1) := by decide +kernel
theorem dX7_halve_9 : decode cX7_halve 9 = .ok (.lconst 0, 1) := by decide +kernel
theorem dX7_halve_10 : decode cX7_halve 10 = .ok (.ldc2_w 133, 3) := by decide +kernel
theorem dX7_halve_13 : decode cX7_halve 13 = .ok (.invokestatic 44, 3) := by decide +kernel
theorem dX7_halve_16 : decode cX7_halve 16 = .ok (.ifCond .ne 5, 3) := by decide +kernel
theorem dX7_halve_19 : decode cX7_halve 19 = .ok (.iconst (-1), 1) := by decide +kernel
theorem dX7_halve_20 : decode cX7_halve 20 = .ok (.ireturn, 1) := by decide +kernel
theorem dX7_halve_21 : decode cX7_halve 21 = .ok (.aload_n 0, 1) := by decide +kernel
theorem dX7_halve_22 : decode cX7_halve 22 = .ok (.invokevirtual 109, 3) := by decide +kernel
theorem dX7_halve_25 : decode cX7_halve 25 = .ok (.aload_n 0, 1) := by decide +kernel
theorem dX7_halve_26 : decode cX7_halve 26 = .ok (.getfield 13, 3) := by decide +kernel
theorem dX7_halve_29 : decode cX7_halve 29 = .ok (.iload_n 1, 1) := by decide +kernel
theorem dX7_halve_30 : decode cX7_halve 30 = .ok (.aload_n 0, 1) := by decide +kernel
theorem dX7_halve_31 : decode cX7_halve 31 = .ok (.getfield 13, 3) := by decide +kernel
theorem dX7_halve_34 : decode cX7_halve 34 = .ok (.iload_n 1, 1) := by decide +kernel
theorem dX7_halve_35 : decode cX7_halve 35 = .ok (.laload, 1) := by decide +kernel
theorem dX7_halve_36 : decode cX7_halve 36 = .ok (.iload_n 2, 1) := by decide +kernel
theorem dX7_halve_37 : decode cX7_halve 37 = .ok (.invokestatic 135, 3) := by decide +kernel
theorem dX7_halve_40 : decode cX7_halve 40 = .ok (.lastore, 1) := by decide +kernel
theorem dX7_halve_41 : decode cX7_halve 41 = .ok (.aload_n 0, 1) := by decide +kernel
theorem dX7_halve_42 : decode cX7_halve 42 = .ok (.getfield 13, 3) := by decide +kernel
theorem dX7_halve_45 : decode cX7_halve 45 = .ok (.iload_n 1, 1) := by decide +kernel
theorem dX7_halve_46 : decode cX7_halve 46 = .ok (.laload, 1) := by decide +kernel
theorem dX7_halve_47 : decode cX7_halve 47 = .ok (.invokestatic 112, 3) := by decide +kernel
theorem dX7_halve_50 : decode cX7_halve 50 = .ok (.ireturn, 1) := by decide +kernel
theorem dX7_grow_0 : decode cX7_grow 0 = .ok (.iload_n 1, 1) := by decide +kernel
theorem dX7_grow_1 : decode cX7_grow 1 = .ok (.invokestatic 106, 3) := by decide +kernel
theorem dX7_grow_4 : decode cX7_grow 4 = .ok (.ifCond .eq 15, 3) := by decide +kernel
theorem dX7_grow_7 : decode cX7_grow 7 = .ok (.iload_n 2, 1) := by decide +kernel
theorem dX7_grow_8 : decode cX7_grow 8 = .ok (.i2l, 1) := by decide +kernel
theorem dX7_grow_9 : decode cX7_grow 9 = .ok (.lconst 0, 1) := by decide +kernel
theorem dX7_grow_10 : decode cX7_grow 10 = .ok (.ldc2_w 133, 3) := by decide +kernel
theorem dX7_grow_13 : decode cX7_grow 13 = .ok (.invokestatic 44, 3) := by decide +kernel
theorem dX7_grow_16 : decode cX7_grow 16 = .ok (.ifCond .ne 5, 3) := by decide +kernel
theorem dX7_grow_19 : decode cX7_grow 19 = .ok (.iconst (-1), 1) := by decide +kernel
theorem dX7_grow_20 : decode cX7_grow 20 = .ok (.ireturn, 1) := by decide +kernel
theorem dX7_grow_21 : decode cX7_grow 21 = .ok (.aload_n 0, 1) := by decide +kernel
theorem dX7_grow_22 : decode cX7_grow 22 = .ok (.invokevirtual 109, 3) := by decide +kernel
theorem dX7_grow_25 : decode cX7_grow 25 = .ok (.aload_n 0, 1) := by decide +kernel
theorem dX7_grow_26 : decode cX7_grow 26 = .ok (.getfield 13, 3) := by decide +kernel
theorem dX7_grow_29 : decode cX7_grow 29 = .ok (.iload_n 1, 1) := by decide +kernel
theorem dX7_grow_30 : decode cX7_grow 30 = .ok (.aload_n 0, 1) := by decide +kernel
theorem dX7_grow_31 : decode cX7_grow 31 = .ok (.getfield 13, 3) := by decide +kernel
theorem dX7_grow_34 : decode cX7_grow 34 = .ok (.iload_n 1, 1) := by decide +kernel
theorem dX7_grow_35 : decode cX7_grow 35 = .ok (.laload, 1) := by decide +kernel
theorem dX7_grow_36 : decode cX7_grow 36 = .ok (.iload_n 2, 1) := by decide +kernel
theorem dX7_grow_37 : decode cX7_grow 37 = .ok (.invokestatic 139, 3) := by decide +kernel
theorem dX7_grow_40 : decode cX7_grow 40 = .ok (.lastore, 1) := by decide +kernel
theorem dX7_grow_41 : decode cX7_grow 41 = .ok (.aload_n 0, 1) := by decide +kernel
theorem dX7_grow_42 : decode cX7_grow 42 = .ok (.getfield 13, 3) := by decide +kernel
theorem dX7_grow_45 : decode cX7_grow 45 = .ok (.iload_n 1, 1) := by decide +kernel
theorem dX7_grow_46 : decode cX7_grow 46 = .ok (.laload, 1) := by decide +kernel
theorem dX7_grow_47 : decode cX7_grow 47 = .ok (.invokestatic 112, 3) := by decide +kernel
theorem dX7_grow_50 : decode cX7_grow 50 = .ok (.ireturn, 1) := by decide +kernel
theorem dX7_undo_0 : decode cX7_undo 0 = .ok (.aload_n 0, 1) := by decide +kernel
theorem dX7_undo_1 : decode cX7_undo 1 = .ok (.getfield 103, 3) := by decide +kernel
theorem dX7_undo_4 : decode cX7_undo 4 = .ok (.ifCond .ne 6, 3) := by decide +kernel
theorem dX7_undo_7 : decode cX7_undo 7 = .ok (.bipush (-3), 2) := by decide +kernel
theorem dX7_undo_9 : decode cX7_undo 9 = .ok (.ireturn, 1) := by decide +kernel
theorem dX7_undo_10 : decode cX7_undo 10 = .ok (.aload_n 0, 1) := by decide +kernel
theorem dX7_undo_11 : decode cX7_undo 11 = .ok (.dup, 1) := by decide +kernel
theorem dX7_undo_12 : decode cX7_undo 12 = .ok (.getfield 103, 3) := by decide +kernel
theorem dX7_undo_15 : decode cX7_undo 15 = .ok (.iconst 1, 1) := by decide +kernel
theorem dX7_undo_16 : decode cX7_undo 16 = .ok (.isub, 1) := by decide +kernel
theorem dX7_undo_17 : decode cX7_undo 17 = .ok (.putfield 103, 3) := by decide +kernel
theorem dX7_undo_20 : decode cX7_undo 20 = .ok (.aload_n 0, 1) := by decide +kernel
theorem dX7_undo_21 : decode cX7_undo 21 = .ok (.aload_n 0, 1) := by decide +kernel
theorem dX7_undo_22 : decode cX7_undo 22 = .ok (.getfield 100, 3) := by decide +kernel
theorem dX7_undo_25 : decode cX7_undo 25 = .ok (.bipush 13, 2) := by decide +kernel
theorem dX7_undo_27 : decode cX7_undo 27 = .ok (.iadd, 1) := by decide +kernel
theorem dX7_undo_28 : decode cX7_undo 28 = .ok (.bipush 14, 2) := by decide +kernel
theorem dX7_undo_30 : decode cX7_undo 30 = .ok (.irem, 1) := by decide +kernel
theorem dX7_undo_31 : decode cX7_undo 31 = .ok (.putfield 100, 3) := by decide +kernel
theorem dX7_undo_34 : decode cX7_undo 34 = .ok (.iconst 0, 1) := by decide +kernel
theorem dX7_undo_35 : decode cX7_undo 35 = .ok (.istore_n 1, 1) := by decide +kernel
theorem dX7_undo_36 : decode cX7_undo 36 = .ok (.iload_n 1, 1) := by decide +kernel
theorem dX7_undo_37 : decode cX7_undo 37 = .ok (.iconst 3, 1) := by decide +kernel
theorem dX7_undo_38 : decode cX7_undo 38 = .ok (.if_icmp .ge 28, 3) := by decide +kernel
theorem dX7_undo_41 : decode cX7_undo 41 = .ok (.aload_n 0, 1) := by decide +kernel
theorem dX7_undo_42 : decode cX7_undo 42 = .ok (.getfield 13, 3) := by decide +kernel
theorem dX7_undo_45 : decode cX7_undo 45 = .ok (.iload_n 1, 1) := by decide +kernel
theorem dX7_undo_46 : decode cX7_undo 46 = .ok (.aload_n 0, 1) := by decide +kernel
theorem dX7_undo_47 : decode cX7_undo 47 = .ok (.getfield 17, 3) := by decide +kernel
theorem dX7_undo_50 : decode cX7_undo 50 = .ok (.iconst 3, 1) := by decide +kernel
theorem dX7_undo_51 : decode cX7_undo 51 = .ok (.aload_n 0, 1) := by decide +kernel
theorem dX7_undo_52 : decode cX7_undo 52 = .ok (.getfield 100, 3) := by decide +kernel
theorem dX7_undo_55 : decode cX7_undo 55 = .ok (.imul, 1) := by decide +kernel
theorem dX7_undo_56 : decode cX7_undo 56 = .ok (.iload_n 1, 1) := by decide +kernel
theorem dX7_undo_57 : decode cX7_undo 57 = .ok (.iadd, 1) := by decide +kernel
theorem dX7_undo_58 : decode cX7_undo 58 = .ok (.laload, 1) := by decide +kernel
theorem dX7_undo_59 : decode cX7_undo 59 = .ok (.lastore, 1) := by decide +kernel
theorem dX7_undo_60 : decode cX7_undo 60 = .ok (.iinc 1 1, 3) := by decide +kernel
theorem dX7_undo_63 : decode cX7_undo 63 = .ok (.goto (-27), 3) := by decide +kernel
theorem dX7_undo_66 : decode cX7_undo 66 = .ok (.aload_n 0, 1) := by decide +kernel
theorem dX7_undo_67 : decode cX7_undo 67 = .ok (.getfield 103, 3) := by decide +kernel
theorem dX7_undo_70 : decode cX7_undo 70 = .ok (.ireturn, 1) := by decide +kernel
theorem dX7_black_0 : decode cX7_black 0 = .ok (.iload_n 1, 1) := by decide +kernel
theorem dX7_black_1 : decode cX7_black 1 = .ok (.invokestatic 106, 3) := by decide +kernel
theorem dX7_black_4 : decode cX7_black 4 = .ok (.ifCond .eq 12, 3) := by decide +kernel
theorem dX7_black_7 : decode cX7_black 7 = .ok (.aload_n 0, 1) := by decide +kernel
theorem dX7_black_8 : decode cX7_black 8 = .ok (.getfield 13, 3) := by decide +kernel
theorem dX7_black_11 : decode cX7_black 11 = .ok (.iload_n 1, 1) := by decide +kernel
theorem dX7_black_12 : decode cX7_black 12 = .ok (.laload, 1) := by decide +kernel
theorem dX7_black_13 : decode cX7_black 13 = .ok (.goto 4, 3) := by decide +kernel
theorem dX7_black_16 : decode cX7_black 16 = .ok (.lconst 0, 1) := by decide +kernel
theorem dX7_black_17 : decode cX7_black 17 = .ok (.lreturn, 1) := by decide +kernel
theorem dX7_leafOf_0 : decode cX7_leafOf 0 = .ok (.lload_n 1, 1) := by decide +kernel
theorem dX7_leafOf_1 : decode cX7_leafOf 1 = .ok (.aload_n 0, 1) := by decide +kernel
theorem dX7_leafOf_2 : decode cX7_leafOf 2 = .ok (.getfield 73, 3) := by decide +kernel
theorem dX7_leafOf_5 : decode cX7_leafOf 5 = .ok (.aload_n 0, 1) := by decide +kernel
theorem dX7_leafOf_6 : decode cX7_leafOf 6 = .ok (.getfield 76, 3) := by decide +kernel
theorem dX7_leafOf_9 : decode cX7_leafOf 9 = .ok (.invokestatic 142, 3) := by decide +kernel
theorem dX7_leafOf_12 : decode cX7_leafOf 12 = .ok (.land, 1) := by decide +kernel
theorem dX7_leafOf_13 : decode cX7_leafOf 13 = .ok (.lstore_n 3, 1) := by decide +kernel
theorem dX7_leafOf_14 : decode cX7_leafOf 14 = .ok (.lload_n 3, 1) := by decide +kernel
theorem dX7_leafOf_15 : decode cX7_leafOf 15 = .ok (.aload_n 0, 1) := by decide +kernel
theorem dX7_leafOf_16 : decode cX7_leafOf 16 = .ok (.getfield 73, 3) := by decide +kernel
theorem dX7_leafOf_19 : decode cX7_leafOf 19 = .ok (.aload_n 0, 1) := by decide +kernel
theorem dX7_leafOf_20 : decode cX7_leafOf 20 = .ok (.getfield 76, 3) := by decide +kernel
theorem dX7_leafOf_23 : decode cX7_leafOf 23 = .ok (.bipush 98, 2) := by decide +kernel
theorem dX7_leafOf_25 : decode cX7_leafOf 25 = .ok (.invokestatic 52, 3) := by decide +kernel
theorem dX7_leafOf_28 : decode cX7_leafOf 28 = .ok (.lcmp, 1) := by decide +kernel
theorem dX7_leafOf_29 : decode cX7_leafOf 29 = .ok (.ifCond .ne 8, 3) := by decide +kernel
theorem dX7_leafOf_32 : decode cX7_leafOf 32 = .ok (.bipush 98, 2) := by decide +kernel
theorem dX7_leafOf_34 : decode cX7_leafOf 34 = .ok (.goto 62, 3) := by decide +kernel
theorem dX7_leafOf_37 : decode cX7_leafOf 37 = .ok (.lload_n 3, 1) := by decide +kernel
theorem dX7_leafOf_38 : decode cX7_leafOf 38 = .ok (.lconst 0, 1) := by decide +kernel
theorem dX7_leafOf_39 : decode cX7_leafOf 39 = .ok (.lcmp, 1) := by decide +kernel
theorem dX7_leafOf_40 : decode cX7_leafOf 40 = .ok (.ifCond .ne 8, 3) := by decide +kernel
theorem dX7_leafOf_43 : decode cX7_leafOf 43 = .ok (.bipush 119, 2) := by decide +kernel
theorem dX7_leafOf_45 : decode cX7_leafOf 45 = .ok (.goto 51, 3) := by decide +kernel
theorem dX7_leafOf_48 : decode cX7_leafOf 48 = .ok (.lload_n 3, 1) := by decide +kernel
theorem dX7_leafOf_49 : decode cX7_leafOf 49 = .ok (.aload_n 0, 1) := by decide +kernel
theorem dX7_leafOf_50 : decode cX7_leafOf 50 = .ok (.getfield 73, 3) := by decide +kernel
theorem dX7_leafOf_53 : decode cX7_leafOf 53 = .ok (.aload_n 0, 1) := by decide +kernel
theorem dX7_leafOf_54 : decode cX7_leafOf 54 = .ok (.getfield 76, 3) := by decide +kernel
theorem dX7_leafOf_57 : decode cX7_leafOf 57 = .ok (.bipush 103, 2) := by decide +kernel
theorem dX7_leafOf_59 : decode cX7_leafOf 59 = .ok (.invokestatic 52, 3) := by decide +kernel
theorem dX7_leafOf_62 : decode cX7_leafOf 62 = .ok (.lcmp, 1) := by decide +kernel
theorem dX7_leafOf_63 : decode cX7_leafOf 63 = .ok (.ifCond .ne 8, 3) := by decide +kernel
theorem dX7_leafOf_66 : decode cX7_leafOf 66 = .ok (.bipush 103, 2) := by decide +kernel
theorem dX7_leafOf_68 : decode cX7_leafOf 68 = .ok (.goto 28, 3) := by decide +kernel
theorem dX7_leafOf_71 : decode cX7_leafOf 71 = .ok (.lload_n 3, 1) := by decide +kernel
theorem dX7_leafOf_72 : decode cX7_leafOf 72 = .ok (.aload_n 0, 1) := by decide +kernel
theorem dX7_leafOf_73 : decode cX7_leafOf 73 = .ok (.getfield 73, 3) := by decide +kernel
theorem dX7_leafOf_76 : decode cX7_leafOf 76 = .ok (.aload_n 0, 1) := by decide +kernel
theorem dX7_leafOf_77 : decode cX7_leafOf 77 = .ok (.getfield 76, 3) := by decide +kernel
theorem dX7_leafOf_80 : decode cX7_leafOf 80 = .ok (.bipush 115, 2) := by decide +kernel
theorem dX7_leafOf_82 : decode cX7_leafOf 82 = .ok (.invokestatic 52, 3) := by decide +kernel
theorem dX7_leafOf_85 : decode cX7_leafOf 85 = .ok (.lcmp, 1) := by decide +kernel
theorem dX7_leafOf_86 : decode cX7_leafOf 86 = .ok (.ifCond .ne 8, 3) := by decide +kernel
theorem dX7_leafOf_89 : decode cX7_leafOf 89 = .ok (.bipush 115, 2) := by decide +kernel
theorem dX7_leafOf_91 : decode cX7_leafOf 91 = .ok (.goto 5, 3) := by decide +kernel
theorem dX7_leafOf_94 : decode cX7_leafOf 94 = .ok (.bipush 113, 2) := by decide +kernel
theorem dX7_leafOf_96 : decode cX7_leafOf 96 = .ok (.ireturn, 1) := by decide +kernel
theorem dX7_findWord_0 : decode cX7_findWord 0 = .ok (.aload_n 0, 1) := by decide +kernel
theorem dX7_findWord_1 : decode cX7_findWord 1 = .ok (.iconst 0, 1) := by decide +kernel
theorem dX7_findWord_2 : decode cX7_findWord 2 = .ok (.putfield 73, 3) := by decide +kernel
theorem dX7_findWord_5 : decode cX7_findWord 5 = .ok (.aload_n 0, 1) := by decide +kernel
theorem dX7_findWord_6 : decode cX7_findWord 6 = .ok (.iconst 0, 1) := by decide +kernel
theorem dX7_findWord_7 : decode cX7_findWord 7 = .ok (.putfield 76, 3) := by decide +kernel
theorem dX7_findWord_10 : decode cX7_findWord 10 = .ok (.aload_n 0, 1) := by decide +kernel
theorem dX7_findWord_11 : decode cX7_findWord 11 = .ok (.iconst 0, 1) := by decide +kernel
theorem dX7_findWord_12 : decode cX7_findWord 12 = .ok (.putfield 146, 3) := by decide +kernel
theorem dX7_findWord_15 : decode cX7_findWord 15 = .ok (.aload_n 0, 1) := by decide +kernel
theorem dX7_findWord_16 : decode cX7_findWord 16 = .ok (.getfield 73, 3) := by decide +kernel
theorem dX7_findWord_19 : decode cX7_findWord 19 = .ok (.bipush (-9), 2) := by decide +kernel
theorem dX7_findWord_21 : decode cX7_findWord 21 = .ok (.if_icmp .eq 70, 3) := by decide +kernel
theorem dX7_findWord_24 : decode cX7_findWord 24 = .ok (.aload_n 0, 1) := by decide +kernel
theorem dX7_findWord_25 : decode cX7_findWord 25 = .ok (.lload_n 1, 1) := by decide +kernel
theorem dX7_findWord_26 : decode cX7_findWord 26 = .ok (.invokevirtual 149, 3) := by decide +kernel
theorem dX7_findWord_29 : decode cX7_findWord 29 = .ok (.istore_n 3, 1) := by decide +kernel
theorem dX7_findWord_30 : decode cX7_findWord 30 = .ok (.aload_n 0, 1) := by decide +kernel
theorem dX7_findWord_31 : decode cX7_findWord 31 = .ok (.getfield 20, 3) := by decide +kernel
theorem dX7_findWord_34 : decode cX7_findWord 34 = .ok (.aload_n 0, 1) := by decide +kernel
theorem dX7_findWord_35 : decode cX7_findWord 35 = .ok (.getfield 146, 3) := by decide +kernel
theorem dX7_findWord_38 : decode cX7_findWord 38 = .ok (.iload_n 3, 1) := by decide +kernel
theorem dX7_findWord_39 : decode cX7_findWord 39 = .ok (.iastore, 1) := by decide +kernel
theorem dX7_findWord_40 : decode cX7_findWord 40 = .ok (.aload_n 0, 1) := by decide +kernel
theorem dX7_findWord_41 : decode cX7_findWord 41 = .ok (.dup, 1) := by decide +kernel
theorem dX7_findWord_42 : decode cX7_findWord 42 = .ok (.getfield 146, 3) := by decide +kernel
theorem dX7_findWord_45 : decode cX7_findWord 45 = .ok (.iconst 1, 1) := by decide +kernel
theorem dX7_findWord_46 : decode cX7_findWord 46 = .ok (.iadd, 1) := by decide +kernel
theorem dX7_findWord_47 : decode cX7_findWord 47 = .ok (.putfield 146, 3) := by decide +kernel
theorem dX7_findWord_50 : decode cX7_findWord 50 = .ok (.iload_n 3, 1) := by decide +kernel
theorem dX7_findWord_51 : decode cX7_findWord 51 = .ok (.bipush 113, 2) := by decide +kernel
theorem dX7_findWord_53 : decode cX7_findWord 53 = .ok (.if_icmp .ne 26, 3) := by decide +kernel
theorem dX7_findWord_56 : decode cX7_findWord 56 = .ok (.aload_n 0, 1) := by decide +kernel
theorem dX7_findWord_57 : decode cX7_findWord 57 = .ok (.dup, 1) := by decide +kernel
theorem dX7_findWord_58 : decode cX7_findWord 58 = .ok (.getfield 73, 3) := by decide +kernel
theorem dX7_findWord_61 : decode cX7_findWord 61 = .ok (.iconst 1, 1) := by decide +kernel
theorem dX7_findWord_62 : decode cX7_findWord 62 = .ok (.iadd, 1) := by decide +kernel
theorem dX7_findWord_63 : decode cX7_findWord 63 = .ok (.putfield 73, 3) := by decide +kernel
theorem dX7_findWord_66 : decode cX7_findWord 66 = .ok (.aload_n 0, 1) := by decide +kernel
theorem dX7_findWord_67 : decode cX7_findWord 67 = .ok (.dup, 1) := by decide +kernel
theorem dX7_findWord_68 : decode cX7_findWord 68 = .ok (.getfield 76, 3) := by decide +kernel
theorem dX7_findWord_71 : decode cX7_findWord 71 = .ok (.iconst 4, 1) := by decide +kernel
theorem dX7_findWord_72 : decode cX7_findWord 72 = .ok (.imul, 1) := by decide +kernel
theorem dX7_findWord_73 : decode cX7_findWord 73 = .ok (.putfield 76, 3) := by decide +kernel
theorem dX7_findWord_76 : decode cX7_findWord 76 = .ok (.goto 12, 3) := by decide +kernel
theorem dX7_findWord_79 : decode cX7_findWord 79 = .ok (.aload_n 0, 1) := by decide +kernel
theorem dX7_findWord_80 : decode cX7_findWord 80 = .ok (.iload_n 3, 1) := by decide +kernel
theorem dX7_findWord_81 : decode cX7_findWord 81 = .ok (.invokevirtual 152, 3) := by decide +kernel
theorem dX7_findWord_84 : decode cX7_findWord 84 = .ok (.aload_n 0, 1) := by decide +kernel
theorem dX7_findWord_85 : decode cX7_findWord 85 = .ok (.invokevirtual 89, 3) := by decide +kernel
theorem dX7_findWord_88 : decode cX7_findWord 88 = .ok (.goto (-73), 3) := by decide +kernel
theorem dX7_findWord_91 : decode cX7_findWord 91 = .ok (.return_, 1) := by decide +kernel
theorem dX7_tellCells_0 : decode cX7_tellCells 0 = .ok (.aload_n 0, 1) := by decide +kernel
theorem dX7_tellCells_1 : decode cX7_tellCells 1 = .ok (.getfield 73, 3) := by decide +kernel
theorem dX7_tellCells_4 : decode cX7_tellCells 4 = .ok (.aload_n 0, 1) := by decide +kernel
theorem dX7_tellCells_5 : decode cX7_tellCells 5 = .ok (.getfield 76, 3) := by decide +kernel
theorem dX7_tellCells_8 : decode cX7_tellCells 8 = .ok (.invokestatic 142, 3) := by decide +kernel
theorem dX7_tellCells_11 : decode cX7_tellCells 11 = .ok (.lstore_n 2, 1) := by decide +kernel
theorem dX7_tellCells_12 : decode cX7_tellCells 12 = .ok (.iconst 0, 1) := by decide +kernel
theorem dX7_tellCells_13 : decode cX7_tellCells 13 = .ok (.istore 4, 2) := by decide +kernel
theorem dX7_tellCells_15 : decode cX7_tellCells 15 = .ok (.iload 4, 2) := by decide +kernel
theorem dX7_tellCells_17 : decode cX7_tellCells 17 = .ok (.bipush 64, 2) := by decide +kernel
theorem dX7_tellCells_19 : decode cX7_tellCells 19 = .ok (.if_icmp .ge 39, 3) := by decide +kernel
theorem dX7_tellCells_22 : decode cX7_tellCells 22 = .ok (.lload_n 2, 1) := by decide +kernel
theorem dX7_tellCells_23 : decode cX7_tellCells 23 = .ok (.iload 4, 2) := by decide +kernel
theorem dX7_tellCells_25 : decode cX7_tellCells 25 = .ok (.lushr, 1) := by decide +kernel
theorem dX7_tellCells_26 : decode cX7_tellCells 26 = .ok (.lconst 1, 1) := by decide +kernel
theorem dX7_tellCells_27 : decode cX7_tellCells 27 = .ok (.land, 1) := by decide +kernel
theorem dX7_tellCells_28 : decode cX7_tellCells 28 = .ok (.lconst 1, 1) := by decide +kernel
theorem dX7_tellCells_29 : decode cX7_tellCells 29 = .ok (.lcmp, 1) := by decide +kernel
theorem dX7_tellCells_30 : decode cX7_tellCells 30 = .ok (.ifCond .ne 22, 3) := by decide +kernel
theorem dX7_tellCells_33 : decode cX7_tellCells 33 = .ok (.aload_n 0, 1) := by decide +kernel
theorem dX7_tellCells_34 : decode cX7_tellCells 34 = .ok (.getfield 23, 3) := by decide +kernel
theorem dX7_tellCells_37 : decode cX7_tellCells 37 = .ok (.iload 4, 2) := by decide +kernel
theorem dX7_tellCells_39 : decode cX7_tellCells 39 = .ok (.aload_n 0, 1) := by decide +kernel
theorem dX7_tellCells_40 : decode cX7_tellCells 40 = .ok (.getfield 73, 3) := by decide +kernel
theorem dX7_tellCells_43 : decode cX7_tellCells 43 = .ok (.iastore, 1) := by decide +kernel
theorem dX7_tellCells_44 : decode cX7_tellCells 44 = .ok (.aload_n 0, 1) := by decide +kernel
theorem dX7_tellCells_45 : decode cX7_tellCells 45 = .ok (.getfield 26, 3) := by decide +kernel
theorem dX7_tellCells_48 : decode cX7_tellCells 48 = .ok (.iload 4, 2) := by decide +kernel
theorem dX7_tellCells_50 : decode cX7_tellCells 50 = .ok (.iload_n 1, 1) := by decide +kernel
theorem dX7_tellCells_51 : decode cX7_tellCells 51 = .ok (.iastore, 1) := by decide +kernel
theorem dX7_tellCells_52 : decode cX7_tellCells 52 = .ok (.iinc 4 1, 3) := by decide +kernel
theorem dX7_tellCells_55 : decode cX7_tellCells 55 = .ok (.goto (-40), 3) := by decide +kernel
theorem dX7_tellCells_58 : decode cX7_tellCells 58 = .ok (.return_, 1) := by decide +kernel
theorem dX7_partsOf_0 : decode cX7_partsOf 0 = .ok (.lload_n 0, 1) := by decide +kernel
theorem dX7_partsOf_1 : decode cX7_partsOf 1 = .ok (.lstore_n 2, 1) := by decide +kernel
theorem dX7_partsOf_2 : decode cX7_partsOf 2 = .ok (.iconst 0, 1) := by decide +kernel
theorem dX7_partsOf_3 : decode cX7_partsOf 3 = .ok (.istore 4, 2) := by decide +kernel
theorem dX7_partsOf_5 : decode cX7_partsOf 5 = .ok (.lload_n 2, 1) := by decide +kernel
theorem dX7_partsOf_6 : decode cX7_partsOf 6 = .ok (.lconst 0, 1) := by decide +kernel
theorem dX7_partsOf_7 : decode cX7_partsOf 7 = .ok (.lcmp, 1) := by decide +kernel
theorem dX7_partsOf_8 : decode cX7_partsOf 8 = .ok (.ifCond .eq 78, 3) := by decide +kernel
theorem dX7_partsOf_11 : decode cX7_partsOf 11 = .ok (.lload_n 2, 1) := by decide +kernel
theorem dX7_partsOf_12 : decode cX7_partsOf 12 = .ok (.lload_n 2, 1) := by decide +kernel
theorem dX7_partsOf_13 : decode cX7_partsOf 13 = .ok (.lneg, 1) := by decide +kernel
theorem dX7_partsOf_14 : decode cX7_partsOf 14 = .ok (.land, 1) := by decide +kernel
theorem dX7_partsOf_15 : decode cX7_partsOf 15 = .ok (.lstore 5, 2) := by decide +kernel
theorem dX7_partsOf_17 : decode cX7_partsOf 17 = .ok (.lconst 0, 1) := by decide +kernel
theorem dX7_partsOf_18 : decode cX7_partsOf 18 = .ok (.lstore 7, 2) := by decide +kernel
theorem dX7_partsOf_20 : decode cX7_partsOf 20 = .ok (.lload 5, 2) := by decide +kernel
theorem dX7_partsOf_22 : decode cX7_partsOf 22 = .ok (.lload 7, 2) := by decide +kernel
theorem dX7_partsOf_24 : decode cX7_partsOf 24 = .ok (.lcmp, 1) := by decide +kernel
theorem dX7_partsOf_25 : decode cX7_partsOf 25 = .ok (.ifCond .eq 46, 3) := by decide +kernel
theorem dX7_partsOf_28 : decode cX7_partsOf 28 = .ok (.lload 5, 2) := by decide +kernel
theorem dX7_partsOf_30 : decode cX7_partsOf 30 = .ok (.lstore 7, 2) := by decide +kernel
theorem dX7_partsOf_32 : decode cX7_partsOf 32 = .ok (.lload 5, 2) := by decide +kernel
theorem dX7_partsOf_34 : decode cX7_partsOf 34 = .ok (.lload 5, 2) := by decide +kernel
theorem dX7_partsOf_36 : decode cX7_partsOf 36 = .ok (.bipush 8, 2) := by decide +kernel
theorem dX7_partsOf_38 : decode cX7_partsOf 38 = .ok (.lshl, 1) := by decide +kernel
theorem dX7_partsOf_39 : decode cX7_partsOf 39 = .ok (.lload 5, 2) := by decide +kernel
theorem dX7_partsOf_41 : decode cX7_partsOf 41 = .ok (.bipush 8, 2) := by decide +kernel
theorem dX7_partsOf_43 : decode cX7_partsOf 43 = .ok (.lushr, 1) := by decide +kernel
theorem dX7_partsOf_44 : decode cX7_partsOf 44 = .ok (.lor, 1) := by decide +kernel
theorem dX7_partsOf_45 : decode cX7_partsOf 45 = .ok (.lload 5, 2) := by decide +kernel
theorem dX7_partsOf_47 : decode cX7_partsOf 47 = .ok (.iconst 1, 1) := by decide +kernel
theorem dX7_partsOf_48 : decode cX7_partsOf 48 = .ok (.lshl, 1) := by decide +kernel
theorem dX7_partsOf_49 : decode cX7_partsOf 49 = .ok (.ldc2_w 156, 3) := by decide +kernel
theorem dX7_partsOf_52 : decode cX7_partsOf 52 = .ok (.land, 1) := by decide +kernel
theorem dX7_partsOf_53 : decode cX7_partsOf 53 = .ok (.lor, 1) := by decide +kernel
theorem dX7_partsOf_54 : decode cX7_partsOf 54 = .ok (.lload 5, 2) := by decide +kernel
theorem dX7_partsOf_56 : decode cX7_partsOf 56 = .ok (.iconst 1, 1) := by decide +kernel
theorem dX7_partsOf_57 : decode cX7_partsOf 57 = .ok (.lushr, 1) := by decide +kernel
theorem dX7_partsOf_58 : decode cX7_partsOf 58 = .ok (.ldc2_w 158, 3) := by decide +kernel
theorem dX7_partsOf_61 : decode cX7_partsOf 61 = .ok (.land, 1) := by decide +kernel
theorem dX7_partsOf_62 : decode cX7_partsOf 62 = .ok (.lor, 1) := by decide +kernel
theorem dX7_partsOf_63 : decode cX7_partsOf 63 = .ok (.lload_n 2, 1) := by decide +kernel
theorem dX7_partsOf_64 : decode cX7_partsOf 64 = .ok (.land, 1) := by decide +kernel
theorem dX7_partsOf_65 : decode cX7_partsOf 65 = .ok (.lor, 1) := by decide +kernel
theorem dX7_partsOf_66 : decode cX7_partsOf 66 = .ok (.lstore 5, 2) := by decide +kernel
theorem dX7_partsOf_68 : decode cX7_partsOf 68 = .ok (.goto (-48), 3) := by decide +kernel
theorem dX7_partsOf_71 : decode cX7_partsOf 71 = .ok (.lload_n 2, 1) := by decide +kernel
theorem dX7_partsOf_72 : decode cX7_partsOf 72 = .ok (.lload 5, 2) := by decide +kernel
theorem dX7_partsOf_74 : decode cX7_partsOf 74 = .ok (.ldc2_w 116, 3) := by decide +kernel
theorem dX7_partsOf_77 : decode cX7_partsOf 77 = .ok (.lxor, 1) := by decide +kernel
theorem dX7_partsOf_78 : decode cX7_partsOf 78 = .ok (.land, 1) := by decide +kernel
theorem dX7_partsOf_79 : decode cX7_partsOf 79 = .ok (.lstore_n 2, 1) := by decide +kernel
theorem dX7_partsOf_80 : decode cX7_partsOf 80 = .ok (.iinc 4 1, 3) := by decide +kernel
theorem dX7_partsOf_83 : decode cX7_partsOf 83 = .ok (.goto (-78), 3) := by decide +kernel
theorem dX7_partsOf_86 : decode cX7_partsOf 86 = .ok (.iload 4, 2) := by decide +kernel
theorem dX7_partsOf_88 : decode cX7_partsOf 88 = .ok (.ireturn, 1) := by decide +kernel
theorem dX7_rimOf_0 : decode cX7_rimOf 0 = .ok (.iconst 0, 1) := by decide +kernel
theorem dX7_rimOf_1 : decode cX7_rimOf 1 = .ok (.istore_n 2, 1) := by decide +kernel
theorem dX7_rimOf_2 : decode cX7_rimOf 2 = .ok (.iconst 0, 1) := by decide +kernel
theorem dX7_rimOf_3 : decode cX7_rimOf 3 = .ok (.istore_n 3, 1) := by decide +kernel
theorem dX7_rimOf_4 : decode cX7_rimOf 4 = .ok (.iload_n 3, 1) := by decide +kernel
theorem dX7_rimOf_5 : decode cX7_rimOf 5 = .ok (.bipush 64, 2) := by decide +kernel
theorem dX7_rimOf_7 : decode cX7_rimOf 7 = .ok (.if_icmp .ge 110, 3) := by decide +kernel
theorem dX7_rimOf_10 : decode cX7_rimOf 10 = .ok (.iload_n 3, 1) := by decide +kernel
theorem dX7_rimOf_11 : decode cX7_rimOf 11 = .ok (.bipush 8, 2) := by decide +kernel
theorem dX7_rimOf_13 : decode cX7_rimOf 13 = .ok (.irem, 1) := by decide +kernel
theorem dX7_rimOf_14 : decode cX7_rimOf 14 = .ok (.istore 4, 2) := by decide +kernel
theorem dX7_rimOf_16 : decode cX7_rimOf 16 = .ok (.iload_n 3, 1) := by decide +kernel
theorem dX7_rimOf_17 : decode cX7_rimOf 17 = .ok (.bipush 8, 2) := by decide +kernel
theorem dX7_rimOf_19 : decode cX7_rimOf 19 = .ok (.idiv, 1) := by decide +kernel
theorem dX7_rimOf_20 : decode cX7_rimOf 20 = .ok (.istore 5, 2) := by decide +kernel
theorem dX7_rimOf_22 : decode cX7_rimOf 22 = .ok (.lload_n 0, 1) := by decide +kernel
theorem dX7_rimOf_23 : decode cX7_rimOf 23 = .ok (.iload 4, 2) := by decide +kernel
theorem dX7_rimOf_25 : decode cX7_rimOf 25 = .ok (.iload 5, 2) := by decide +kernel
theorem dX7_rimOf_27 : decode cX7_rimOf 27 = .ok (.invokestatic 96, 3) := by decide +kernel
theorem dX7_rimOf_30 : decode cX7_rimOf 30 = .ok (.ifCond .eq 81, 3) := by decide +kernel
theorem dX7_rimOf_33 : decode cX7_rimOf 33 = .ok (.iload_n 2, 1) := by decide +kernel
theorem dX7_rimOf_34 : decode cX7_rimOf 34 = .ok (.lload_n 0, 1) := by decide +kernel
theorem dX7_rimOf_35 : decode cX7_rimOf 35 = .ok (.iload 4, 2) := by decide +kernel
theorem dX7_rimOf_37 : decode cX7_rimOf 37 = .ok (.iconst 1, 1) := by decide +kernel
theorem dX7_rimOf_38 : decode cX7_rimOf 38 = .ok (.iadd, 1) := by decide +kernel
theorem dX7_rimOf_39 : decode cX7_rimOf 39 = .ok (.iload 5, 2) := by decide +kernel
theorem dX7_rimOf_41 : decode cX7_rimOf 41 = .ok (.invokestatic 96, 3) := by decide +kernel
theorem dX7_rimOf_44 : decode cX7_rimOf 44 = .ok (.ifCond .eq 7, 3) := by decide +kernel
theorem dX7_rimOf_47 : decode cX7_rimOf 47 = .ok (.iconst 0, 1) := by decide +kernel
theorem dX7_rimOf_48 : decode cX7_rimOf 48 = .ok (.goto 4, 3) := by decide +kernel
theorem dX7_rimOf_51 : decode cX7_rimOf 51 = .ok (.iconst 1, 1) := by decide +kernel
theorem dX7_rimOf_52 : decode cX7_rimOf 52 = .ok (.lload_n 0, 1) := by decide +kernel
theorem dX7_rimOf_53 : decode cX7_rimOf 53 = .ok (.iload 4, 2) := by decide +kernel
theorem dX7_rimOf_55 : decode cX7_rimOf 55 = .ok (.iconst 1, 1) := by decide +kernel
theorem dX7_rimOf_56 : decode cX7_rimOf 56 = .ok (.isub, 1) := by decide +kernel
theorem dX7_rimOf_57 : decode cX7_rimOf 57 = .ok (.iload 5, 2) := by decide +kernel
theorem dX7_rimOf_59 : decode cX7_rimOf 59 = .ok (.invokestatic 96, 3) := by decide +kernel
theorem dX7_rimOf_62 : decode cX7_rimOf 62 = .ok (.ifCond .eq 7, 3) := by decide +kernel
theorem dX7_rimOf_65 : decode cX7_rimOf 65 = .ok (.iconst 0, 1) := by decide +kernel
theorem dX7_rimOf_66 : decode cX7_rimOf 66 = .ok (.goto 4, 3) := by decide +kernel
theorem dX7_rimOf_69 : decode cX7_rimOf 69 = .ok (.iconst 1, 1) := by decide +kernel
theorem dX7_rimOf_70 : decode cX7_rimOf 70 = .ok (.iadd, 1) := by decide +kernel
theorem dX7_rimOf_71 : decode cX7_rimOf 71 = .ok (.lload_n 0, 1) := by decide +kernel
theorem dX7_rimOf_72 : decode cX7_rimOf 72 = .ok (.iload 4, 2) := by decide +kernel
theorem dX7_rimOf_74 : decode cX7_rimOf 74 = .ok (.iload 5, 2) := by decide +kernel
theorem dX7_rimOf_76 : decode cX7_rimOf 76 = .ok (.iconst 1, 1) := by decide +kernel
theorem dX7_rimOf_77 : decode cX7_rimOf 77 = .ok (.iadd, 1) := by decide +kernel
theorem dX7_rimOf_78 : decode cX7_rimOf 78 = .ok (.invokestatic 96, 3) := by decide +kernel
theorem dX7_rimOf_81 : decode cX7_rimOf 81 = .ok (.ifCond .eq 7, 3) := by decide +kernel
theorem dX7_rimOf_84 : decode cX7_rimOf 84 = .ok (.iconst 0, 1) := by decide +kernel
theorem dX7_rimOf_85 : decode cX7_rimOf 85 = .ok (.goto 4, 3) := by decide +kernel
theorem dX7_rimOf_88 : decode cX7_rimOf 88 = .ok (.iconst 1, 1) := by decide +kernel
theorem dX7_rimOf_89 : decode cX7_rimOf 89 = .ok (.iadd, 1) := by decide +kernel
theorem dX7_rimOf_90 : decode cX7_rimOf 90 = .ok (.lload_n 0, 1) := by decide +kernel
theorem dX7_rimOf_91 : decode cX7_rimOf 91 = .ok (.iload 4, 2) := by decide +kernel
theorem dX7_rimOf_93 : decode cX7_rimOf 93 = .ok (.iload 5, 2) := by decide +kernel
theorem dX7_rimOf_95 : decode cX7_rimOf 95 = .ok (.iconst 1, 1) := by decide +kernel
theorem dX7_rimOf_96 : decode cX7_rimOf 96 = .ok (.isub, 1) := by decide +kernel
theorem dX7_rimOf_97 : decode cX7_rimOf 97 = .ok (.invokestatic 96, 3) := by decide +kernel
theorem dX7_rimOf_100 : decode cX7_rimOf 100 = .ok (.ifCond .eq 7, 3) := by decide +kernel
theorem dX7_rimOf_103 : decode cX7_rimOf 103 = .ok (.iconst 0, 1) := by decide +kernel
theorem dX7_rimOf_104 : decode cX7_rimOf 104 = .ok (.goto 4, 3) := by decide +kernel
theorem dX7_rimOf_107 : decode cX7_rimOf 107 = .ok (.iconst 1, 1) := by decide +kernel
theorem dX7_rimOf_108 : decode cX7_rimOf 108 = .ok (.iadd, 1) := by decide +kernel
theorem dX7_rimOf_109 : decode cX7_rimOf 109 = .ok (.iadd, 1) := by decide +kernel
theorem dX7_rimOf_110 : decode cX7_rimOf 110 = .ok (.istore_n 2, 1) := by decide +kernel
theorem dX7_rimOf_111 : decode cX7_rimOf 111 = .ok (.iinc 3 1, 3) := by decide +kernel
theorem dX7_rimOf_114 : decode cX7_rimOf 114 = .ok (.goto (-110), 3) := by decide +kernel
theorem dX7_rimOf_117 : decode cX7_rimOf 117 = .ok (.iload_n 2, 1) := by decide +kernel
theorem dX7_rimOf_118 : decode cX7_rimOf 118 = .ok (.ireturn, 1) := by decide +kernel
theorem dX7_blocksOf_0 : decode cX7_blocksOf 0 = .ok (.lload_n 0, 1) := by decide +kernel
theorem dX7_blocksOf_1 : decode cX7_blocksOf 1 = .ok (.lstore_n 2, 1) := by decide +kernel
theorem dX7_blocksOf_2 : decode cX7_blocksOf 2 = .ok (.iconst 0, 1) := by decide +kernel
theorem dX7_blocksOf_3 : decode cX7_blocksOf 3 = .ok (.istore 4, 2) := by decide +kernel
theorem dX7_blocksOf_5 : decode cX7_blocksOf 5 = .ok (.iconst 0, 1) := by decide +kernel
theorem dX7_blocksOf_6 : decode cX7_blocksOf 6 = .ok (.istore 5, 2) := by decide +kernel
theorem dX7_blocksOf_8 : decode cX7_blocksOf 8 = .ok (.iload 5, 2) := by decide +kernel
theorem dX7_blocksOf_10 : decode cX7_blocksOf 10 = .ok (.iconst 4, 1) := by decide +kernel
theorem dX7_blocksOf_11 : decode cX7_blocksOf 11 = .ok (.if_icmp .ge 90, 3) := by decide +kernel
theorem dX7_blocksOf_14 : decode cX7_blocksOf 14 = .ok (.iconst 0, 1) := by decide +kernel
theorem dX7_blocksOf_15 : decode cX7_blocksOf 15 = .ok (.istore 6, 2) := by decide +kernel
theorem dX7_blocksOf_17 : decode cX7_blocksOf 17 = .ok (.iload 6, 2) := by decide +kernel
theorem dX7_blocksOf_19 : decode cX7_blocksOf 19 = .ok (.iconst 1, 1) := by decide +kernel
theorem dX7_blocksOf_20 : decode cX7_blocksOf 20 = .ok (.iconst 2, 1) := by decide +kernel
theorem dX7_blocksOf_21 : decode cX7_blocksOf 21 = .ok (.iload 5, 2) := by decide +kernel
theorem dX7_blocksOf_23 : decode cX7_blocksOf 23 = .ok (.imul, 1) := by decide +kernel
theorem dX7_blocksOf_24 : decode cX7_blocksOf 24 = .ok (.ishl, 1) := by decide +kernel
theorem dX7_blocksOf_25 : decode cX7_blocksOf 25 = .ok (.if_icmp .ge 70, 3) := by decide +kernel
theorem dX7_blocksOf_28 : decode cX7_blocksOf 28 = .ok (.iload 5, 2) := by decide +kernel
theorem dX7_blocksOf_30 : decode cX7_blocksOf 30 = .ok (.iload 6, 2) := by decide +kernel
theorem dX7_blocksOf_32 : decode cX7_blocksOf 32 = .ok (.invokestatic 142, 3) := by decide +kernel
theorem dX7_blocksOf_35 : decode cX7_blocksOf 35 = .ok (.lstore 7, 2) := by decide +kernel
theorem dX7_blocksOf_37 : decode cX7_blocksOf 37 = .ok (.lload_n 2, 1) := by decide +kernel
theorem dX7_blocksOf_38 : decode cX7_blocksOf 38 = .ok (.lload 7, 2) := by decide +kernel
theorem dX7_blocksOf_40 : decode cX7_blocksOf 40 = .ok (.land, 1) := by decide +kernel
theorem dX7_blocksOf_41 : decode cX7_blocksOf 41 = .ok (.lload 7, 2) := by decide +kernel
theorem dX7_blocksOf_43 : decode cX7_blocksOf 43 = .ok (.lcmp, 1) := by decide +kernel
theorem dX7_blocksOf_44 : decode cX7_blocksOf 44 = .ok (.ifCond .ne 7, 3) := by decide +kernel
theorem dX7_blocksOf_47 : decode cX7_blocksOf 47 = .ok (.iconst 1, 1) := by decide +kernel
theorem dX7_blocksOf_48 : decode cX7_blocksOf 48 = .ok (.goto 4, 3) := by decide +kernel
theorem dX7_blocksOf_51 : decode cX7_blocksOf 51 = .ok (.iconst 0, 1) := by decide +kernel
theorem dX7_blocksOf_52 : decode cX7_blocksOf 52 = .ok (.istore 9, 2) := by decide +kernel
theorem dX7_blocksOf_54 : decode cX7_blocksOf 54 = .ok (.iload 4, 2) := by decide +kernel
theorem dX7_blocksOf_56 : decode cX7_blocksOf 56 = .ok (.iload 9, 2) := by decide +kernel
theorem dX7_blocksOf_58 : decode cX7_blocksOf 58 = .ok (.ifCond .eq 7, 3) := by decide +kernel
theorem dX7_blocksOf_61 : decode cX7_blocksOf 61 = .ok (.iconst 1, 1) := by decide +kernel
theorem dX7_blocksOf_62 : decode cX7_blocksOf 62 = .ok (.goto 4, 3) := by decide +kernel
theorem dX7_blocksOf_65 : decode cX7_blocksOf 65 = .ok (.iconst 0, 1) := by decide +kernel
theorem dX7_blocksOf_66 : decode cX7_blocksOf 66 = .ok (.iadd, 1) := by decide +kernel
theorem dX7_blocksOf_67 : decode cX7_blocksOf 67 = .ok (.istore 4, 2) := by decide +kernel
theorem dX7_blocksOf_69 : decode cX7_blocksOf 69 = .ok (.lload_n 2, 1) := by decide +kernel
theorem dX7_blocksOf_70 : decode cX7_blocksOf 70 = .ok (.iload 9, 2) := by decide +kernel
theorem dX7_blocksOf_72 : decode cX7_blocksOf 72 = .ok (.ifCond .eq 12, 3) := by decide +kernel
theorem dX7_blocksOf_75 : decode cX7_blocksOf 75 = .ok (.lload 7, 2) := by decide +kernel
theorem dX7_blocksOf_77 : decode cX7_blocksOf 77 = .ok (.ldc2_w 116, 3) := by decide +kernel
theorem dX7_blocksOf_80 : decode cX7_blocksOf 80 = .ok (.lxor, 1) := by decide +kernel
theorem dX7_blocksOf_81 : decode cX7_blocksOf 81 = .ok (.goto 6, 3) := by decide +kernel
theorem dX7_blocksOf_84 : decode cX7_blocksOf 84 = .ok (.ldc2_w 116, 3) := by decide +kernel
theorem dX7_blocksOf_87 : decode cX7_blocksOf 87 = .ok (.land, 1) := by decide +kernel
theorem dX7_blocksOf_88 : decode cX7_blocksOf 88 = .ok (.lstore_n 2, 1) := by decide +kernel
theorem dX7_blocksOf_89 : decode cX7_blocksOf 89 = .ok (.iinc 6 1, 3) := by decide +kernel
theorem dX7_blocksOf_92 : decode cX7_blocksOf 92 = .ok (.goto (-75), 3) := by decide +kernel
theorem dX7_blocksOf_95 : decode cX7_blocksOf 95 = .ok (.iinc 5 1, 3) := by decide +kernel
theorem dX7_blocksOf_98 : decode cX7_blocksOf 98 = .ok (.goto (-90), 3) := by decide +kernel
theorem dX7_blocksOf_101 : decode cX7_blocksOf 101 = .ok (.iload 4, 2) := by decide +kernel
theorem dX7_blocksOf_103 : decode cX7_blocksOf 103 = .ok (.ireturn, 1) := by decide +kernel
theorem dX7_look_0 : decode cX7_look 0 = .ok (.iload_n 1, 1) := by decide +kernel
theorem dX7_look_1 : decode cX7_look 1 = .ok (.invokestatic 106, 3) := by decide +kernel
theorem dX7_look_4 : decode cX7_look 4 = .ok (.ifCond .ne 5, 3) := by decide +kernel
theorem dX7_look_7 : decode cX7_look 7 = .ok (.iconst (-1), 1) := by decide +kernel
theorem dX7_look_8 : decode cX7_look 8 = .ok (.ireturn, 1) := by decide +kernel
theorem dX7_look_9 : decode cX7_look 9 = .ok (.iload_n 2, 1) := by decide +kernel
theorem dX7_look_10 : decode cX7_look 10 = .ok (.tableswitch 89 0 4 #[34, 44, 59, 69, 79], 34) := by decide +kernel
theorem dX7_look_44 : decode cX7_look 44 = .ok (.aload_n 0, 1) := by decide +kernel
theorem dX7_look_45 : decode cX7_look 45 = .ok (.getfield 13, 3) := by decide +kernel
theorem dX7_look_48 : decode cX7_look 48 = .ok (.iload_n 1, 1) := by decide +kernel
theorem dX7_look_49 : decode cX7_look 49 = .ok (.laload, 1) := by decide +kernel
theorem dX7_look_50 : decode cX7_look 50 = .ok (.invokestatic 112, 3) := by decide +kernel
theorem dX7_look_53 : decode cX7_look 53 = .ok (.ireturn, 1) := by decide +kernel
theorem dX7_look_54 : decode cX7_look 54 = .ok (.aload_n 0, 1) := by decide +kernel
theorem dX7_look_55 : decode cX7_look 55 = .ok (.aload_n 0, 1) := by decide +kernel
theorem dX7_look_56 : decode cX7_look 56 = .ok (.getfield 13, 3) := by decide +kernel
theorem dX7_look_59 : decode cX7_look 59 = .ok (.iload_n 1, 1) := by decide +kernel
theorem dX7_look_60 : decode cX7_look 60 = .ok (.laload, 1) := by decide +kernel
theorem dX7_look_61 : decode cX7_look 61 = .ok (.invokevirtual 160, 3) := by decide +kernel
theorem dX7_look_64 : decode cX7_look 64 = .ok (.aload_n 0, 1) := by decide +kernel
theorem dX7_look_65 : decode cX7_look 65 = .ok (.getfield 146, 3) := by decide +kernel
theorem dX7_look_68 : decode cX7_look 68 = .ok (.ireturn, 1) := by decide +kernel
theorem dX7_look_69 : decode cX7_look 69 = .ok (.aload_n 0, 1) := by decide +kernel
theorem dX7_look_70 : decode cX7_look 70 = .ok (.getfield 13, 3) := by decide +kernel
theorem dX7_look_73 : decode cX7_look 73 = .ok (.iload_n 1, 1) := by decide +kernel
theorem dX7_look_74 : decode cX7_look 74 = .ok (.laload, 1) := by decide +kernel
theorem dX7_look_75 : decode cX7_look 75 = .ok (.invokestatic 164, 3) := by decide +kernel
theorem dX7_look_78 : decode cX7_look 78 = .ok (.ireturn, 1) := by decide +kernel
theorem dX7_look_79 : decode cX7_look 79 = .ok (.aload_n 0, 1) := by decide +kernel
theorem dX7_look_80 : decode cX7_look 80 = .ok (.getfield 13, 3) := by decide +kernel
theorem dX7_look_83 : decode cX7_look 83 = .ok (.iload_n 1, 1) := by decide +kernel
theorem dX7_look_84 : decode cX7_look 84 = .ok (.laload, 1) := by decide +kernel
theorem dX7_look_85 : decode cX7_look 85 = .ok (.invokestatic 167, 3) := by decide +kernel
theorem dX7_look_88 : decode cX7_look 88 = .ok (.ireturn, 1) := by decide +kernel
theorem dX7_look_89 : decode cX7_look 89 = .ok (.aload_n 0, 1) := by decide +kernel
theorem dX7_look_90 : decode cX7_look 90 = .ok (.getfield 13, 3) := by decide +kernel
theorem dX7_look_93 : decode cX7_look 93 = .ok (.iload_n 1, 1) := by decide +kernel
theorem dX7_look_94 : decode cX7_look 94 = .ok (.laload, 1) := by decide +kernel
theorem dX7_look_95 : decode cX7_look 95 = .ok (.invokestatic 170, 3) := by decide +kernel
theorem dX7_look_98 : decode cX7_look 98 = .ok (.ireturn, 1) := by decide +kernel
theorem dX7_look_99 : decode cX7_look 99 = .ok (.bipush (-2), 2) := by decide +kernel
theorem dX7_look_101 : decode cX7_look 101 = .ok (.ireturn, 1) := by decide +kernel
theorem dX7_letter_0 : decode cX7_letter 0 = .ok (.iload_n 1, 1) := by decide +kernel
theorem dX7_letter_1 : decode cX7_letter 1 = .ok (.invokestatic 106, 3) := by decide +kernel
theorem dX7_letter_4 : decode cX7_letter 4 = .ok (.ifCond .ne 5, 3) := by decide +kernel
theorem dX7_letter_7 : decode cX7_letter 7 = .ok (.iconst (-1), 1) := by decide +kernel
theorem dX7_letter_8 : decode cX7_letter 8 = .ok (.ireturn, 1) := by decide +kernel
theorem dX7_letter_9 : decode cX7_letter 9 = .ok (.aload_n 0, 1) := by decide +kernel
theorem dX7_letter_10 : decode cX7_letter 10 = .ok (.aload_n 0, 1) := by decide +kernel
theorem dX7_letter_11 : decode cX7_letter 11 = .ok (.getfield 13, 3) := by decide +kernel
theorem dX7_letter_14 : decode cX7_letter 14 = .ok (.iload_n 1, 1) := by decide +kernel
theorem dX7_letter_15 : decode cX7_letter 15 = .ok (.laload, 1) := by decide +kernel
theorem dX7_letter_16 : decode cX7_letter 16 = .ok (.invokevirtual 160, 3) := by decide +kernel
theorem dX7_letter_19 : decode cX7_letter 19 = .ok (.iload_n 2, 1) := by decide +kernel
theorem dX7_letter_20 : decode cX7_letter 20 = .ok (.i2l, 1) := by decide +kernel
theorem dX7_letter_21 : decode cX7_letter 21 = .ok (.lconst 0, 1) := by decide +kernel
theorem dX7_letter_22 : decode cX7_letter 22 = .ok (.aload_n 0, 1) := by decide +kernel
theorem dX7_letter_23 : decode cX7_letter 23 = .ok (.getfield 146, 3) := by decide +kernel
theorem dX7_letter_26 : decode cX7_letter 26 = .ok (.iconst 1, 1) := by decide +kernel
theorem dX7_letter_27 : decode cX7_letter 27 = .ok (.isub, 1) := by decide +kernel
theorem dX7_letter_28 : decode cX7_letter 28 = .ok (.i2l, 1) := by decide +kernel
theorem dX7_letter_29 : decode cX7_letter 29 = .ok (.invokestatic 44, 3) := by decide +kernel
theorem dX7_letter_32 : decode cX7_letter 32 = .ok (.ifCond .eq 12, 3) := by decide +kernel
theorem dX7_letter_35 : decode cX7_letter 35 = .ok (.aload_n 0, 1) := by decide +kernel
theorem dX7_letter_36 : decode cX7_letter 36 = .ok (.getfield 20, 3) := by decide +kernel
theorem dX7_letter_39 : decode cX7_letter 39 = .ok (.iload_n 2, 1) := by decide +kernel
theorem dX7_letter_40 : decode cX7_letter 40 = .ok (.iaload, 1) := by decide +kernel
theorem dX7_letter_41 : decode cX7_letter 41 = .ok (.goto 5, 3) := by decide +kernel
theorem dX7_letter_44 : decode cX7_letter 44 = .ok (.bipush (-9), 2) := by decide +kernel
theorem dX7_letter_46 : decode cX7_letter 46 = .ok (.ireturn, 1) := by decide +kernel
theorem dX7_at_0 : decode cX7_at 0 = .ok (.iload_n 1, 1) := by decide +kernel
theorem dX7_at_1 : decode cX7_at 1 = .ok (.invokestatic 106, 3) := by decide +kernel
theorem dX7_at_4 : decode cX7_at 4 = .ok (.ifCond .eq 15, 3) := by decide +kernel
theorem dX7_at_7 : decode cX7_at 7 = .ok (.iload_n 2, 1) := by decide +kernel
theorem dX7_at_8 : decode cX7_at 8 = .ok (.i2l, 1) := by decide +kernel
theorem dX7_at_9 : decode cX7_at 9 = .ok (.lconst 0, 1) := by decide +kernel
theorem dX7_at_10 : decode cX7_at 10 = .ok (.ldc2_w 173, 3) := by decide +kernel
theorem dX7_at_13 : decode cX7_at 13 = .ok (.invokestatic 44, 3) := by decide +kernel
theorem dX7_at_16 : decode cX7_at 16 = .ok (.ifCond .ne 5, 3) := by decide +kernel
theorem dX7_at_19 : decode cX7_at 19 = .ok (.iconst (-1), 1) := by decide +kernel
theorem dX7_at_20 : decode cX7_at 20 = .ok (.ireturn, 1) := by decide +kernel
theorem dX7_at_21 : decode cX7_at 21 = .ok (.iload_n 3, 1) := by decide +kernel
theorem dX7_at_22 : decode cX7_at 22 = .ok (.i2l, 1) := by decide +kernel
theorem dX7_at_23 : decode cX7_at 23 = .ok (.lconst 0, 1) := by decide +kernel
theorem dX7_at_24 : decode cX7_at 24 = .ok (.ldc2_w 83, 3) := by decide +kernel
theorem dX7_at_27 : decode cX7_at 27 = .ok (.invokestatic 44, 3) := by decide +kernel
theorem dX7_at_30 : decode cX7_at 30 = .ok (.ifCond .ne 6, 3) := by decide +kernel
theorem dX7_at_33 : decode cX7_at 33 = .ok (.bipush (-2), 2) := by decide +kernel
theorem dX7_at_35 : decode cX7_at 35 = .ok (.ireturn, 1) := by decide +kernel
theorem dX7_at_36 : decode cX7_at 36 = .ok (.aload_n 0, 1) := by decide +kernel
theorem dX7_at_37 : decode cX7_at 37 = .ok (.aload_n 0, 1) := by decide +kernel
theorem dX7_at_38 : decode cX7_at 38 = .ok (.getfield 13, 3) := by decide +kernel
theorem dX7_at_41 : decode cX7_at 41 = .ok (.iload_n 1, 1) := by decide +kernel
theorem dX7_at_42 : decode cX7_at 42 = .ok (.laload, 1) := by decide +kernel
theorem dX7_at_43 : decode cX7_at 43 = .ok (.invokevirtual 160, 3) := by decide +kernel
theorem dX7_at_46 : decode cX7_at 46 = .ok (.iload_n 3, 1) := by decide +kernel
theorem dX7_at_47 : decode cX7_at 47 = .ok (.ifCond .ne 17, 3) := by decide +kernel
theorem dX7_at_50 : decode cX7_at 50 = .ok (.aload_n 0, 1) := by decide +kernel
theorem dX7_at_51 : decode cX7_at 51 = .ok (.getfield 13, 3) := by decide +kernel
theorem dX7_at_54 : decode cX7_at 54 = .ok (.iload_n 1, 1) := by decide +kernel
theorem dX7_at_55 : decode cX7_at 55 = .ok (.laload, 1) := by decide +kernel
theorem dX7_at_56 : decode cX7_at 56 = .ok (.iload_n 2, 1) := by decide +kernel
theorem dX7_at_57 : decode cX7_at 57 = .ok (.lushr, 1) := by decide +kernel
theorem dX7_at_58 : decode cX7_at 58 = .ok (.lconst 1, 1) := by decide +kernel
theorem dX7_at_59 : decode cX7_at 59 = .ok (.land, 1) := by decide +kernel
theorem dX7_at_60 : decode cX7_at 60 = .ok (.l2i, 1) := by decide +kernel
theorem dX7_at_61 : decode cX7_at 61 = .ok (.goto 23, 3) := by decide +kernel
theorem dX7_at_64 : decode cX7_at 64 = .ok (.iload_n 3, 1) := by decide +kernel
theorem dX7_at_65 : decode cX7_at 65 = .ok (.iconst 1, 1) := by decide +kernel
theorem dX7_at_66 : decode cX7_at 66 = .ok (.if_icmp .ne 12, 3) := by decide +kernel
theorem dX7_at_69 : decode cX7_at 69 = .ok (.aload_n 0, 1) := by decide +kernel
theorem dX7_at_70 : decode cX7_at 70 = .ok (.getfield 23, 3) := by decide +kernel
theorem dX7_at_73 : decode cX7_at 73 = .ok (.iload_n 2, 1) := by decide +kernel
theorem dX7_at_74 : decode cX7_at 74 = .ok (.iaload, 1) := by decide +kernel
theorem dX7_at_75 : decode cX7_at 75 = .ok (.goto 9, 3) := by decide +kernel
theorem dX7_at_78 : decode cX7_at 78 = .ok (.aload_n 0, 1) := by decide +kernel
theorem dX7_at_79 : decode cX7_at 79 = .ok (.getfield 26, 3) := by decide +kernel
theorem dX7_at_82 : decode cX7_at 82 = .ok (.iload_n 2, 1) := by decide +kernel
theorem dX7_at_83 : decode cX7_at 83 = .ok (.iaload, 1) := by decide +kernel
theorem dX7_at_84 : decode cX7_at 84 = .ok (.ireturn, 1) := by decide +kernel
theorem dX7_byWay_0 : decode cX7_byWay 0 = .ok (.iload_n 2, 1) := by decide +kernel
theorem dX7_byWay_1 : decode cX7_byWay 1 = .ok (.iconst 3, 1) := by decide +kernel
theorem dX7_byWay_2 : decode cX7_byWay 2 = .ok (.if_icmp .le 10, 3) := by decide +kernel
theorem dX7_byWay_5 : decode cX7_byWay 5 = .ok (.lload_n 0, 1) := by decide +kernel
theorem dX7_byWay_6 : decode cX7_byWay 6 = .ok (.invokestatic 130, 3) := by decide +kernel
theorem dX7_byWay_9 : decode cX7_byWay 9 = .ok (.goto 4, 3) := by decide +kernel
theorem dX7_byWay_12 : decode cX7_byWay 12 = .ok (.lload_n 0, 1) := by decide +kernel
theorem dX7_byWay_13 : decode cX7_byWay 13 = .ok (.lstore_n 3, 1) := by decide +kernel
theorem dX7_byWay_14 : decode cX7_byWay 14 = .ok (.iconst 0, 1) := by decide +kernel
theorem dX7_byWay_15 : decode cX7_byWay 15 = .ok (.istore 5, 2) := by decide +kernel
theorem dX7_byWay_17 : decode cX7_byWay 17 = .ok (.iload 5, 2) := by decide +kernel
theorem dX7_byWay_19 : decode cX7_byWay 19 = .ok (.iload_n 2, 1) := by decide +kernel
theorem dX7_byWay_20 : decode cX7_byWay 20 = .ok (.iconst 4, 1) := by decide +kernel
theorem dX7_byWay_21 : decode cX7_byWay 21 = .ok (.irem, 1) := by decide +kernel
theorem dX7_byWay_22 : decode cX7_byWay 22 = .ok (.if_icmp .ge 14, 3) := by decide +kernel
theorem dX7_byWay_25 : decode cX7_byWay 25 = .ok (.lload_n 3, 1) := by decide +kernel
theorem dX7_byWay_26 : decode cX7_byWay 26 = .ok (.invokestatic 126, 3) := by decide +kernel
theorem dX7_byWay_29 : decode cX7_byWay 29 = .ok (.lstore_n 3, 1) := by decide +kernel
theorem dX7_byWay_30 : decode cX7_byWay 30 = .ok (.iinc 5 1, 3) := by decide +kernel
theorem dX7_byWay_33 : decode cX7_byWay 33 = .ok (.goto (-16), 3) := by decide +kernel
theorem dX7_byWay_36 : decode cX7_byWay 36 = .ok (.lload_n 3, 1) := by decide +kernel
theorem dX7_byWay_37 : decode cX7_byWay 37 = .ok (.lreturn, 1) := by decide +kernel
theorem dX7_waysOf_0 : decode cX7_waysOf 0 = .ok (.iconst 0, 1) := by decide +kernel
theorem dX7_waysOf_1 : decode cX7_waysOf 1 = .ok (.istore 4, 2) := by decide +kernel
theorem dX7_waysOf_3 : decode cX7_waysOf 3 = .ok (.iconst 0, 1) := by decide +kernel
theorem dX7_waysOf_4 : decode cX7_waysOf 4 = .ok (.istore 5, 2) := by decide +kernel
theorem dX7_waysOf_6 : decode cX7_waysOf 6 = .ok (.iload 5, 2) := by decide +kernel
theorem dX7_waysOf_8 : decode cX7_waysOf 8 = .ok (.bipush 8, 2) := by decide +kernel
theorem dX7_waysOf_10 : decode cX7_waysOf 10 = .ok (.if_icmp .ge 33, 3) := by decide +kernel
theorem dX7_waysOf_13 : decode cX7_waysOf 13 = .ok (.iload 4, 2) := by decide +kernel
theorem dX7_waysOf_15 : decode cX7_waysOf 15 = .ok (.lload_n 0, 1) := by decide +kernel
theorem dX7_waysOf_16 : decode cX7_waysOf 16 = .ok (.iload 5, 2) := by decide +kernel
theorem dX7_waysOf_18 : decode cX7_waysOf 18 = .ok (.invokestatic 175, 3) := by decide +kernel
theorem dX7_waysOf_21 : decode cX7_waysOf 21 = .ok (.lload_n 2, 1) := by decide +kernel
theorem dX7_waysOf_22 : decode cX7_waysOf 22 = .ok (.lcmp, 1) := by decide +kernel
theorem dX7_waysOf_23 : decode cX7_waysOf 23 = .ok (.ifCond .ne 10, 3) := by decide +kernel
theorem dX7_waysOf_26 : decode cX7_waysOf 26 = .ok (.iconst 1, 1) := by decide +kernel
theorem dX7_waysOf_27 : decode cX7_waysOf 27 = .ok (.iload 5, 2) := by decide +kernel
theorem dX7_waysOf_29 : decode cX7_waysOf 29 = .ok (.ishl, 1) := by decide +kernel
theorem dX7_waysOf_30 : decode cX7_waysOf 30 = .ok (.goto 4, 3) := by decide +kernel
theorem dX7_waysOf_33 : decode cX7_waysOf 33 = .ok (.iconst 0, 1) := by decide +kernel
theorem dX7_waysOf_34 : decode cX7_waysOf 34 = .ok (.ior, 1) := by decide +kernel
theorem dX7_waysOf_35 : decode cX7_waysOf 35 = .ok (.istore 4, 2) := by decide +kernel
theorem dX7_waysOf_37 : decode cX7_waysOf 37 = .ok (.iinc 5 1, 3) := by decide +kernel
theorem dX7_waysOf_40 : decode cX7_waysOf 40 = .ok (.goto (-34), 3) := by decide +kernel
theorem dX7_waysOf_43 : decode cX7_waysOf 43 = .ok (.iload 4, 2) := by decide +kernel
theorem dX7_waysOf_45 : decode cX7_waysOf 45 = .ok (.ireturn, 1) := by decide +kernel
theorem dX7_alike_0 : decode cX7_alike 0 = .ok (.iload_n 1, 1) := by decide +kernel
theorem dX7_alike_1 : decode cX7_alike 1 = .ok (.invokestatic 106, 3) := by decide +kernel
theorem dX7_alike_4 : decode cX7_alike 4 = .ok (.ifCond .eq 28, 3) := by decide +kernel
theorem dX7_alike_7 : decode cX7_alike 7 = .ok (.iload_n 2, 1) := by decide +kernel
theorem dX7_alike_8 : decode cX7_alike 8 = .ok (.invokestatic 106, 3) := by decide +kernel
theorem dX7_alike_11 : decode cX7_alike 11 = .ok (.ifCond .eq 21, 3) := by decide +kernel
theorem dX7_alike_14 : decode cX7_alike 14 = .ok (.aload_n 0, 1) := by decide +kernel
theorem dX7_alike_15 : decode cX7_alike 15 = .ok (.getfield 13, 3) := by decide +kernel
theorem dX7_alike_18 : decode cX7_alike 18 = .ok (.iload_n 1, 1) := by decide +kernel
theorem dX7_alike_19 : decode cX7_alike 19 = .ok (.laload, 1) := by decide +kernel
theorem dX7_alike_20 : decode cX7_alike 20 = .ok (.aload_n 0, 1) := by decide +kernel
theorem dX7_alike_21 : decode cX7_alike 21 = .ok (.getfield 13, 3) := by decide +kernel
theorem dX7_alike_24 : decode cX7_alike 24 = .ok (.iload_n 2, 1) := by decide +kernel
theorem dX7_alike_25 : decode cX7_alike 25 = .ok (.laload, 1) := by decide +kernel
theorem dX7_alike_26 : decode cX7_alike 26 = .ok (.invokestatic 178, 3) := by decide +kernel
theorem dX7_alike_29 : decode cX7_alike 29 = .ok (.goto 4, 3) := by decide +kernel
theorem dX7_alike_32 : decode cX7_alike 32 = .ok (.iconst (-1), 1) := by decide +kernel
theorem dX7_alike_33 : decode cX7_alike 33 = .ok (.ireturn, 1) := by decide +kernel
theorem dX7_near_0 : decode cX7_near 0 = .ok (.iload_n 1, 1) := by decide +kernel
theorem dX7_near_1 : decode cX7_near 1 = .ok (.invokestatic 106, 3) := by decide +kernel
theorem dX7_near_4 : decode cX7_near 4 = .ok (.ifCond .eq 10, 3) := by decide +kernel
theorem dX7_near_7 : decode cX7_near 7 = .ok (.iload_n 2, 1) := by decide +kernel
theorem dX7_near_8 : decode cX7_near 8 = .ok (.invokestatic 106, 3) := by decide +kernel
theorem dX7_near_11 : decode cX7_near 11 = .ok (.ifCond .ne 5, 3) := by decide +kernel
theorem dX7_near_14 : decode cX7_near 14 = .ok (.iconst (-1), 1) := by decide +kernel
theorem dX7_near_15 : decode cX7_near 15 = .ok (.ireturn, 1) := by decide +kernel
theorem dX7_near_16 : decode cX7_near 16 = .ok (.iload_n 3, 1) := by decide +kernel
theorem dX7_near_17 : decode cX7_near 17 = .ok (.i2l, 1) := by decide +kernel
theorem dX7_near_18 : decode cX7_near 18 = .ok (.lconst 0, 1) := by decide +kernel
theorem dX7_near_19 : decode cX7_near 19 = .ok (.lconst 1, 1) := by decide +kernel
theorem dX7_near_20 : decode cX7_near 20 = .ok (.invokestatic 44, 3) := by decide +kernel
theorem dX7_near_23 : decode cX7_near 23 = .ok (.ifCond .ne 6, 3) := by decide +kernel
theorem dX7_near_26 : decode cX7_near 26 = .ok (.bipush (-2), 2) := by decide +kernel
theorem dX7_near_28 : decode cX7_near 28 = .ok (.ireturn, 1) := by decide +kernel
theorem dX7_near_29 : decode cX7_near 29 = .ok (.bipush 65, 2) := by decide +kernel
theorem dX7_near_31 : decode cX7_near 31 = .ok (.istore 4, 2) := by decide +kernel
theorem dX7_near_33 : decode cX7_near 33 = .ok (.iconst 0, 1) := by decide +kernel
theorem dX7_near_34 : decode cX7_near 34 = .ok (.istore 5, 2) := by decide +kernel
theorem dX7_near_36 : decode cX7_near 36 = .ok (.iconst 0, 1) := by decide +kernel
theorem dX7_near_37 : decode cX7_near 37 = .ok (.istore 6, 2) := by decide +kernel
theorem dX7_near_39 : decode cX7_near 39 = .ok (.iload 6, 2) := by decide +kernel
theorem dX7_near_41 : decode cX7_near 41 = .ok (.bipush 8, 2) := by decide +kernel
theorem dX7_near_43 : decode cX7_near 43 = .ok (.if_icmp .ge 64, 3) := by decide +kernel
theorem dX7_near_46 : decode cX7_near 46 = .ok (.aload_n 0, 1) := by decide +kernel
theorem dX7_near_47 : decode cX7_near 47 = .ok (.getfield 13, 3) := by decide +kernel
theorem dX7_near_50 : decode cX7_near 50 = .ok (.iload_n 1, 1) := by decide +kernel
theorem dX7_near_51 : decode cX7_near 51 = .ok (.laload, 1) := by decide +kernel
theorem dX7_near_52 : decode cX7_near 52 = .ok (.iload 6, 2) := by decide +kernel
theorem dX7_near_54 : decode cX7_near 54 = .ok (.invokestatic 175, 3) := by decide +kernel
theorem dX7_near_57 : decode cX7_near 57 = .ok (.aload_n 0, 1) := by decide +kernel
theorem dX7_near_58 : decode cX7_near 58 = .ok (.getfield 13, 3) := by decide +kernel
theorem dX7_near_61 : decode cX7_near 61 = .ok (.iload_n 2, 1) := by decide +kernel
theorem dX7_near_62 : decode cX7_near 62 = .ok (.laload, 1) := by decide +kernel
theorem dX7_near_63 : decode cX7_near 63 = .ok (.lxor, 1) := by decide +kernel
theorem dX7_near_64 : decode cX7_near 64 = .ok (.invokestatic 112, 3) := by decide +kernel
theorem dX7_near_67 : decode cX7_near 67 = .ok (.istore 7, 2) := by decide +kernel
theorem dX7_near_69 : decode cX7_near 69 = .ok (.iload 7, 2) := by decide +kernel
theorem dX7_near_71 : decode cX7_near 71 = .ok (.iload 4, 2) := by decide +kernel
theorem dX7_near_73 : decode cX7_near 73 = .ok (.if_icmp .ge 8, 3) := by decide +kernel
theorem dX7_near_76 : decode cX7_near 76 = .ok (.iload 6, 2) := by decide +kernel
theorem dX7_near_78 : decode cX7_near 78 = .ok (.goto 5, 3) := by decide +kernel
theorem dX7_near_81 : decode cX7_near 81 = .ok (.iload 5, 2) := by decide +kernel
theorem dX7_near_83 : decode cX7_near 83 = .ok (.istore 5, 2) := by decide +kernel
theorem dX7_near_85 : decode cX7_near 85 = .ok (.iload 7, 2) := by decide +kernel
theorem dX7_near_87 : decode cX7_near 87 = .ok (.iload 4, 2) := by decide +kernel
theorem dX7_near_89 : decode cX7_near 89 = .ok (.if_icmp .ge 8, 3) := by decide +kernel
theorem dX7_near_92 : decode cX7_near 92 = .ok (.iload 7, 2) := by decide +kernel
theorem dX7_near_94 : decode cX7_near 94 = .ok (.goto 5, 3) := by decide +kernel
theorem dX7_near_97 : decode cX7_near 97 = .ok (.iload 4, 2) := by decide +kernel
theorem dX7_near_99 : decode cX7_near 99 = .ok (.istore 4, 2) := by decide +kernel
theorem dX7_near_101 : decode cX7_near 101 = .ok (.iinc 6 1, 3) := by decide +kernel
theorem dX7_near_104 : decode cX7_near 104 = .ok (.goto (-65), 3) := by decide +kernel
theorem dX7_near_107 : decode cX7_near 107 = .ok (.iload_n 3, 1) := by decide +kernel
theorem dX7_near_108 : decode cX7_near 108 = .ok (.ifCond .ne 8, 3) := by decide +kernel
theorem dX7_near_111 : decode cX7_near 111 = .ok (.iload 4, 2) := by decide +kernel
theorem dX7_near_113 : decode cX7_near 113 = .ok (.goto 5, 3) := by decide +kernel
theorem dX7_near_116 : decode cX7_near 116 = .ok (.iload 5, 2) := by decide +kernel
theorem dX7_near_118 : decode cX7_near 118 = .ok (.ireturn, 1) := by decide +kernel
theorem dX7_layTrial_0 : decode cX7_layTrial 0 = .ok (.iconst 0, 1) := by decide +kernel
theorem dX7_layTrial_1 : decode cX7_layTrial 1 = .ok (.istore_n 1, 1) := by decide +kernel
theorem dX7_layTrial_2 : decode cX7_layTrial 2 = .ok (.iload_n 1, 1) := by decide +kernel
theorem dX7_layTrial_3 : decode cX7_layTrial 3 = .ok (.iconst 3, 1) := by decide +kernel
theorem dX7_layTrial_4 : decode cX7_layTrial 4 = .ok (.if_icmp .ge 23, 3) := by decide +kernel
theorem dX7_layTrial_7 : decode cX7_layTrial 7 = .ok (.aload_n 0, 1) := by decide +kernel
theorem dX7_layTrial_8 : decode cX7_layTrial 8 = .ok (.getfield 13, 3) := by decide +kernel
theorem dX7_layTrial_11 : decode cX7_layTrial 11 = .ok (.iconst 3, 1) := by decide +kernel
theorem dX7_layTrial_12 : decode cX7_layTrial 12 = .ok (.iload_n 1, 1) := by decide +kernel
theorem dX7_layTrial_13 : decode cX7_layTrial 13 = .ok (.iadd, 1) := by decide +kernel
theorem dX7_layTrial_14 : decode cX7_layTrial 14 = .ok (.aload_n 0, 1) := by decide +kernel
theorem dX7_layTrial_15 : decode cX7_layTrial 15 = .ok (.getfield 13, 3) := by decide +kernel
theorem dX7_layTrial_18 : decode cX7_layTrial 18 = .ok (.iload_n 1, 1) := by decide +kernel
theorem dX7_layTrial_19 : decode cX7_layTrial 19 = .ok (.laload, 1) := by decide +kernel
theorem dX7_layTrial_20 : decode cX7_layTrial 20 = .ok (.lastore, 1) := by decide +kernel
theorem dX7_layTrial_21 : decode cX7_layTrial 21 = .ok (.iinc 1 1, 3) := by decide +kernel
theorem dX7_layTrial_24 : decode cX7_layTrial 24 = .ok (.goto (-22), 3) := by decide +kernel
theorem dX7_layTrial_27 : decode cX7_layTrial 27 = .ok (.return_, 1) := by decide +kernel
theorem dX7_tryThing_0 : decode cX7_tryThing 0 = .ok (.iload_n 1, 1) := by decide +kernel
theorem dX7_tryThing_1 : decode cX7_tryThing 1 = .ok (.tableswitch 304 1 9 #[51, 51, 51, 95, 95, 159, 159, 234, 262], 51) := by decide +kernel
theorem dX7_tryThing_52 : decode cX7_tryThing 52 = .ok (.iload_n 2, 1) := by decide +kernel
theorem dX7_tryThing_53 : decode cX7_tryThing 53 = .ok (.invokestatic 106, 3) := by decide +kernel
theorem dX7_tryThing_56 : decode cX7_tryThing 56 = .ok (.ifCond .eq 19, 3) := by decide +kernel
theorem dX7_tryThing_59 : decode cX7_tryThing 59 = .ok (.iload_n 3, 1) := by decide +kernel
theorem dX7_tryThing_60 : decode cX7_tryThing 60 = .ok (.invokestatic 106, 3) := by decide +kernel
theorem dX7_tryThing_63 : decode cX7_tryThing 63 = .ok (.ifCond .eq 12, 3) := by decide +kernel
theorem dX7_tryThing_66 : decode cX7_tryThing 66 = .ok (.iload_n 2, 1) := by decide +kernel
theorem dX7_tryThing_67 : decode cX7_tryThing 67 = .ok (.iload_n 3, 1) := by decide +kernel
theorem dX7_tryThing_68 : decode cX7_tryThing 68 = .ok (.if_icmp .eq 7, 3) := by decide +kernel
theorem dX7_tryThing_71 : decode cX7_tryThing 71 = .ok (.iconst 1, 1) := by decide +kernel
theorem dX7_tryThing_72 : decode cX7_tryThing 72 = .ok (.goto 4, 3) := by decide +kernel
theorem dX7_tryThing_75 : decode cX7_tryThing 75 = .ok (.iconst 0, 1) := by decide +kernel
theorem dX7_tryThing_76 : decode cX7_tryThing 76 = .ok (.istore 4, 2) := by decide +kernel
theorem dX7_tryThing_78 : decode cX7_tryThing 78 = .ok (.iload 4, 2) := by decide +kernel
theorem dX7_tryThing_80 : decode cX7_tryThing 80 = .ok (.ifCond .eq 13, 3) := by decide +kernel
theorem dX7_tryThing_83 : decode cX7_tryThing 83 = .ok (.aload_n 0, 1) := by decide +kernel
theorem dX7_tryThing_84 : decode cX7_tryThing 84 = .ok (.iconst 1, 1) := by decide +kernel
theorem dX7_tryThing_85 : decode cX7_tryThing 85 = .ok (.iload_n 1, 1) := by decide +kernel
theorem dX7_tryThing_86 : decode cX7_tryThing 86 = .ok (.iconst 1, 1) := by decide +kernel
theorem dX7_tryThing_87 : decode cX7_tryThing 87 = .ok (.isub, 1) := by decide +kernel
theorem dX7_tryThing_88 : decode cX7_tryThing 88 = .ok (.iload_n 2, 1) := by decide +kernel
theorem dX7_tryThing_89 : decode cX7_tryThing 89 = .ok (.iload_n 3, 1) := by decide +kernel
theorem dX7_tryThing_90 : decode cX7_tryThing 90 = .ok (.invokevirtual 118, 3) := by decide +kernel
theorem dX7_tryThing_93 : decode cX7_tryThing 93 = .ok (.iload 4, 2) := by decide +kernel
theorem dX7_tryThing_95 : decode cX7_tryThing 95 = .ok (.ireturn, 1) := by decide +kernel
theorem dX7_tryThing_96 : decode cX7_tryThing 96 = .ok (.iload_n 2, 1) := by decide +kernel
theorem dX7_tryThing_97 : decode cX7_tryThing 97 = .ok (.ifCond .ne 14, 3) := by decide +kernel
theorem dX7_tryThing_100 : decode cX7_tryThing 100 = .ok (.iload_n 3, 1) := by decide +kernel
theorem dX7_tryThing_101 : decode cX7_tryThing 101 = .ok (.invokestatic 106, 3) := by decide +kernel
theorem dX7_tryThing_104 : decode cX7_tryThing 104 = .ok (.ifCond .eq 7, 3) := by decide +kernel
theorem dX7_tryThing_107 : decode cX7_tryThing 107 = .ok (.iconst 1, 1) := by decide +kernel
theorem dX7_tryThing_108 : decode cX7_tryThing 108 = .ok (.goto 4, 3) := by decide +kernel
theorem dX7_tryThing_111 : decode cX7_tryThing 111 = .ok (.iconst 0, 1) := by decide +kernel
theorem dX7_tryThing_112 : decode cX7_tryThing 112 = .ok (.istore 5, 2) := by decide +kernel
theorem dX7_tryThing_114 : decode cX7_tryThing 114 = .ok (.iload 5, 2) := by decide +kernel
theorem dX7_tryThing_116 : decode cX7_tryThing 116 = .ok (.ifCond .eq 41, 3) := by decide +kernel
theorem dX7_tryThing_119 : decode cX7_tryThing 119 = .ok (.aload_n 0, 1) := by decide +kernel
theorem dX7_tryThing_120 : decode cX7_tryThing 120 = .ok (.getfield 13, 3) := by decide +kernel
theorem dX7_tryThing_123 : decode cX7_tryThing 123 = .ok (.iconst 3, 1) := by decide +kernel
theorem dX7_tryThing_124 : decode cX7_tryThing 124 = .ok (.iload_n 3, 1) := by decide +kernel
theorem dX7_tryThing_125 : decode cX7_tryThing 125 = .ok (.iadd, 1) := by decide +kernel
theorem dX7_tryThing_126 : decode cX7_tryThing 126 = .ok (.iload_n 1, 1) := by decide +kernel
theorem dX7_tryThing_127 : decode cX7_tryThing 127 = .ok (.iconst 4, 1) := by decide +kernel
theorem dX7_tryThing_128 : decode cX7_tryThing 128 = .ok (.if_icmp .ne 17, 3) := by decide +kernel
theorem dX7_tryThing_131 : decode cX7_tryThing 131 = .ok (.aload_n 0, 1) := by decide +kernel
theorem dX7_tryThing_132 : decode cX7_tryThing 132 = .ok (.getfield 13, 3) := by decide +kernel
theorem dX7_tryThing_135 : decode cX7_tryThing 135 = .ok (.iconst 3, 1) := by decide +kernel
theorem dX7_tryThing_136 : decode cX7_tryThing 136 = .ok (.iload_n 3, 1) := by decide +kernel
theorem dX7_tryThing_137 : decode cX7_tryThing 137 = .ok (.iadd, 1) := by decide +kernel
theorem dX7_tryThing_138 : decode cX7_tryThing 138 = .ok (.laload, 1) := by decide +kernel
theorem dX7_tryThing_139 : decode cX7_tryThing 139 = .ok (.invokestatic 126, 3) := by decide +kernel
theorem dX7_tryThing_142 : decode cX7_tryThing 142 = .ok (.goto 14, 3) := by decide +kernel
theorem dX7_tryThing_145 : decode cX7_tryThing 145 = .ok (.aload_n 0, 1) := by decide +kernel
theorem dX7_tryThing_146 : decode cX7_tryThing 146 = .ok (.getfield 13, 3) := by decide +kernel
theorem dX7_tryThing_149 : decode cX7_tryThing 149 = .ok (.iconst 3, 1) := by decide +kernel
theorem dX7_tryThing_150 : decode cX7_tryThing 150 = .ok (.iload_n 3, 1) := by decide +kernel
theorem dX7_tryThing_151 : decode cX7_tryThing 151 = .ok (.iadd, 1) := by decide +kernel
theorem dX7_tryThing_152 : decode cX7_tryThing 152 = .ok (.laload, 1) := by decide +kernel
theorem dX7_tryThing_153 : decode cX7_tryThing 153 = .ok (.invokestatic 130, 3) := by decide +kernel
theorem dX7_tryThing_156 : decode cX7_tryThing 156 = .ok (.lastore, 1) := by decide +kernel
theorem dX7_tryThing_157 : decode cX7_tryThing 157 = .ok (.iload 5, 2) := by decide +kernel
theorem dX7_tryThing_159 : decode cX7_tryThing 159 = .ok (.ireturn, 1) := by decide +kernel
theorem dX7_tryThing_160 : decode cX7_tryThing 160 = .ok (.iload_n 2, 1) := by decide +kernel
theorem dX7_tryThing_161 : decode cX7_tryThing 161 = .ok (.invokestatic 106, 3) := by decide +kernel
theorem dX7_tryThing_164 : decode cX7_tryThing 164 = .ok (.ifCond .eq 19, 3) := by decide +kernel
theorem dX7_tryThing_167 : decode cX7_tryThing 167 = .ok (.iload_n 3, 1) := by decide +kernel
theorem dX7_tryThing_168 : decode cX7_tryThing 168 = .ok (.i2l, 1) := by decide +kernel
theorem dX7_tryThing_169 : decode cX7_tryThing 169 = .ok (.lconst 0, 1) := by decide +kernel
theorem dX7_tryThing_170 : decode cX7_tryThing 170 = .ok (.ldc2_w 133, 3) := by decide +kernel
theorem dX7_tryThing_173 : decode cX7_tryThing 173 = .ok (.invokestatic 44, 3) := by decide +kernel
theorem dX7_tryThing_176 : decode cX7_tryThing 176 = .ok (.ifCond .eq 7, 3) := by decide +kernel
theorem dX7_tryThing_179 : decode cX7_tryThing 179 = .ok (.iconst 1, 1) := by decide +kernel
theorem dX7_tryThing_180 : decode cX7_tryThing 180 = .ok (.goto 4, 3) := by decide +kernel
theorem dX7_tryThing_183 : decode cX7_tryThing 183 = .ok (.iconst 0, 1) := by decide +kernel
theorem dX7_tryThing_184 : decode cX7_tryThing 184 = .ok (.istore 6, 2) := by decide +kernel
theorem dX7_tryThing_186 : decode cX7_tryThing 186 = .ok (.iload 6, 2) := by decide +kernel
theorem dX7_tryThing_188 : decode cX7_tryThing 188 = .ok (.ifCond .eq 44, 3) := by decide +kernel
theorem dX7_tryThing_191 : decode cX7_tryThing 191 = .ok (.aload_n 0, 1) := by decide +kernel
theorem dX7_tryThing_192 : decode cX7_tryThing 192 = .ok (.getfield 13, 3) := by decide +kernel
theorem dX7_tryThing_195 : decode cX7_tryThing 195 = .ok (.iconst 3, 1) := by decide +kernel
theorem dX7_tryThing_196 : decode cX7_tryThing 196 = .ok (.iload_n 2, 1) := by decide +kernel
theorem dX7_tryThing_197 : decode cX7_tryThing 197 = .ok (.iadd, 1) := by decide +kernel
theorem dX7_tryThing_198 : decode cX7_tryThing 198 = .ok (.iload_n 1, 1) := by decide +kernel
theorem dX7_tryThing_199 : decode cX7_tryThing 199 = .ok (.bipush 6, 2) := by decide +kernel
theorem dX7_tryThing_201 : decode cX7_tryThing 201 = .ok (.if_icmp .ne 18, 3) := by decide +kernel
theorem dX7_tryThing_204 : decode cX7_tryThing 204 = .ok (.aload_n 0, 1) := by decide +kernel
theorem dX7_tryThing_205 : decode cX7_tryThing 205 = .ok (.getfield 13, 3) := by decide +kernel
theorem dX7_tryThing_208 : decode cX7_tryThing 208 = .ok (.iconst 3, 1) := by decide +kernel
theorem dX7_tryThing_209 : decode cX7_tryThing 209 = .ok (.iload_n 2, 1) := by decide +kernel
theorem dX7_tryThing_210 : decode cX7_tryThing 210 = .ok (.iadd, 1) := by decide +kernel
theorem dX7_tryThing_211 : decode cX7_tryThing 211 = .ok (.laload, 1) := by decide +kernel
theorem dX7_tryThing_212 : decode cX7_tryThing 212 = .ok (.iload_n 3, 1) := by decide +kernel
theorem dX7_tryThing_213 : decode cX7_tryThing 213 = .ok (.invokestatic 135, 3) := by decide +kernel
theorem dX7_tryThing_216 : decode cX7_tryThing 216 = .ok (.goto 15, 3) := by decide +kernel
theorem dX7_tryThing_219 : decode cX7_tryThing 219 = .ok (.aload_n 0, 1) := by decide +kernel
theorem dX7_tryThing_220 : decode cX7_tryThing 220 = .ok (.getfield 13, 3) := by decide +kernel
theorem dX7_tryThing_223 : decode cX7_tryThing 223 = .ok (.iconst 3, 1) := by decide +kernel
theorem dX7_tryThing_224 : decode cX7_tryThing 224 = .ok (.iload_n 2, 1) := by decide +kernel
theorem dX7_tryThing_225 : decode cX7_tryThing 225 = .ok (.iadd, 1) := by decide +kernel
theorem dX7_tryThing_226 : decode cX7_tryThing 226 = .ok (.laload, 1) := by decide +kernel
theorem dX7_tryThing_227 : decode cX7_tryThing 227 = .ok (.iload_n 3, 1) := by decide +kernel
theorem dX7_tryThing_228 : decode cX7_tryThing 228 = .ok (.invokestatic 139, 3) := by decide +kernel
theorem dX7_tryThing_231 : decode cX7_tryThing 231 = .ok (.lastore, 1) := by decide +kernel
theorem dX7_tryThing_232 : decode cX7_tryThing 232 = .ok (.iload 6, 2) := by decide +kernel
theorem dX7_tryThing_234 : decode cX7_tryThing 234 = .ok (.ireturn, 1) := by decide +kernel
theorem dX7_tryThing_235 : decode cX7_tryThing 235 = .ok (.iload_n 2, 1) := by decide +kernel
theorem dX7_tryThing_236 : decode cX7_tryThing 236 = .ok (.invokestatic 106, 3) := by decide +kernel
theorem dX7_tryThing_239 : decode cX7_tryThing 239 = .ok (.ifCond .eq 22, 3) := by decide +kernel
theorem dX7_tryThing_242 : decode cX7_tryThing 242 = .ok (.aload_n 0, 1) := by decide +kernel
theorem dX7_tryThing_243 : decode cX7_tryThing 243 = .ok (.getfield 13, 3) := by decide +kernel
theorem dX7_tryThing_246 : decode cX7_tryThing 246 = .ok (.iconst 3, 1) := by decide +kernel
theorem dX7_tryThing_247 : decode cX7_tryThing 247 = .ok (.iload_n 2, 1) := by decide +kernel
theorem dX7_tryThing_248 : decode cX7_tryThing 248 = .ok (.iadd, 1) := by decide +kernel
theorem dX7_tryThing_249 : decode cX7_tryThing 249 = .ok (.laload, 1) := by decide +kernel
theorem dX7_tryThing_250 : decode cX7_tryThing 250 = .ok (.invokestatic 164, 3) := by decide +kernel
theorem dX7_tryThing_253 : decode cX7_tryThing 253 = .ok (.iload_n 3, 1) := by decide +kernel
theorem dX7_tryThing_254 : decode cX7_tryThing 254 = .ok (.if_icmp .lt 7, 3) := by decide +kernel
theorem dX7_tryThing_257 : decode cX7_tryThing 257 = .ok (.iconst 1, 1) := by decide +kernel
theorem dX7_tryThing_258 : decode cX7_tryThing 258 = .ok (.goto 4, 3) := by decide +kernel
theorem dX7_tryThing_261 : decode cX7_tryThing 261 = .ok (.iconst 0, 1) := by decide +kernel
theorem dX7_tryThing_262 : decode cX7_tryThing 262 = .ok (.ireturn, 1) := by decide +kernel
theorem dX7_tryThing_263 : decode cX7_tryThing 263 = .ok (.iload_n 2, 1) := by decide +kernel
theorem dX7_tryThing_264 : decode cX7_tryThing 264 = .ok (.invokestatic 106, 3) := by decide +kernel
theorem dX7_tryThing_267 : decode cX7_tryThing 267 = .ok (.ifCond .eq 36, 3) := by decide +kernel
theorem dX7_tryThing_270 : decode cX7_tryThing 270 = .ok (.iload_n 3, 1) := by decide +kernel
theorem dX7_tryThing_271 : decode cX7_tryThing 271 = .ok (.invokestatic 106, 3) := by decide +kernel
theorem dX7_tryThing_274 : decode cX7_tryThing 274 = .ok (.ifCond .eq 29, 3) := by decide +kernel
theorem dX7_tryThing_277 : decode cX7_tryThing 277 = .ok (.aload_n 0, 1) := by decide +kernel
theorem dX7_tryThing_278 : decode cX7_tryThing 278 = .ok (.getfield 13, 3) := by decide +kernel
theorem dX7_tryThing_281 : decode cX7_tryThing 281 = .ok (.iconst 3, 1) := by decide +kernel
theorem dX7_tryThing_282 : decode cX7_tryThing 282 = .ok (.iload_n 2, 1) := by decide +kernel
theorem dX7_tryThing_283 : decode cX7_tryThing 283 = .ok (.iadd, 1) := by decide +kernel
theorem dX7_tryThing_284 : decode cX7_tryThing 284 = .ok (.laload, 1) := by decide +kernel
theorem dX7_tryThing_285 : decode cX7_tryThing 285 = .ok (.aload_n 0, 1) := by decide +kernel
theorem dX7_tryThing_286 : decode cX7_tryThing 286 = .ok (.getfield 13, 3) := by decide +kernel
theorem dX7_tryThing_289 : decode cX7_tryThing 289 = .ok (.iconst 3, 1) := by decide +kernel
theorem dX7_tryThing_290 : decode cX7_tryThing 290 = .ok (.iload_n 3, 1) := by decide +kernel
theorem dX7_tryThing_291 : decode cX7_tryThing 291 = .ok (.iadd, 1) := by decide +kernel
theorem dX7_tryThing_292 : decode cX7_tryThing 292 = .ok (.laload, 1) := by decide +kernel
theorem dX7_tryThing_293 : decode cX7_tryThing 293 = .ok (.invokestatic 178, 3) := by decide +kernel
theorem dX7_tryThing_296 : decode cX7_tryThing 296 = .ok (.ifCond .le 7, 3) := by decide +kernel
theorem dX7_tryThing_299 : decode cX7_tryThing 299 = .ok (.iconst 1, 1) := by decide +kernel
theorem dX7_tryThing_300 : decode cX7_tryThing 300 = .ok (.goto 4, 3) := by decide +kernel
theorem dX7_tryThing_303 : decode cX7_tryThing 303 = .ok (.iconst 0, 1) := by decide +kernel
theorem dX7_tryThing_304 : decode cX7_tryThing 304 = .ok (.ireturn, 1) := by decide +kernel
theorem dX7_tryThing_305 : decode cX7_tryThing 305 = .ok (.iconst 0, 1) := by decide +kernel
theorem dX7_tryThing_306 : decode cX7_tryThing 306 = .ok (.ireturn, 1) := by decide +kernel
theorem dX7_thousandTo_0 : decode cX7_thousandTo 0 = .ok (.lconst 1, 1) := by decide +kernel
theorem dX7_thousandTo_1 : decode cX7_thousandTo 1 = .ok (.lstore_n 1, 1) := by decide +kernel
theorem dX7_thousandTo_2 : decode cX7_thousandTo 2 = .ok (.iconst 0, 1) := by decide +kernel
theorem dX7_thousandTo_3 : decode cX7_thousandTo 3 = .ok (.istore_n 3, 1) := by decide +kernel
theorem dX7_thousandTo_4 : decode cX7_thousandTo 4 = .ok (.iload_n 3, 1) := by decide +kernel
theorem dX7_thousandTo_5 : decode cX7_thousandTo 5 = .ok (.iload_n 0, 1) := by decide +kernel
theorem dX7_thousandTo_6 : decode cX7_thousandTo 6 = .ok (.if_icmp .ge 15, 3) := by decide +kernel
theorem dX7_thousandTo_9 : decode cX7_thousandTo 9 = .ok (.lload_n 1, 1) := by decide +kernel
theorem dX7_thousandTo_10 : decode cX7_thousandTo 10 = .ok (.ldc2_w 182, 3) := by decide +kernel
theorem dX7_thousandTo_13 : decode cX7_thousandTo 13 = .ok (.lmul, 1) := by decide +kernel
theorem dX7_thousandTo_14 : decode cX7_thousandTo 14 = .ok (.lstore_n 1, 1) := by decide +kernel
theorem dX7_thousandTo_15 : decode cX7_thousandTo 15 = .ok (.iinc 3 1, 3) := by decide +kernel
theorem dX7_thousandTo_18 : decode cX7_thousandTo 18 = .ok (.goto (-14), 3) := by decide +kernel
theorem dX7_thousandTo_21 : decode cX7_thousandTo 21 = .ok (.lload_n 1, 1) := by decide +kernel
theorem dX7_thousandTo_22 : decode cX7_thousandTo 22 = .ok (.lreturn, 1) := by decide +kernel
theorem dX7_judge_0 : decode cX7_judge 0 = .ok (.iload_n 1, 1) := by decide +kernel
theorem dX7_judge_1 : decode cX7_judge 1 = .ok (.i2l, 1) := by decide +kernel
theorem dX7_judge_2 : decode cX7_judge 2 = .ok (.lconst 1, 1) := by decide +kernel
theorem dX7_judge_3 : decode cX7_judge 3 = .ok (.ldc2_w 184, 3) := by decide +kernel
theorem dX7_judge_6 : decode cX7_judge 6 = .ok (.invokestatic 44, 3) := by decide +kernel
theorem dX7_judge_9 : decode cX7_judge 9 = .ok (.ifCond .eq 17, 3) := by decide +kernel
theorem dX7_judge_12 : decode cX7_judge 12 = .ok (.lload_n 2, 1) := by decide +kernel
theorem dX7_judge_13 : decode cX7_judge 13 = .ok (.lconst 0, 1) := by decide +kernel
theorem dX7_judge_14 : decode cX7_judge 14 = .ok (.iload_n 1, 1) := by decide +kernel
theorem dX7_judge_15 : decode cX7_judge 15 = .ok (.invokestatic 186, 3) := by decide +kernel
theorem dX7_judge_18 : decode cX7_judge 18 = .ok (.lconst 1, 1) := by decide +kernel
theorem dX7_judge_19 : decode cX7_judge 19 = .ok (.lsub, 1) := by decide +kernel
theorem dX7_judge_20 : decode cX7_judge 20 = .ok (.invokestatic 44, 3) := by decide +kernel
theorem dX7_judge_23 : decode cX7_judge 23 = .ok (.ifCond .ne 6, 3) := by decide +kernel
theorem dX7_judge_26 : decode cX7_judge 26 = .ok (.bipush (-2), 2) := by decide +kernel
theorem dX7_judge_28 : decode cX7_judge 28 = .ok (.ireturn, 1) := by decide +kernel
theorem dX7_judge_29 : decode cX7_judge 29 = .ok (.aload_n 0, 1) := by decide +kernel
theorem dX7_judge_30 : decode cX7_judge 30 = .ok (.invokevirtual 190, 3) := by decide +kernel
theorem dX7_judge_33 : decode cX7_judge 33 = .ok (.iconst 0, 1) := by decide +kernel
theorem dX7_judge_34 : decode cX7_judge 34 = .ok (.istore 4, 2) := by decide +kernel
theorem dX7_judge_36 : decode cX7_judge 36 = .ok (.iload 4, 2) := by decide +kernel
theorem dX7_judge_38 : decode cX7_judge 38 = .ok (.iload_n 1, 1) := by decide +kernel
theorem dX7_judge_39 : decode cX7_judge 39 = .ok (.if_icmp .ge 55, 3) := by decide +kernel
theorem dX7_judge_42 : decode cX7_judge 42 = .ok (.lload_n 2, 1) := by decide +kernel
theorem dX7_judge_43 : decode cX7_judge 43 = .ok (.iload_n 1, 1) := by decide +kernel
theorem dX7_judge_44 : decode cX7_judge 44 = .ok (.iconst 1, 1) := by decide +kernel
theorem dX7_judge_45 : decode cX7_judge 45 = .ok (.isub, 1) := by decide +kernel
theorem dX7_judge_46 : decode cX7_judge 46 = .ok (.iload 4, 2) := by decide +kernel
theorem dX7_judge_48 : decode cX7_judge 48 = .ok (.isub, 1) := by decide +kernel
theorem dX7_judge_49 : decode cX7_judge 49 = .ok (.invokestatic 186, 3) := by decide +kernel
theorem dX7_judge_52 : decode cX7_judge 52 = .ok (.ldiv, 1) := by decide +kernel
theorem dX7_judge_53 : decode cX7_judge 53 = .ok (.ldc2_w 182, 3) := by decide +kernel
theorem dX7_judge_56 : decode cX7_judge 56 = .ok (.lrem, 1) := by decide +kernel
theorem dX7_judge_57 : decode cX7_judge 57 = .ok (.l2i, 1) := by decide +kernel
theorem dX7_judge_58 : decode cX7_judge 58 = .ok (.istore 5, 2) := by decide +kernel
theorem dX7_judge_60 : decode cX7_judge 60 = .ok (.aload_n 0, 1) := by decide +kernel
theorem dX7_judge_61 : decode cX7_judge 61 = .ok (.iload 5, 2) := by decide +kernel
theorem dX7_judge_63 : decode cX7_judge 63 = .ok (.bipush 100, 2) := by decide +kernel
theorem dX7_judge_65 : decode cX7_judge 65 = .ok (.idiv, 1) := by decide +kernel
theorem dX7_judge_66 : decode cX7_judge 66 = .ok (.iload 5, 2) := by decide +kernel
theorem dX7_judge_68 : decode cX7_judge 68 = .ok (.bipush 10, 2) := by decide +kernel
theorem dX7_judge_70 : decode cX7_judge 70 = .ok (.idiv, 1) := by decide +kernel
theorem dX7_judge_71 : decode cX7_judge 71 = .ok (.bipush 10, 2) := by decide +kernel
theorem dX7_judge_73 : decode cX7_judge 73 = .ok (.irem, 1) := by decide +kernel
theorem dX7_judge_74 : decode cX7_judge 74 = .ok (.iload 5, 2) := by decide +kernel
theorem dX7_judge_76 : decode cX7_judge 76 = .ok (.bipush 10, 2) := by decide +kernel
theorem dX7_judge_78 : decode cX7_judge 78 = .ok (.irem, 1) := by decide +kernel
theorem dX7_judge_79 : decode cX7_judge 79 = .ok (.invokevirtual 193, 3) := by decide +kernel
theorem dX7_judge_82 : decode cX7_judge 82 = .ok (.ifCond .ne 6, 3) := by decide +kernel
theorem dX7_judge_85 : decode cX7_judge 85 = .ok (.iload 4, 2) := by decide +kernel
theorem dX7_judge_87 : decode cX7_judge 87 = .ok (.ireturn, 1) := by decide +kernel
theorem dX7_judge_88 : decode cX7_judge 88 = .ok (.iinc 4 1, 3) := by decide +kernel
theorem dX7_judge_91 : decode cX7_judge 91 = .ok (.goto (-55), 3) := by decide +kernel
theorem dX7_judge_94 : decode cX7_judge 94 = .ok (.bipush (-9), 2) := by decide +kernel
theorem dX7_judge_96 : decode cX7_judge 96 = .ok (.ireturn, 1) := by decide +kernel
theorem dX7_see_0 : decode cX7_see 0 = .ok (.iload_n 1, 1) := by decide +kernel
theorem dX7_see_1 : decode cX7_see 1 = .ok (.i2l, 1) := by decide +kernel
theorem dX7_see_2 : decode cX7_see 2 = .ok (.lconst 0, 1) := by decide +kernel
theorem dX7_see_3 : decode cX7_see 3 = .ok (.ldc2_w 173, 3) := by decide +kernel
theorem dX7_see_6 : decode cX7_see 6 = .ok (.invokestatic 44, 3) := by decide +kernel
theorem dX7_see_9 : decode cX7_see 9 = .ok (.ifCond .ne 5, 3) := by decide +kernel
theorem dX7_see_12 : decode cX7_see 12 = .ok (.iconst (-1), 1) := by decide +kernel
theorem dX7_see_13 : decode cX7_see 13 = .ok (.ireturn, 1) := by decide +kernel
theorem dX7_see_14 : decode cX7_see 14 = .ok (.iload_n 2, 1) := by decide +kernel
theorem dX7_see_15 : decode cX7_see 15 = .ok (.i2l, 1) := by decide +kernel
theorem dX7_see_16 : decode cX7_see 16 = .ok (.lconst 0, 1) := by decide +kernel
theorem dX7_see_17 : decode cX7_see 17 = .ok (.lconst 1, 1) := by decide +kernel
theorem dX7_see_18 : decode cX7_see 18 = .ok (.invokestatic 44, 3) := by decide +kernel
theorem dX7_see_21 : decode cX7_see 21 = .ok (.ifCond .ne 6, 3) := by decide +kernel
theorem dX7_see_24 : decode cX7_see 24 = .ok (.bipush (-2), 2) := by decide +kernel
theorem dX7_see_26 : decode cX7_see 26 = .ok (.ireturn, 1) := by decide +kernel
theorem dX7_see_27 : decode cX7_see 27 = .ok (.aload_n 0, 1) := by decide +kernel
theorem dX7_see_28 : decode cX7_see 28 = .ok (.getfield 196, 3) := by decide +kernel
theorem dX7_see_31 : decode cX7_see 31 = .ok (.bipush 6, 2) := by decide +kernel
theorem dX7_see_33 : decode cX7_see 33 = .ok (.if_icmp .ne 6, 3) := by decide +kernel
theorem dX7_see_36 : decode cX7_see 36 = .ok (.bipush (-4), 2) := by decide +kernel
theorem dX7_see_38 : decode cX7_see 38 = .ok (.ireturn, 1) := by decide +kernel
theorem dX7_see_39 : decode cX7_see 39 = .ok (.aload_n 0, 1) := by decide +kernel
theorem dX7_see_40 : decode cX7_see 40 = .ok (.getfield 29, 3) := by decide +kernel
theorem dX7_see_43 : decode cX7_see 43 = .ok (.aload_n 0, 1) := by decide +kernel
theorem dX7_see_44 : decode cX7_see 44 = .ok (.getfield 196, 3) := by decide +kernel
theorem dX7_see_47 : decode cX7_see 47 = .ok (.iload_n 1, 1) := by decide +kernel
theorem dX7_see_48 : decode cX7_see 48 = .ok (.iastore, 1) := by decide +kernel
theorem dX7_see_49 : decode cX7_see 49 = .ok (.aload_n 0, 1) := by decide +kernel
theorem dX7_see_50 : decode cX7_see 50 = .ok (.getfield 32, 3) := by decide +kernel
theorem dX7_see_53 : decode cX7_see 53 = .ok (.aload_n 0, 1) := by decide +kernel
theorem dX7_see_54 : decode cX7_see 54 = .ok (.getfield 196, 3) := by decide +kernel
theorem dX7_see_57 : decode cX7_see 57 = .ok (.iload_n 2, 1) := by decide +kernel
theorem dX7_see_58 : decode cX7_see 58 = .ok (.iastore, 1) := by decide +kernel
theorem dX7_see_59 : decode cX7_see 59 = .ok (.aload_n 0, 1) := by decide +kernel
theorem dX7_see_60 : decode cX7_see 60 = .ok (.dup, 1) := by decide +kernel
theorem dX7_see_61 : decode cX7_see 61 = .ok (.getfield 196, 3) := by decide +kernel
theorem dX7_see_64 : decode cX7_see 64 = .ok (.iconst 1, 1) := by decide +kernel
theorem dX7_see_65 : decode cX7_see 65 = .ok (.iadd, 1) := by decide +kernel
theorem dX7_see_66 : decode cX7_see 66 = .ok (.putfield 196, 3) := by decide +kernel
theorem dX7_see_69 : decode cX7_see 69 = .ok (.aload_n 0, 1) := by decide +kernel
theorem dX7_see_70 : decode cX7_see 70 = .ok (.getfield 196, 3) := by decide +kernel
theorem dX7_see_73 : decode cX7_see 73 = .ok (.ireturn, 1) := by decide +kernel
theorem dX7_unsee_0 : decode cX7_unsee 0 = .ok (.aload_n 0, 1) := by decide +kernel
theorem dX7_unsee_1 : decode cX7_unsee 1 = .ok (.getfield 196, 3) := by decide +kernel
theorem dX7_unsee_4 : decode cX7_unsee 4 = .ok (.istore_n 1, 1) := by decide +kernel
theorem dX7_unsee_5 : decode cX7_unsee 5 = .ok (.aload_n 0, 1) := by decide +kernel
theorem dX7_unsee_6 : decode cX7_unsee 6 = .ok (.iconst 0, 1) := by decide +kernel
theorem dX7_unsee_7 : decode cX7_unsee 7 = .ok (.putfield 196, 3) := by decide +kernel
theorem dX7_unsee_10 : decode cX7_unsee 10 = .ok (.iload_n 1, 1) := by decide +kernel
theorem dX7_unsee_11 : decode cX7_unsee 11 = .ok (.ireturn, 1) := by decide +kernel
theorem dX7_leafLetter_0 : decode cX7_leafLetter 0 = .ok (.iload_n 0, 1) := by decide +kernel
theorem dX7_leafLetter_1 : decode cX7_leafLetter 1 = .ok (.ifCond .ne 8, 3) := by decide +kernel
theorem dX7_leafLetter_4 : decode cX7_leafLetter 4 = .ok (.bipush 98, 2) := by decide +kernel
theorem dX7_leafLetter_6 : decode cX7_leafLetter 6 = .ok (.goto 25, 3) := by decide +kernel
theorem dX7_leafLetter_9 : decode cX7_leafLetter 9 = .ok (.iload_n 0, 1) := by decide +kernel
theorem dX7_leafLetter_10 : decode cX7_leafLetter 10 = .ok (.iconst 1, 1) := by decide +kernel
theorem dX7_leafLetter_11 : decode cX7_leafLetter 11 = .ok (.if_icmp .ne 8, 3) := by decide +kernel
theorem dX7_leafLetter_14 : decode cX7_leafLetter 14 = .ok (.bipush 119, 2) := by decide +kernel
theorem dX7_leafLetter_16 : decode cX7_leafLetter 16 = .ok (.goto 15, 3) := by decide +kernel
theorem dX7_leafLetter_19 : decode cX7_leafLetter 19 = .ok (.iload_n 0, 1) := by decide +kernel
theorem dX7_leafLetter_20 : decode cX7_leafLetter 20 = .ok (.iconst 2, 1) := by decide +kernel
theorem dX7_leafLetter_21 : decode cX7_leafLetter 21 = .ok (.if_icmp .ne 8, 3) := by decide +kernel
theorem dX7_leafLetter_24 : decode cX7_leafLetter 24 = .ok (.bipush 103, 2) := by decide +kernel
theorem dX7_leafLetter_26 : decode cX7_leafLetter 26 = .ok (.goto 5, 3) := by decide +kernel
theorem dX7_leafLetter_29 : decode cX7_leafLetter 29 = .ok (.bipush 115, 2) := by decide +kernel
theorem dX7_leafLetter_31 : decode cX7_leafLetter 31 = .ok (.ireturn, 1) := by decide +kernel
theorem dX7_mayBe_0 : decode cX7_mayBe 0 = .ok (.iconst 1, 1) := by decide +kernel
theorem dX7_mayBe_1 : decode cX7_mayBe 1 = .ok (.istore_n 2, 1) := by decide +kernel
theorem dX7_mayBe_2 : decode cX7_mayBe 2 = .ok (.iconst 0, 1) := by decide +kernel
theorem dX7_mayBe_3 : decode cX7_mayBe 3 = .ok (.istore_n 3, 1) := by decide +kernel
theorem dX7_mayBe_4 : decode cX7_mayBe 4 = .ok (.iload_n 3, 1) := by decide +kernel
theorem dX7_mayBe_5 : decode cX7_mayBe 5 = .ok (.aload_n 0, 1) := by decide +kernel
theorem dX7_mayBe_6 : decode cX7_mayBe 6 = .ok (.getfield 196, 3) := by decide +kernel
theorem dX7_mayBe_9 : decode cX7_mayBe 9 = .ok (.if_icmp .ge 97, 3) := by decide +kernel
theorem dX7_mayBe_12 : decode cX7_mayBe 12 = .ok (.aload_n 0, 1) := by decide +kernel
theorem dX7_mayBe_13 : decode cX7_mayBe 13 = .ok (.getfield 29, 3) := by decide +kernel
theorem dX7_mayBe_16 : decode cX7_mayBe 16 = .ok (.iload_n 3, 1) := by decide +kernel
theorem dX7_mayBe_17 : decode cX7_mayBe 17 = .ok (.iaload, 1) := by decide +kernel
theorem dX7_mayBe_18 : decode cX7_mayBe 18 = .ok (.bipush 8, 2) := by decide +kernel
theorem dX7_mayBe_20 : decode cX7_mayBe 20 = .ok (.irem, 1) := by decide +kernel
theorem dX7_mayBe_21 : decode cX7_mayBe 21 = .ok (.istore 4, 2) := by decide +kernel
theorem dX7_mayBe_23 : decode cX7_mayBe 23 = .ok (.aload_n 0, 1) := by decide +kernel
theorem dX7_mayBe_24 : decode cX7_mayBe 24 = .ok (.getfield 29, 3) := by decide +kernel
theorem dX7_mayBe_27 : decode cX7_mayBe 27 = .ok (.iload_n 3, 1) := by decide +kernel
theorem dX7_mayBe_28 : decode cX7_mayBe 28 = .ok (.iaload, 1) := by decide +kernel
theorem dX7_mayBe_29 : decode cX7_mayBe 29 = .ok (.bipush 8, 2) := by decide +kernel
theorem dX7_mayBe_31 : decode cX7_mayBe 31 = .ok (.idiv, 1) := by decide +kernel
theorem dX7_mayBe_32 : decode cX7_mayBe 32 = .ok (.istore 5, 2) := by decide +kernel
theorem dX7_mayBe_34 : decode cX7_mayBe 34 = .ok (.iload 4, 2) := by decide +kernel
theorem dX7_mayBe_36 : decode cX7_mayBe 36 = .ok (.iconst 4, 1) := by decide +kernel
theorem dX7_mayBe_37 : decode cX7_mayBe 37 = .ok (.idiv, 1) := by decide +kernel
theorem dX7_mayBe_38 : decode cX7_mayBe 38 = .ok (.iconst 2, 1) := by decide +kernel
theorem dX7_mayBe_39 : decode cX7_mayBe 39 = .ok (.iload 5, 2) := by decide +kernel
theorem dX7_mayBe_41 : decode cX7_mayBe 41 = .ok (.iconst 4, 1) := by decide +kernel
theorem dX7_mayBe_42 : decode cX7_mayBe 42 = .ok (.idiv, 1) := by decide +kernel
theorem dX7_mayBe_43 : decode cX7_mayBe 43 = .ok (.imul, 1) := by decide +kernel
theorem dX7_mayBe_44 : decode cX7_mayBe 44 = .ok (.iadd, 1) := by decide +kernel
theorem dX7_mayBe_45 : decode cX7_mayBe 45 = .ok (.istore 6, 2) := by decide +kernel
theorem dX7_mayBe_47 : decode cX7_mayBe 47 = .ok (.iload_n 1, 1) := by decide +kernel
theorem dX7_mayBe_48 : decode cX7_mayBe 48 = .ok (.bipush 6, 2) := by decide +kernel
theorem dX7_mayBe_50 : decode cX7_mayBe 50 = .ok (.iconst 2, 1) := by decide +kernel
theorem dX7_mayBe_51 : decode cX7_mayBe 51 = .ok (.iload 6, 2) := by decide +kernel
theorem dX7_mayBe_53 : decode cX7_mayBe 53 = .ok (.imul, 1) := by decide +kernel
theorem dX7_mayBe_54 : decode cX7_mayBe 54 = .ok (.isub, 1) := by decide +kernel
theorem dX7_mayBe_55 : decode cX7_mayBe 55 = .ok (.ishr, 1) := by decide +kernel
theorem dX7_mayBe_56 : decode cX7_mayBe 56 = .ok (.iconst 3, 1) := by decide +kernel
theorem dX7_mayBe_57 : decode cX7_mayBe 57 = .ok (.iand, 1) := by decide +kernel
theorem dX7_mayBe_58 : decode cX7_mayBe 58 = .ok (.istore 7, 2) := by decide +kernel
theorem dX7_mayBe_60 : decode cX7_mayBe 60 = .ok (.iload_n 2, 1) := by decide +kernel
theorem dX7_mayBe_61 : decode cX7_mayBe 61 = .ok (.ifCond .eq 37, 3) := by decide +kernel
theorem dX7_mayBe_64 : decode cX7_mayBe 64 = .ok (.iload 7, 2) := by decide +kernel
theorem dX7_mayBe_66 : decode cX7_mayBe 66 = .ok (.invokestatic 199, 3) := by decide +kernel
theorem dX7_mayBe_69 : decode cX7_mayBe 69 = .ok (.iload 4, 2) := by decide +kernel
theorem dX7_mayBe_71 : decode cX7_mayBe 71 = .ok (.iload 5, 2) := by decide +kernel
theorem dX7_mayBe_73 : decode cX7_mayBe 73 = .ok (.invokestatic 63, 3) := by decide +kernel
theorem dX7_mayBe_76 : decode cX7_mayBe 76 = .ok (.aload_n 0, 1) := by decide +kernel
theorem dX7_mayBe_77 : decode cX7_mayBe 77 = .ok (.getfield 32, 3) := by decide +kernel
theorem dX7_mayBe_80 : decode cX7_mayBe 80 = .ok (.iload_n 3, 1) := by decide +kernel
theorem dX7_mayBe_81 : decode cX7_mayBe 81 = .ok (.iaload, 1) := by decide +kernel
theorem dX7_mayBe_82 : decode cX7_mayBe 82 = .ok (.iconst 1, 1) := by decide +kernel
theorem dX7_mayBe_83 : decode cX7_mayBe 83 = .ok (.if_icmp .ne 7, 3) := by decide +kernel
theorem dX7_mayBe_86 : decode cX7_mayBe 86 = .ok (.iconst 1, 1) := by decide +kernel
theorem dX7_mayBe_87 : decode cX7_mayBe 87 = .ok (.goto 4, 3) := by decide +kernel
theorem dX7_mayBe_90 : decode cX7_mayBe 90 = .ok (.iconst 0, 1) := by decide +kernel
theorem dX7_mayBe_91 : decode cX7_mayBe 91 = .ok (.if_icmp .ne 7, 3) := by decide +kernel
theorem dX7_mayBe_94 : decode cX7_mayBe 94 = .ok (.iconst 1, 1) := by decide +kernel
theorem dX7_mayBe_95 : decode cX7_mayBe 95 = .ok (.goto 4, 3) := by decide +kernel
theorem dX7_mayBe_98 : decode cX7_mayBe 98 = .ok (.iconst 0, 1) := by decide +kernel
theorem dX7_mayBe_99 : decode cX7_mayBe 99 = .ok (.istore_n 2, 1) := by decide +kernel
theorem dX7_mayBe_100 : decode cX7_mayBe 100 = .ok (.iinc 3 1, 3) := by decide +kernel
theorem dX7_mayBe_103 : decode cX7_mayBe 103 = .ok (.goto (-99), 3) := by decide +kernel
theorem dX7_mayBe_106 : decode cX7_mayBe 106 = .ok (.iload_n 2, 1) := by decide +kernel
theorem dX7_mayBe_107 : decode cX7_mayBe 107 = .ok (.ireturn, 1) := by decide +kernel
theorem dX7_figuresOf_0 : decode cX7_figuresOf 0 = .ok (.sipush 1111, 3) := by decide +kernel
theorem dX7_figuresOf_3 : decode cX7_figuresOf 3 = .ok (.sipush 1000, 3) := by decide +kernel
theorem dX7_figuresOf_6 : decode cX7_figuresOf 6 = .ok (.iload_n 0, 1) := by decide +kernel
theorem dX7_figuresOf_7 : decode cX7_figuresOf 7 = .ok (.bipush 6, 2) := by decide +kernel
theorem dX7_figuresOf_9 : decode cX7_figuresOf 9 = .ok (.ishr, 1) := by decide +kernel
theorem dX7_figuresOf_10 : decode cX7_figuresOf 10 = .ok (.imul, 1) := by decide +kernel
theorem dX7_figuresOf_11 : decode cX7_figuresOf 11 = .ok (.iadd, 1) := by decide +kernel
theorem dX7_figuresOf_12 : decode cX7_figuresOf 12 = .ok (.bipush 100, 2) := by decide +kernel
theorem dX7_figuresOf_14 : decode cX7_figuresOf 14 = .ok (.iload_n 0, 1) := by decide +kernel
theorem dX7_figuresOf_15 : decode cX7_figuresOf 15 = .ok (.iconst 4, 1) := by decide +kernel
theorem dX7_figuresOf_16 : decode cX7_figuresOf 16 = .ok (.ishr, 1) := by decide +kernel
theorem dX7_figuresOf_17 : decode cX7_figuresOf 17 = .ok (.iconst 3, 1) := by decide +kernel
theorem dX7_figuresOf_18 : decode cX7_figuresOf 18 = .ok (.iand, 1) := by decide +kernel
theorem dX7_figuresOf_19 : decode cX7_figuresOf 19 = .ok (.imul, 1) := by decide +kernel
theorem dX7_figuresOf_20 : decode cX7_figuresOf 20 = .ok (.iadd, 1) := by decide +kernel
theorem dX7_figuresOf_21 : decode cX7_figuresOf 21 = .ok (.bipush 10, 2) := by decide +kernel
theorem dX7_figuresOf_23 : decode cX7_figuresOf 23 = .ok (.iload_n 0, 1) := by decide +kernel
theorem dX7_figuresOf_24 : decode cX7_figuresOf 24 = .ok (.iconst 2, 1) := by decide +kernel
theorem dX7_figuresOf_25 : decode cX7_figuresOf 25 = .ok (.ishr, 1) := by decide +kernel
theorem dX7_figuresOf_26 : decode cX7_figuresOf 26 = .ok (.iconst 3, 1) := by decide +kernel
theorem dX7_figuresOf_27 : decode cX7_figuresOf 27 = .ok (.iand, 1) := by decide +kernel
theorem dX7_figuresOf_28 : decode cX7_figuresOf 28 = .ok (.imul, 1) := by decide +kernel
theorem dX7_figuresOf_29 : decode cX7_figuresOf 29 = .ok (.iadd, 1) := by decide +kernel
theorem dX7_figuresOf_30 : decode cX7_figuresOf 30 = .ok (.iload_n 0, 1) := by decide +kernel
theorem dX7_figuresOf_31 : decode cX7_figuresOf 31 = .ok (.iconst 3, 1) := by decide +kernel
theorem dX7_figuresOf_32 : decode cX7_figuresOf 32 = .ok (.iand, 1) := by decide +kernel
theorem dX7_figuresOf_33 : decode cX7_figuresOf 33 = .ok (.iadd, 1) := by decide +kernel
theorem dX7_figuresOf_34 : decode cX7_figuresOf 34 = .ok (.ireturn, 1) := by decide +kernel
theorem dX7_leaves_0 : decode cX7_leaves 0 = .ok (.iload_n 1, 1) := by decide +kernel
theorem dX7_leaves_1 : decode cX7_leaves 1 = .ok (.i2l, 1) := by decide +kernel
theorem dX7_leaves_2 : decode cX7_leaves 2 = .ok (.lconst 0, 1) := by decide +kernel
theorem dX7_leaves_3 : decode cX7_leaves 3 = .ok (.lconst 1, 1) := by decide +kernel
theorem dX7_leaves_4 : decode cX7_leaves 4 = .ok (.invokestatic 44, 3) := by decide +kernel
theorem dX7_leaves_7 : decode cX7_leaves 7 = .ok (.ifCond .ne 6, 3) := by decide +kernel
theorem dX7_leaves_10 : decode cX7_leaves 10 = .ok (.bipush (-2), 2) := by decide +kernel
theorem dX7_leaves_12 : decode cX7_leaves 12 = .ok (.ireturn, 1) := by decide +kernel
theorem dX7_leaves_13 : decode cX7_leaves 13 = .ok (.iconst 0, 1) := by decide +kernel
theorem dX7_leaves_14 : decode cX7_leaves 14 = .ok (.istore_n 2, 1) := by decide +kernel
theorem dX7_leaves_15 : decode cX7_leaves 15 = .ok (.bipush (-9), 2) := by decide +kernel
theorem dX7_leaves_17 : decode cX7_leaves 17 = .ok (.istore_n 3, 1) := by decide +kernel
theorem dX7_leaves_18 : decode cX7_leaves 18 = .ok (.iconst 0, 1) := by decide +kernel
theorem dX7_leaves_19 : decode cX7_leaves 19 = .ok (.istore 4, 2) := by decide +kernel
theorem dX7_leaves_21 : decode cX7_leaves 21 = .ok (.iload 4, 2) := by decide +kernel
theorem dX7_leaves_23 : decode cX7_leaves 23 = .ok (.sipush 256, 3) := by decide +kernel
theorem dX7_leaves_26 : decode cX7_leaves 26 = .ok (.if_icmp .ge 35, 3) := by decide +kernel
theorem dX7_leaves_29 : decode cX7_leaves 29 = .ok (.aload_n 0, 1) := by decide +kernel
theorem dX7_leaves_30 : decode cX7_leaves 30 = .ok (.iload 4, 2) := by decide +kernel
theorem dX7_leaves_32 : decode cX7_leaves 32 = .ok (.invokevirtual 202, 3) := by decide +kernel
theorem dX7_leaves_35 : decode cX7_leaves 35 = .ok (.ifCond .eq 20, 3) := by decide +kernel
theorem dX7_leaves_38 : decode cX7_leaves 38 = .ok (.iload_n 2, 1) := by decide +kernel
theorem dX7_leaves_39 : decode cX7_leaves 39 = .ok (.ifCond .ne 11, 3) := by decide +kernel
theorem dX7_leaves_42 : decode cX7_leaves 42 = .ok (.iload 4, 2) := by decide +kernel
theorem dX7_leaves_44 : decode cX7_leaves 44 = .ok (.invokestatic 205, 3) := by decide +kernel
theorem dX7_leaves_47 : decode cX7_leaves 47 = .ok (.goto 4, 3) := by decide +kernel
theorem dX7_leaves_50 : decode cX7_leaves 50 = .ok (.iload_n 3, 1) := by decide +kernel
theorem dX7_leaves_51 : decode cX7_leaves 51 = .ok (.istore_n 3, 1) := by decide +kernel
theorem dX7_leaves_52 : decode cX7_leaves 52 = .ok (.iinc 2 1, 3) := by decide +kernel
theorem dX7_leaves_55 : decode cX7_leaves 55 = .ok (.iinc 4 1, 3) := by decide +kernel
theorem dX7_leaves_58 : decode cX7_leaves 58 = .ok (.goto (-37), 3) := by decide +kernel
theorem dX7_leaves_61 : decode cX7_leaves 61 = .ok (.iload_n 1, 1) := by decide +kernel
theorem dX7_leaves_62 : decode cX7_leaves 62 = .ok (.ifCond .ne 7, 3) := by decide +kernel
theorem dX7_leaves_65 : decode cX7_leaves 65 = .ok (.iload_n 2, 1) := by decide +kernel
theorem dX7_leaves_66 : decode cX7_leaves 66 = .ok (.goto 4, 3) := by decide +kernel
theorem dX7_leaves_69 : decode cX7_leaves 69 = .ok (.iload_n 3, 1) := by decide +kernel
theorem dX7_leaves_70 : decode cX7_leaves 70 = .ok (.ireturn, 1) := by decide +kernel
theorem dX7_common_0 : decode cX7_common 0 = .ok (.iload_n 0, 1) := by decide +kernel
theorem dX7_common_1 : decode cX7_common 1 = .ok (.ifCond .ge 8, 3) := by decide +kernel
theorem dX7_common_4 : decode cX7_common 4 = .ok (.iload_n 0, 1) := by decide +kernel
theorem dX7_common_5 : decode cX7_common 5 = .ok (.ineg, 1) := by decide +kernel
theorem dX7_common_6 : decode cX7_common 6 = .ok (.goto 4, 3) := by decide +kernel
theorem dX7_common_9 : decode cX7_common 9 = .ok (.iload_n 0, 1) := by decide +kernel
theorem dX7_common_10 : decode cX7_common 10 = .ok (.istore_n 2, 1) := by decide +kernel
theorem dX7_common_11 : decode cX7_common 11 = .ok (.iload_n 1, 1) := by decide +kernel
theorem dX7_common_12 : decode cX7_common 12 = .ok (.istore_n 3, 1) := by decide +kernel
theorem dX7_common_13 : decode cX7_common 13 = .ok (.iload_n 3, 1) := by decide +kernel
theorem dX7_common_14 : decode cX7_common 14 = .ok (.ifCond .eq 16, 3) := by decide +kernel
theorem dX7_common_17 : decode cX7_common 17 = .ok (.iload_n 2, 1) := by decide +kernel
theorem dX7_common_18 : decode cX7_common 18 = .ok (.iload_n 3, 1) := by decide +kernel
theorem dX7_common_19 : decode cX7_common 19 = .ok (.irem, 1) := by decide +kernel
theorem dX7_common_20 : decode cX7_common 20 = .ok (.istore 4, 2) := by decide +kernel
theorem dX7_common_22 : decode cX7_common 22 = .ok (.iload_n 3, 1) := by decide +kernel
theorem dX7_common_23 : decode cX7_common 23 = .ok (.istore_n 2, 1) := by decide +kernel
theorem dX7_common_24 : decode cX7_common 24 = .ok (.iload 4, 2) := by decide +kernel
theorem dX7_common_26 : decode cX7_common 26 = .ok (.istore_n 3, 1) := by decide +kernel
theorem dX7_common_27 : decode cX7_common 27 = .ok (.goto (-14), 3) := by decide +kernel
theorem dX7_common_30 : decode cX7_common 30 = .ok (.iload_n 2, 1) := by decide +kernel
theorem dX7_common_31 : decode cX7_common 31 = .ok (.ireturn, 1) := by decide +kernel
theorem dX7_areaBy_0 : decode cX7_areaBy 0 = .ok (.lconst 0, 1) := by decide +kernel
theorem dX7_areaBy_1 : decode cX7_areaBy 1 = .ok (.lstore_n 2, 1) := by decide +kernel
theorem dX7_areaBy_2 : decode cX7_areaBy 2 = .ok (.iconst 0, 1) := by decide +kernel
theorem dX7_areaBy_3 : decode cX7_areaBy 3 = .ok (.istore 4, 2) := by decide +kernel
theorem dX7_areaBy_5 : decode cX7_areaBy 5 = .ok (.iload 4, 2) := by decide +kernel
theorem dX7_areaBy_7 : decode cX7_areaBy 7 = .ok (.iconst 3, 1) := by decide +kernel
theorem dX7_areaBy_8 : decode cX7_areaBy 8 = .ok (.if_icmp .ge 33, 3) := by decide +kernel
theorem dX7_areaBy_11 : decode cX7_areaBy 11 = .ok (.lload_n 2, 1) := by decide +kernel
theorem dX7_areaBy_12 : decode cX7_areaBy 12 = .ok (.iload_n 1, 1) := by decide +kernel
theorem dX7_areaBy_13 : decode cX7_areaBy 13 = .ok (.iload 4, 2) := by decide +kernel
theorem dX7_areaBy_15 : decode cX7_areaBy 15 = .ok (.ishr, 1) := by decide +kernel
theorem dX7_areaBy_16 : decode cX7_areaBy 16 = .ok (.iconst 1, 1) := by decide +kernel
theorem dX7_areaBy_17 : decode cX7_areaBy 17 = .ok (.iand, 1) := by decide +kernel
theorem dX7_areaBy_18 : decode cX7_areaBy 18 = .ok (.iconst 1, 1) := by decide +kernel
theorem dX7_areaBy_19 : decode cX7_areaBy 19 = .ok (.if_icmp .ne 13, 3) := by decide +kernel
theorem dX7_areaBy_22 : decode cX7_areaBy 22 = .ok (.aload_n 0, 1) := by decide +kernel
theorem dX7_areaBy_23 : decode cX7_areaBy 23 = .ok (.getfield 13, 3) := by decide +kernel
theorem dX7_areaBy_26 : decode cX7_areaBy 26 = .ok (.iload 4, 2) := by decide +kernel
theorem dX7_areaBy_28 : decode cX7_areaBy 28 = .ok (.laload, 1) := by decide +kernel
theorem dX7_areaBy_29 : decode cX7_areaBy 29 = .ok (.goto 4, 3) := by decide +kernel
theorem dX7_areaBy_32 : decode cX7_areaBy 32 = .ok (.lconst 0, 1) := by decide +kernel
theorem dX7_areaBy_33 : decode cX7_areaBy 33 = .ok (.lor, 1) := by decide +kernel
theorem dX7_areaBy_34 : decode cX7_areaBy 34 = .ok (.lstore_n 2, 1) := by decide +kernel
theorem dX7_areaBy_35 : decode cX7_areaBy 35 = .ok (.iinc 4 1, 3) := by decide +kernel
theorem dX7_areaBy_38 : decode cX7_areaBy 38 = .ok (.goto (-33), 3) := by decide +kernel
theorem dX7_areaBy_41 : decode cX7_areaBy 41 = .ok (.lload_n 2, 1) := by decide +kernel
theorem dX7_areaBy_42 : decode cX7_areaBy 42 = .ok (.invokestatic 112, 3) := by decide +kernel
theorem dX7_areaBy_45 : decode cX7_areaBy 45 = .ok (.ireturn, 1) := by decide +kernel
theorem dX7_share_0 : decode cX7_share 0 = .ok (.iload_n 1, 1) := by decide +kernel
theorem dX7_share_1 : decode cX7_share 1 = .ok (.invokestatic 106, 3) := by decide +kernel
theorem dX7_share_4 : decode cX7_share 4 = .ok (.ifCond .ne 5, 3) := by decide +kernel
theorem dX7_share_7 : decode cX7_share 7 = .ok (.iconst (-1), 1) := by decide +kernel
theorem dX7_share_8 : decode cX7_share 8 = .ok (.ireturn, 1) := by decide +kernel
theorem dX7_share_9 : decode cX7_share 9 = .ok (.iconst 0, 1) := by decide +kernel
theorem dX7_share_10 : decode cX7_share 10 = .ok (.istore_n 3, 1) := by decide +kernel
theorem dX7_share_11 : decode cX7_share 11 = .ok (.iconst 0, 1) := by decide +kernel
theorem dX7_share_12 : decode cX7_share 12 = .ok (.istore 4, 2) := by decide +kernel
theorem dX7_share_14 : decode cX7_share 14 = .ok (.iload 4, 2) := by decide +kernel
theorem dX7_share_16 : decode cX7_share 16 = .ok (.bipush 8, 2) := by decide +kernel
theorem dX7_share_18 : decode cX7_share 18 = .ok (.if_icmp .ge 63, 3) := by decide +kernel
theorem dX7_share_21 : decode cX7_share 21 = .ok (.iload 4, 2) := by decide +kernel
theorem dX7_share_23 : decode cX7_share 23 = .ok (.iload_n 1, 1) := by decide +kernel
theorem dX7_share_24 : decode cX7_share 24 = .ok (.ishr, 1) := by decide +kernel
theorem dX7_share_25 : decode cX7_share 25 = .ok (.iconst 1, 1) := by decide +kernel
theorem dX7_share_26 : decode cX7_share 26 = .ok (.iand, 1) := by decide +kernel
theorem dX7_share_27 : decode cX7_share 27 = .ok (.ifCond .ne 48, 3) := by decide +kernel
theorem dX7_share_30 : decode cX7_share 30 = .ok (.iload 4, 2) := by decide +kernel
theorem dX7_share_32 : decode cX7_share 32 = .ok (.ifCond .eq 13, 3) := by decide +kernel
theorem dX7_share_35 : decode cX7_share 35 = .ok (.iload 4, 2) := by decide +kernel
theorem dX7_share_37 : decode cX7_share 37 = .ok (.i2l, 1) := by decide +kernel
theorem dX7_share_38 : decode cX7_share 38 = .ok (.invokestatic 112, 3) := by decide +kernel
theorem dX7_share_41 : decode cX7_share 41 = .ok (.iconst 2, 1) := by decide +kernel
theorem dX7_share_42 : decode cX7_share 42 = .ok (.if_icmp .ne 7, 3) := by decide +kernel
theorem dX7_share_45 : decode cX7_share 45 = .ok (.iconst 2, 1) := by decide +kernel
theorem dX7_share_46 : decode cX7_share 46 = .ok (.goto 4, 3) := by decide +kernel
theorem dX7_share_49 : decode cX7_share 49 = .ok (.iconst 1, 1) := by decide +kernel
theorem dX7_share_50 : decode cX7_share 50 = .ok (.istore 5, 2) := by decide +kernel
theorem dX7_share_52 : decode cX7_share 52 = .ok (.iload_n 3, 1) := by decide +kernel
theorem dX7_share_53 : decode cX7_share 53 = .ok (.iload 5, 2) := by decide +kernel
theorem dX7_share_55 : decode cX7_share 55 = .ok (.aload_n 0, 1) := by decide +kernel
theorem dX7_share_56 : decode cX7_share 56 = .ok (.iload 4, 2) := by decide +kernel
theorem dX7_share_58 : decode cX7_share 58 = .ok (.iconst 1, 1) := by decide +kernel
theorem dX7_share_59 : decode cX7_share 59 = .ok (.iload_n 1, 1) := by decide +kernel
theorem dX7_share_60 : decode cX7_share 60 = .ok (.ishl, 1) := by decide +kernel
theorem dX7_share_61 : decode cX7_share 61 = .ok (.ior, 1) := by decide +kernel
theorem dX7_share_62 : decode cX7_share 62 = .ok (.invokevirtual 208, 3) := by decide +kernel
theorem dX7_share_65 : decode cX7_share 65 = .ok (.aload_n 0, 1) := by decide +kernel
theorem dX7_share_66 : decode cX7_share 66 = .ok (.iload 4, 2) := by decide +kernel
theorem dX7_share_68 : decode cX7_share 68 = .ok (.invokevirtual 208, 3) := by decide +kernel
theorem dX7_share_71 : decode cX7_share 71 = .ok (.isub, 1) := by decide +kernel
theorem dX7_share_72 : decode cX7_share 72 = .ok (.imul, 1) := by decide +kernel
theorem dX7_share_73 : decode cX7_share 73 = .ok (.iadd, 1) := by decide +kernel
theorem dX7_share_74 : decode cX7_share 74 = .ok (.istore_n 3, 1) := by decide +kernel
theorem dX7_share_75 : decode cX7_share 75 = .ok (.iinc 4 1, 3) := by decide +kernel
theorem dX7_share_78 : decode cX7_share 78 = .ok (.goto (-64), 3) := by decide +kernel
theorem dX7_share_81 : decode cX7_share 81 = .ok (.iload_n 3, 1) := by decide +kernel
theorem dX7_share_82 : decode cX7_share 82 = .ok (.bipush 6, 2) := by decide +kernel
theorem dX7_share_84 : decode cX7_share 84 = .ok (.invokestatic 211, 3) := by decide +kernel
theorem dX7_share_87 : decode cX7_share 87 = .ok (.istore 4, 2) := by decide +kernel
theorem dX7_share_89 : decode cX7_share 89 = .ok (.iload_n 2, 1) := by decide +kernel
theorem dX7_share_90 : decode cX7_share 90 = .ok (.ifCond .eq 10, 3) := by decide +kernel
theorem dX7_share_93 : decode cX7_share 93 = .ok (.iload_n 3, 1) := by decide +kernel
theorem dX7_share_94 : decode cX7_share 94 = .ok (.iload 4, 2) := by decide +kernel
theorem dX7_share_96 : decode cX7_share 96 = .ok (.idiv, 1) := by decide +kernel
theorem dX7_share_97 : decode cX7_share 97 = .ok (.goto 8, 3) := by decide +kernel
theorem dX7_share_100 : decode cX7_share 100 = .ok (.bipush 6, 2) := by decide +kernel
theorem dX7_share_102 : decode cX7_share 102 = .ok (.iload 4, 2) := by decide +kernel
theorem dX7_share_104 : decode cX7_share 104 = .ok (.idiv, 1) := by decide +kernel
theorem dX7_share_105 : decode cX7_share 105 = .ok (.ireturn, 1) := by decide +kernel
theorem dX7_gain_0 : decode cX7_gain 0 = .ok (.iload_n 3, 1) := by decide +kernel
theorem dX7_gain_1 : decode cX7_gain 1 = .ok (.iconst 1, 1) := by decide +kernel
theorem dX7_gain_2 : decode cX7_gain 2 = .ok (.if_icmp .ne 15, 3) := by decide +kernel
theorem dX7_gain_5 : decode cX7_gain 5 = .ok (.aload_n 0, 1) := by decide +kernel
theorem dX7_gain_6 : decode cX7_gain 6 = .ok (.getfield 13, 3) := by decide +kernel
theorem dX7_gain_9 : decode cX7_gain 9 = .ok (.iload_n 1, 1) := by decide +kernel
theorem dX7_gain_10 : decode cX7_gain 10 = .ok (.laload, 1) := by decide +kernel
theorem dX7_gain_11 : decode cX7_gain 11 = .ok (.invokestatic 126, 3) := by decide +kernel
theorem dX7_gain_14 : decode cX7_gain 14 = .ok (.goto 9, 3) := by decide +kernel
theorem dX7_gain_17 : decode cX7_gain 17 = .ok (.aload_n 0, 1) := by decide +kernel
theorem dX7_gain_18 : decode cX7_gain 18 = .ok (.getfield 13, 3) := by decide +kernel
theorem dX7_gain_21 : decode cX7_gain 21 = .ok (.iload_n 1, 1) := by decide +kernel
theorem dX7_gain_22 : decode cX7_gain 22 = .ok (.laload, 1) := by decide +kernel
theorem dX7_gain_23 : decode cX7_gain 23 = .ok (.lstore 5, 2) := by decide +kernel
theorem dX7_gain_25 : decode cX7_gain 25 = .ok (.iload 4, 2) := by decide +kernel
theorem dX7_gain_27 : decode cX7_gain 27 = .ok (.iconst 1, 1) := by decide +kernel
theorem dX7_gain_28 : decode cX7_gain 28 = .ok (.if_icmp .ne 15, 3) := by decide +kernel
theorem dX7_gain_31 : decode cX7_gain 31 = .ok (.aload_n 0, 1) := by decide +kernel
theorem dX7_gain_32 : decode cX7_gain 32 = .ok (.getfield 13, 3) := by decide +kernel
theorem dX7_gain_35 : decode cX7_gain 35 = .ok (.iload_n 2, 1) := by decide +kernel
theorem dX7_gain_36 : decode cX7_gain 36 = .ok (.laload, 1) := by decide +kernel
theorem dX7_gain_37 : decode cX7_gain 37 = .ok (.invokestatic 126, 3) := by decide +kernel
theorem dX7_gain_40 : decode cX7_gain 40 = .ok (.goto 9, 3) := by decide +kernel
theorem dX7_gain_43 : decode cX7_gain 43 = .ok (.aload_n 0, 1) := by decide +kernel
theorem dX7_gain_44 : decode cX7_gain 44 = .ok (.getfield 13, 3) := by decide +kernel
theorem dX7_gain_47 : decode cX7_gain 47 = .ok (.iload_n 2, 1) := by decide +kernel
theorem dX7_gain_48 : decode cX7_gain 48 = .ok (.laload, 1) := by decide +kernel
theorem dX7_gain_49 : decode cX7_gain 49 = .ok (.lstore 7, 2) := by decide +kernel
theorem dX7_gain_51 : decode cX7_gain 51 = .ok (.lload 5, 2) := by decide +kernel
theorem dX7_gain_53 : decode cX7_gain 53 = .ok (.aload_n 0, 1) := by decide +kernel
theorem dX7_gain_54 : decode cX7_gain 54 = .ok (.getfield 13, 3) := by decide +kernel
theorem dX7_gain_57 : decode cX7_gain 57 = .ok (.iconst 3, 1) := by decide +kernel
theorem dX7_gain_58 : decode cX7_gain 58 = .ok (.iload_n 1, 1) := by decide +kernel
theorem dX7_gain_59 : decode cX7_gain 59 = .ok (.isub, 1) := by decide +kernel
theorem dX7_gain_60 : decode cX7_gain 60 = .ok (.iload_n 2, 1) := by decide +kernel
theorem dX7_gain_61 : decode cX7_gain 61 = .ok (.isub, 1) := by decide +kernel
theorem dX7_gain_62 : decode cX7_gain 62 = .ok (.laload, 1) := by decide +kernel
theorem dX7_gain_63 : decode cX7_gain 63 = .ok (.land, 1) := by decide +kernel
theorem dX7_gain_64 : decode cX7_gain 64 = .ok (.invokestatic 112, 3) := by decide +kernel
theorem dX7_gain_67 : decode cX7_gain 67 = .ok (.lload 5, 2) := by decide +kernel
theorem dX7_gain_69 : decode cX7_gain 69 = .ok (.lload 7, 2) := by decide +kernel
theorem dX7_gain_71 : decode cX7_gain 71 = .ok (.land, 1) := by decide +kernel
theorem dX7_gain_72 : decode cX7_gain 72 = .ok (.invokestatic 112, 3) := by decide +kernel
theorem dX7_gain_75 : decode cX7_gain 75 = .ok (.isub, 1) := by decide +kernel
theorem dX7_gain_76 : decode cX7_gain 76 = .ok (.ireturn, 1) := by decide +kernel
theorem dX7_isRest_0 : decode cX7_isRest 0 = .ok (.aload_n 0, 1) := by decide +kernel
theorem dX7_isRest_1 : decode cX7_isRest 1 = .ok (.iload_n 1, 1) := by decide +kernel
theorem dX7_isRest_2 : decode cX7_isRest 2 = .ok (.iload_n 2, 1) := by decide +kernel
theorem dX7_isRest_3 : decode cX7_isRest 3 = .ok (.iconst 1, 1) := by decide +kernel
theorem dX7_isRest_4 : decode cX7_isRest 4 = .ok (.iload_n 3, 1) := by decide +kernel
theorem dX7_isRest_5 : decode cX7_isRest 5 = .ok (.isub, 1) := by decide +kernel
theorem dX7_isRest_6 : decode cX7_isRest 6 = .ok (.iload 4, 2) := by decide +kernel
theorem dX7_isRest_8 : decode cX7_isRest 8 = .ok (.invokevirtual 214, 3) := by decide +kernel
theorem dX7_isRest_11 : decode cX7_isRest 11 = .ok (.aload_n 0, 1) := by decide +kernel
theorem dX7_isRest_12 : decode cX7_isRest 12 = .ok (.iload_n 1, 1) := by decide +kernel
theorem dX7_isRest_13 : decode cX7_isRest 13 = .ok (.iload_n 2, 1) := by decide +kernel
theorem dX7_isRest_14 : decode cX7_isRest 14 = .ok (.iload_n 3, 1) := by decide +kernel
theorem dX7_isRest_15 : decode cX7_isRest 15 = .ok (.iload 4, 2) := by decide +kernel
theorem dX7_isRest_17 : decode cX7_isRest 17 = .ok (.invokevirtual 214, 3) := by decide +kernel
theorem dX7_isRest_20 : decode cX7_isRest 20 = .ok (.if_icmp .gt 30, 3) := by decide +kernel
theorem dX7_isRest_23 : decode cX7_isRest 23 = .ok (.aload_n 0, 1) := by decide +kernel
theorem dX7_isRest_24 : decode cX7_isRest 24 = .ok (.iload_n 2, 1) := by decide +kernel
theorem dX7_isRest_25 : decode cX7_isRest 25 = .ok (.iload_n 1, 1) := by decide +kernel
theorem dX7_isRest_26 : decode cX7_isRest 26 = .ok (.iconst 1, 1) := by decide +kernel
theorem dX7_isRest_27 : decode cX7_isRest 27 = .ok (.iload 4, 2) := by decide +kernel
theorem dX7_isRest_29 : decode cX7_isRest 29 = .ok (.isub, 1) := by decide +kernel
theorem dX7_isRest_30 : decode cX7_isRest 30 = .ok (.iload_n 3, 1) := by decide +kernel
theorem dX7_isRest_31 : decode cX7_isRest 31 = .ok (.invokevirtual 214, 3) := by decide +kernel
theorem dX7_isRest_34 : decode cX7_isRest 34 = .ok (.aload_n 0, 1) := by decide +kernel
theorem dX7_isRest_35 : decode cX7_isRest 35 = .ok (.iload_n 2, 1) := by decide +kernel
theorem dX7_isRest_36 : decode cX7_isRest 36 = .ok (.iload_n 1, 1) := by decide +kernel
theorem dX7_isRest_37 : decode cX7_isRest 37 = .ok (.iload 4, 2) := by decide +kernel
theorem dX7_isRest_39 : decode cX7_isRest 39 = .ok (.iload_n 3, 1) := by decide +kernel
theorem dX7_isRest_40 : decode cX7_isRest 40 = .ok (.invokevirtual 214, 3) := by decide +kernel
theorem dX7_isRest_43 : decode cX7_isRest 43 = .ok (.if_icmp .gt 7, 3) := by decide +kernel
theorem dX7_isRest_46 : decode cX7_isRest 46 = .ok (.iconst 1, 1) := by decide +kernel
theorem dX7_isRest_47 : decode cX7_isRest 47 = .ok (.goto 4, 3) := by decide +kernel
theorem dX7_isRest_50 : decode cX7_isRest 50 = .ok (.iconst 0, 1) := by decide +kernel
theorem dX7_isRest_51 : decode cX7_isRest 51 = .ok (.ireturn, 1) := by decide +kernel
theorem dX7_rests_0 : decode cX7_rests 0 = .ok (.iload_n 1, 1) := by decide +kernel
theorem dX7_rests_1 : decode cX7_rests 1 = .ok (.invokestatic 106, 3) := by decide +kernel
theorem dX7_rests_4 : decode cX7_rests 4 = .ok (.ifCond .eq 10, 3) := by decide +kernel
theorem dX7_rests_7 : decode cX7_rests 7 = .ok (.iload_n 2, 1) := by decide +kernel
theorem dX7_rests_8 : decode cX7_rests 8 = .ok (.invokestatic 106, 3) := by decide +kernel
theorem dX7_rests_11 : decode cX7_rests 11 = .ok (.ifCond .ne 5, 3) := by decide +kernel
theorem dX7_rests_14 : decode cX7_rests 14 = .ok (.iconst (-1), 1) := by decide +kernel
theorem dX7_rests_15 : decode cX7_rests 15 = .ok (.ireturn, 1) := by decide +kernel
theorem dX7_rests_16 : decode cX7_rests 16 = .ok (.iload_n 1, 1) := by decide +kernel
theorem dX7_rests_17 : decode cX7_rests 17 = .ok (.iload_n 2, 1) := by decide +kernel
theorem dX7_rests_18 : decode cX7_rests 18 = .ok (.if_icmp .eq 13, 3) := by decide +kernel
theorem dX7_rests_21 : decode cX7_rests 21 = .ok (.iload_n 3, 1) := by decide +kernel
theorem dX7_rests_22 : decode cX7_rests 22 = .ok (.i2l, 1) := by decide +kernel
theorem dX7_rests_23 : decode cX7_rests 23 = .ok (.lconst 0, 1) := by decide +kernel
theorem dX7_rests_24 : decode cX7_rests 24 = .ok (.lconst 1, 1) := by decide +kernel
theorem dX7_rests_25 : decode cX7_rests 25 = .ok (.invokestatic 44, 3) := by decide +kernel
theorem dX7_rests_28 : decode cX7_rests 28 = .ok (.ifCond .ne 6, 3) := by decide +kernel
theorem dX7_rests_31 : decode cX7_rests 31 = .ok (.bipush (-2), 2) := by decide +kernel
theorem dX7_rests_33 : decode cX7_rests 33 = .ok (.ireturn, 1) := by decide +kernel
theorem dX7_rests_34 : decode cX7_rests 34 = .ok (.iconst 0, 1) := by decide +kernel
theorem dX7_rests_35 : decode cX7_rests 35 = .ok (.istore 4, 2) := by decide +kernel
theorem dX7_rests_37 : decode cX7_rests 37 = .ok (.bipush (-9), 2) := by decide +kernel
theorem dX7_rests_39 : decode cX7_rests 39 = .ok (.istore 5, 2) := by decide +kernel
theorem dX7_rests_41 : decode cX7_rests 41 = .ok (.iconst 0, 1) := by decide +kernel
theorem dX7_rests_42 : decode cX7_rests 42 = .ok (.istore 6, 2) := by decide +kernel
theorem dX7_rests_44 : decode cX7_rests 44 = .ok (.iload 6, 2) := by decide +kernel
theorem dX7_rests_46 : decode cX7_rests 46 = .ok (.iconst 4, 1) := by decide +kernel
theorem dX7_rests_47 : decode cX7_rests 47 = .ok (.if_icmp .ge 53, 3) := by decide +kernel
theorem dX7_rests_50 : decode cX7_rests 50 = .ok (.aload_n 0, 1) := by decide +kernel
theorem dX7_rests_51 : decode cX7_rests 51 = .ok (.iload_n 1, 1) := by decide +kernel
theorem dX7_rests_52 : decode cX7_rests 52 = .ok (.iload_n 2, 1) := by decide +kernel
theorem dX7_rests_53 : decode cX7_rests 53 = .ok (.iload 6, 2) := by decide +kernel
theorem dX7_rests_55 : decode cX7_rests 55 = .ok (.iconst 2, 1) := by decide +kernel
theorem dX7_rests_56 : decode cX7_rests 56 = .ok (.idiv, 1) := by decide +kernel
theorem dX7_rests_57 : decode cX7_rests 57 = .ok (.iload 6, 2) := by decide +kernel
theorem dX7_rests_59 : decode cX7_rests 59 = .ok (.iconst 2, 1) := by decide +kernel
theorem dX7_rests_60 : decode cX7_rests 60 = .ok (.irem, 1) := by decide +kernel
theorem dX7_rests_61 : decode cX7_rests 61 = .ok (.invokevirtual 218, 3) := by decide +kernel
theorem dX7_rests_64 : decode cX7_rests 64 = .ok (.ifCond .eq 30, 3) := by decide +kernel
theorem dX7_rests_67 : decode cX7_rests 67 = .ok (.iload 4, 2) := by decide +kernel
theorem dX7_rests_69 : decode cX7_rests 69 = .ok (.ifCond .ne 18, 3) := by decide +kernel
theorem dX7_rests_72 : decode cX7_rests 72 = .ok (.bipush 10, 2) := by decide +kernel
theorem dX7_rests_74 : decode cX7_rests 74 = .ok (.iload 6, 2) := by decide +kernel
theorem dX7_rests_76 : decode cX7_rests 76 = .ok (.iconst 2, 1) := by decide +kernel
theorem dX7_rests_77 : decode cX7_rests 77 = .ok (.idiv, 1) := by decide +kernel
theorem dX7_rests_78 : decode cX7_rests 78 = .ok (.imul, 1) := by decide +kernel
theorem dX7_rests_79 : decode cX7_rests 79 = .ok (.iload 6, 2) := by decide +kernel
theorem dX7_rests_81 : decode cX7_rests 81 = .ok (.iconst 2, 1) := by decide +kernel
theorem dX7_rests_82 : decode cX7_rests 82 = .ok (.irem, 1) := by decide +kernel
theorem dX7_rests_83 : decode cX7_rests 83 = .ok (.iadd, 1) := by decide +kernel
theorem dX7_rests_84 : decode cX7_rests 84 = .ok (.goto 5, 3) := by decide +kernel
theorem dX7_rests_87 : decode cX7_rests 87 = .ok (.iload 5, 2) := by decide +kernel
theorem dX7_rests_89 : decode cX7_rests 89 = .ok (.istore 5, 2) := by decide +kernel
theorem dX7_rests_91 : decode cX7_rests 91 = .ok (.iinc 4 1, 3) := by decide +kernel
theorem dX7_rests_94 : decode cX7_rests 94 = .ok (.iinc 6 1, 3) := by decide +kernel
theorem dX7_rests_97 : decode cX7_rests 97 = .ok (.goto (-53), 3) := by decide +kernel
theorem dX7_rests_100 : decode cX7_rests 100 = .ok (.iload_n 3, 1) := by decide +kernel
theorem dX7_rests_101 : decode cX7_rests 101 = .ok (.ifCond .ne 8, 3) := by decide +kernel
theorem dX7_rests_104 : decode cX7_rests 104 = .ok (.iload 4, 2) := by decide +kernel
theorem dX7_rests_106 : decode cX7_rests 106 = .ok (.goto 5, 3) := by decide +kernel
theorem dX7_rests_109 : decode cX7_rests 109 = .ok (.iload 5, 2) := by decide +kernel
theorem dX7_rests_111 : decode cX7_rests 111 = .ok (.ireturn, 1) := by decide +kernel
theorem dX7_fades_0 : decode cX7_fades 0 = .ok (.iload_n 1, 1) := by decide +kernel
theorem dX7_fades_1 : decode cX7_fades 1 = .ok (.invokestatic 106, 3) := by decide +kernel
theorem dX7_fades_4 : decode cX7_fades 4 = .ok (.ifCond .ne 5, 3) := by decide +kernel
theorem dX7_fades_7 : decode cX7_fades 7 = .ok (.iconst (-1), 1) := by decide +kernel
theorem dX7_fades_8 : decode cX7_fades 8 = .ok (.ireturn, 1) := by decide +kernel
theorem dX7_fades_9 : decode cX7_fades 9 = .ok (.iload_n 2, 1) := by decide +kernel
theorem dX7_fades_10 : decode cX7_fades 10 = .ok (.i2l, 1) := by decide +kernel
theorem dX7_fades_11 : decode cX7_fades 11 = .ok (.lconst 0, 1) := by decide +kernel
theorem dX7_fades_12 : decode cX7_fades 12 = .ok (.ldc2_w 222, 3) := by decide +kernel
theorem dX7_fades_15 : decode cX7_fades 15 = .ok (.invokestatic 44, 3) := by decide +kernel
theorem dX7_fades_18 : decode cX7_fades 18 = .ok (.ifCond .eq 15, 3) := by decide +kernel
theorem dX7_fades_21 : decode cX7_fades 21 = .ok (.iload_n 3, 1) := by decide +kernel
theorem dX7_fades_22 : decode cX7_fades 22 = .ok (.i2l, 1) := by decide +kernel
theorem dX7_fades_23 : decode cX7_fades 23 = .ok (.lconst 0, 1) := by decide +kernel
theorem dX7_fades_24 : decode cX7_fades 24 = .ok (.ldc2_w 224, 3) := by decide +kernel
theorem dX7_fades_27 : decode cX7_fades 27 = .ok (.invokestatic 44, 3) := by decide +kernel
theorem dX7_fades_30 : decode cX7_fades 30 = .ok (.ifCond .ne 6, 3) := by decide +kernel
theorem dX7_fades_33 : decode cX7_fades 33 = .ok (.bipush (-2), 2) := by decide +kernel
theorem dX7_fades_35 : decode cX7_fades 35 = .ok (.ireturn, 1) := by decide +kernel
theorem dX7_fades_36 : decode cX7_fades 36 = .ok (.iconst 0, 1) := by decide +kernel
theorem dX7_fades_37 : decode cX7_fades 37 = .ok (.istore 5, 2) := by decide +kernel
theorem dX7_fades_39 : decode cX7_fades 39 = .ok (.iconst 0, 1) := by decide +kernel
theorem dX7_fades_40 : decode cX7_fades 40 = .ok (.istore 6, 2) := by decide +kernel
theorem dX7_fades_42 : decode cX7_fades 42 = .ok (.iload 6, 2) := by decide +kernel
theorem dX7_fades_44 : decode cX7_fades 44 = .ok (.bipush 16, 2) := by decide +kernel
theorem dX7_fades_46 : decode cX7_fades 46 = .ok (.if_icmp .ge 117, 3) := by decide +kernel
theorem dX7_fades_49 : decode cX7_fades 49 = .ok (.iconst 1, 1) := by decide +kernel
theorem dX7_fades_50 : decode cX7_fades 50 = .ok (.istore 7, 2) := by decide +kernel
theorem dX7_fades_52 : decode cX7_fades 52 = .ok (.aload_n 0, 1) := by decide +kernel
theorem dX7_fades_53 : decode cX7_fades 53 = .ok (.getfield 13, 3) := by decide +kernel
theorem dX7_fades_56 : decode cX7_fades 56 = .ok (.iload_n 1, 1) := by decide +kernel
theorem dX7_fades_57 : decode cX7_fades 57 = .ok (.laload, 1) := by decide +kernel
theorem dX7_fades_58 : decode cX7_fades 58 = .ok (.lstore 8, 2) := by decide +kernel
theorem dX7_fades_60 : decode cX7_fades 60 = .ok (.iconst 0, 1) := by decide +kernel
theorem dX7_fades_61 : decode cX7_fades 61 = .ok (.istore 10, 2) := by decide +kernel
theorem dX7_fades_63 : decode cX7_fades 63 = .ok (.iload 10, 2) := by decide +kernel
theorem dX7_fades_65 : decode cX7_fades 65 = .ok (.iconst 4, 1) := by decide +kernel
theorem dX7_fades_66 : decode cX7_fades 66 = .ok (.if_icmp .ge 71, 3) := by decide +kernel
theorem dX7_fades_69 : decode cX7_fades 69 = .ok (.iload 6, 2) := by decide +kernel
theorem dX7_fades_71 : decode cX7_fades 71 = .ok (.iload 10, 2) := by decide +kernel
theorem dX7_fades_73 : decode cX7_fades 73 = .ok (.ishr, 1) := by decide +kernel
theorem dX7_fades_74 : decode cX7_fades 74 = .ok (.iconst 1, 1) := by decide +kernel
theorem dX7_fades_75 : decode cX7_fades 75 = .ok (.iand, 1) := by decide +kernel
theorem dX7_fades_76 : decode cX7_fades 76 = .ok (.iconst 1, 1) := by decide +kernel
theorem dX7_fades_77 : decode cX7_fades 77 = .ok (.if_icmp .ne 7, 3) := by decide +kernel
theorem dX7_fades_80 : decode cX7_fades 80 = .ok (.iconst 1, 1) := by decide +kernel
theorem dX7_fades_81 : decode cX7_fades 81 = .ok (.goto 4, 3) := by decide +kernel
theorem dX7_fades_84 : decode cX7_fades 84 = .ok (.iconst 0, 1) := by decide +kernel
theorem dX7_fades_85 : decode cX7_fades 85 = .ok (.istore 11, 2) := by decide +kernel
theorem dX7_fades_87 : decode cX7_fades 87 = .ok (.iload 7, 2) := by decide +kernel
theorem dX7_fades_89 : decode cX7_fades 89 = .ok (.iload 11, 2) := by decide +kernel
theorem dX7_fades_91 : decode cX7_fades 91 = .ok (.ifCond .eq 7, 3) := by decide +kernel
theorem dX7_fades_94 : decode cX7_fades 94 = .ok (.iload_n 3, 1) := by decide +kernel
theorem dX7_fades_95 : decode cX7_fades 95 = .ok (.goto 7, 3) := by decide +kernel
theorem dX7_fades_98 : decode cX7_fades 98 = .ok (.bipush 10, 2) := by decide +kernel
theorem dX7_fades_100 : decode cX7_fades 100 = .ok (.iload_n 3, 1) := by decide +kernel
theorem dX7_fades_101 : decode cX7_fades 101 = .ok (.isub, 1) := by decide +kernel
theorem dX7_fades_102 : decode cX7_fades 102 = .ok (.imul, 1) := by decide +kernel
theorem dX7_fades_103 : decode cX7_fades 103 = .ok (.istore 7, 2) := by decide +kernel
theorem dX7_fades_105 : decode cX7_fades 105 = .ok (.lload 8, 2) := by decide +kernel
theorem dX7_fades_107 : decode cX7_fades 107 = .ok (.iload 11, 2) := by decide +kernel
theorem dX7_fades_109 : decode cX7_fades 109 = .ok (.ifCond .eq 16, 3) := by decide +kernel
theorem dX7_fades_112 : decode cX7_fades 112 = .ok (.iconst 1, 1) := by decide +kernel
theorem dX7_fades_113 : decode cX7_fades 113 = .ok (.iload 10, 2) := by decide +kernel
theorem dX7_fades_115 : decode cX7_fades 115 = .ok (.invokestatic 142, 3) := by decide +kernel
theorem dX7_fades_118 : decode cX7_fades 118 = .ok (.ldc2_w 116, 3) := by decide +kernel
theorem dX7_fades_121 : decode cX7_fades 121 = .ok (.lxor, 1) := by decide +kernel
theorem dX7_fades_122 : decode cX7_fades 122 = .ok (.goto 6, 3) := by decide +kernel
theorem dX7_fades_125 : decode cX7_fades 125 = .ok (.ldc2_w 116, 3) := by decide +kernel
theorem dX7_fades_128 : decode cX7_fades 128 = .ok (.land, 1) := by decide +kernel
theorem dX7_fades_129 : decode cX7_fades 129 = .ok (.lstore 8, 2) := by decide +kernel
theorem dX7_fades_131 : decode cX7_fades 131 = .ok (.iinc 10 1, 3) := by decide +kernel
theorem dX7_fades_134 : decode cX7_fades 134 = .ok (.goto (-71), 3) := by decide +kernel
theorem dX7_fades_137 : decode cX7_fades 137 = .ok (.iload 5, 2) := by decide +kernel
theorem dX7_fades_139 : decode cX7_fades 139 = .ok (.lload 8, 2) := by decide +kernel
theorem dX7_fades_141 : decode cX7_fades 141 = .ok (.invokestatic 112, 3) := by decide +kernel
theorem dX7_fades_144 : decode cX7_fades 144 = .ok (.iload_n 2, 1) := by decide +kernel
theorem dX7_fades_145 : decode cX7_fades 145 = .ok (.if_icmp .lt 8, 3) := by decide +kernel
theorem dX7_fades_148 : decode cX7_fades 148 = .ok (.iload 7, 2) := by decide +kernel
theorem dX7_fades_150 : decode cX7_fades 150 = .ok (.goto 4, 3) := by decide +kernel
theorem dX7_fades_153 : decode cX7_fades 153 = .ok (.iconst 0, 1) := by decide +kernel
theorem dX7_fades_154 : decode cX7_fades 154 = .ok (.iadd, 1) := by decide +kernel
theorem dX7_fades_155 : decode cX7_fades 155 = .ok (.istore 5, 2) := by decide +kernel
theorem dX7_fades_157 : decode cX7_fades 157 = .ok (.iinc 6 1, 3) := by decide +kernel
theorem dX7_fades_160 : decode cX7_fades 160 = .ok (.goto (-118), 3) := by decide +kernel
theorem dX7_fades_163 : decode cX7_fades 163 = .ok (.iload 5, 2) := by decide +kernel
theorem dX7_fades_165 : decode cX7_fades 165 = .ok (.sipush 10000, 3) := by decide +kernel
theorem dX7_fades_168 : decode cX7_fades 168 = .ok (.invokestatic 211, 3) := by decide +kernel
theorem dX7_fades_171 : decode cX7_fades 171 = .ok (.istore 6, 2) := by decide +kernel
theorem dX7_fades_173 : decode cX7_fades 173 = .ok (.iload 4, 2) := by decide +kernel
theorem dX7_fades_175 : decode cX7_fades 175 = .ok (.ifCond .eq 11, 3) := by decide +kernel
theorem dX7_fades_178 : decode cX7_fades 178 = .ok (.iload 5, 2) := by decide +kernel
theorem dX7_fades_180 : decode cX7_fades 180 = .ok (.iload 6, 2) := by decide +kernel
theorem dX7_fades_182 : decode cX7_fades 182 = .ok (.idiv, 1) := by decide +kernel
theorem dX7_fades_183 : decode cX7_fades 183 = .ok (.goto 9, 3) := by decide +kernel
theorem dX7_fades_186 : decode cX7_fades 186 = .ok (.sipush 10000, 3) := by decide +kernel
theorem dX7_fades_189 : decode cX7_fades 189 = .ok (.iload 6, 2) := by decide +kernel
theorem dX7_fades_191 : decode cX7_fades 191 = .ok (.idiv, 1) := by decide +kernel
theorem dX7_fades_192 : decode cX7_fades 192 = .ok (.ireturn, 1) := by decide +kernel
theorem dX7_seed_0 : decode cX7_seed 0 = .ok (.aload_n 0, 1) := by decide +kernel
theorem dX7_seed_1 : decode cX7_seed 1 = .ok (.getfield 226, 3) := by decide +kernel
theorem dX7_seed_4 : decode cX7_seed 4 = .ok (.lstore_n 3, 1) := by decide +kernel
theorem dX7_seed_5 : decode cX7_seed 5 = .ok (.aload_n 0, 1) := by decide +kernel
theorem dX7_seed_6 : decode cX7_seed 6 = .ok (.lload_n 1, 1) := by decide +kernel
theorem dX7_seed_7 : decode cX7_seed 7 = .ok (.putfield 226, 3) := by decide +kernel
theorem dX7_seed_10 : decode cX7_seed 10 = .ok (.lload_n 3, 1) := by decide +kernel
theorem dX7_seed_11 : decode cX7_seed 11 = .ok (.lreturn, 1) := by decide +kernel
theorem dX7_areaOf_0 : decode cX7_areaOf 0 = .ok (.iconst 3, 1) := by decide +kernel
theorem dX7_areaOf_1 : decode cX7_areaOf 1 = .ok (.iload_n 1, 1) := by decide +kernel
theorem dX7_areaOf_2 : decode cX7_areaOf 2 = .ok (.imul, 1) := by decide +kernel
theorem dX7_areaOf_3 : decode cX7_areaOf 3 = .ok (.istore_n 2, 1) := by decide +kernel
theorem dX7_areaOf_4 : decode cX7_areaOf 4 = .ok (.aload_n 0, 1) := by decide +kernel
theorem dX7_areaOf_5 : decode cX7_areaOf 5 = .ok (.getfield 13, 3) := by decide +kernel
theorem dX7_areaOf_8 : decode cX7_areaOf 8 = .ok (.iload_n 2, 1) := by decide +kernel
theorem dX7_areaOf_9 : decode cX7_areaOf 9 = .ok (.laload, 1) := by decide +kernel
theorem dX7_areaOf_10 : decode cX7_areaOf 10 = .ok (.invokestatic 112, 3) := by decide +kernel
theorem dX7_areaOf_13 : decode cX7_areaOf 13 = .ok (.aload_n 0, 1) := by decide +kernel
theorem dX7_areaOf_14 : decode cX7_areaOf 14 = .ok (.getfield 13, 3) := by decide +kernel
theorem dX7_areaOf_17 : decode cX7_areaOf 17 = .ok (.iload_n 2, 1) := by decide +kernel
theorem dX7_areaOf_18 : decode cX7_areaOf 18 = .ok (.iconst 1, 1) := by decide +kernel
theorem dX7_areaOf_19 : decode cX7_areaOf 19 = .ok (.iadd, 1) := by decide +kernel
theorem dX7_areaOf_20 : decode cX7_areaOf 20 = .ok (.laload, 1) := by decide +kernel
theorem dX7_areaOf_21 : decode cX7_areaOf 21 = .ok (.invokestatic 112, 3) := by decide +kernel
theorem dX7_areaOf_24 : decode cX7_areaOf 24 = .ok (.iadd, 1) := by decide +kernel
theorem dX7_areaOf_25 : decode cX7_areaOf 25 = .ok (.aload_n 0, 1) := by decide +kernel
theorem dX7_areaOf_26 : decode cX7_areaOf 26 = .ok (.getfield 13, 3) := by decide +kernel
theorem dX7_areaOf_29 : decode cX7_areaOf 29 = .ok (.iload_n 2, 1) := by decide +kernel
theorem dX7_areaOf_30 : decode cX7_areaOf 30 = .ok (.iconst 2, 1) := by decide +kernel
theorem dX7_areaOf_31 : decode cX7_areaOf 31 = .ok (.iadd, 1) := by decide +kernel
theorem dX7_areaOf_32 : decode cX7_areaOf 32 = .ok (.laload, 1) := by decide +kernel
theorem dX7_areaOf_33 : decode cX7_areaOf 33 = .ok (.invokestatic 112, 3) := by decide +kernel
theorem dX7_areaOf_36 : decode cX7_areaOf 36 = .ok (.iadd, 1) := by decide +kernel
theorem dX7_areaOf_37 : decode cX7_areaOf 37 = .ok (.ireturn, 1) := by decide +kernel
theorem dX7_years_0 : decode cX7_years 0 = .ok (.iload_n 1, 1) := by decide +kernel
theorem dX7_years_1 : decode cX7_years 1 = .ok (.i2l, 1) := by decide +kernel
theorem dX7_years_2 : decode cX7_years 2 = .ok (.lconst 1, 1) := by decide +kernel
theorem dX7_years_3 : decode cX7_years 3 = .ok (.ldc2_w 229, 3) := by decide +kernel
theorem dX7_years_6 : decode cX7_years 6 = .ok (.invokestatic 44, 3) := by decide +kernel
theorem dX7_years_9 : decode cX7_years 9 = .ok (.ifCond .ne 6, 3) := by decide +kernel
theorem dX7_years_12 : decode cX7_years 12 = .ok (.bipush (-2), 2) := by decide +kernel
theorem dX7_years_14 : decode cX7_years 14 = .ok (.ireturn, 1) := by decide +kernel
theorem dX7_years_15 : decode cX7_years 15 = .ok (.aload_n 0, 1) := by decide +kernel
theorem dX7_years_16 : decode cX7_years 16 = .ok (.invokevirtual 190, 3) := by decide +kernel
theorem dX7_years_19 : decode cX7_years 19 = .ok (.iconst 0, 1) := by decide +kernel
theorem dX7_years_20 : decode cX7_years 20 = .ok (.istore_n 2, 1) := by decide +kernel
theorem dX7_years_21 : decode cX7_years 21 = .ok (.iconst 0, 1) := by decide +kernel
theorem dX7_years_22 : decode cX7_years 22 = .ok (.istore_n 3, 1) := by decide +kernel
theorem dX7_years_23 : decode cX7_years 23 = .ok (.iload_n 3, 1) := by decide +kernel
theorem dX7_years_24 : decode cX7_years 24 = .ok (.iload_n 1, 1) := by decide +kernel
theorem dX7_years_25 : decode cX7_years 25 = .ok (.if_icmp .ge 138, 3) := by decide +kernel
theorem dX7_years_28 : decode cX7_years 28 = .ok (.aload_n 0, 1) := by decide +kernel
theorem dX7_years_29 : decode cX7_years 29 = .ok (.aload_n 0, 1) := by decide +kernel
theorem dX7_years_30 : decode cX7_years 30 = .ok (.getfield 226, 3) := by decide +kernel
theorem dX7_years_33 : decode cX7_years 33 = .ok (.ldc2_w 231, 3) := by decide +kernel
theorem dX7_years_36 : decode cX7_years 36 = .ok (.lmul, 1) := by decide +kernel
theorem dX7_years_37 : decode cX7_years 37 = .ok (.ldc2_w 233, 3) := by decide +kernel
theorem dX7_years_40 : decode cX7_years 40 = .ok (.ladd, 1) := by decide +kernel
theorem dX7_years_41 : decode cX7_years 41 = .ok (.putfield 226, 3) := by decide +kernel
theorem dX7_years_44 : decode cX7_years 44 = .ok (.aload_n 0, 1) := by decide +kernel
theorem dX7_years_45 : decode cX7_years 45 = .ok (.getfield 226, 3) := by decide +kernel
theorem dX7_years_48 : decode cX7_years 48 = .ok (.bipush 33, 2) := by decide +kernel
theorem dX7_years_50 : decode cX7_years 50 = .ok (.lushr, 1) := by decide +kernel
theorem dX7_years_51 : decode cX7_years 51 = .ok (.ldc2_w 235, 3) := by decide +kernel
theorem dX7_years_54 : decode cX7_years 54 = .ok (.lrem, 1) := by decide +kernel
theorem dX7_years_55 : decode cX7_years 55 = .ok (.l2i, 1) := by decide +kernel
theorem dX7_years_56 : decode cX7_years 56 = .ok (.istore 4, 2) := by decide +kernel
theorem dX7_years_58 : decode cX7_years 58 = .ok (.iload 4, 2) := by decide +kernel
theorem dX7_years_60 : decode cX7_years 60 = .ok (.bipush 32, 2) := by decide +kernel
theorem dX7_years_62 : decode cX7_years 62 = .ok (.if_icmp .le 19, 3) := by decide +kernel
theorem dX7_years_65 : decode cX7_years 65 = .ok (.aload_n 0, 1) := by decide +kernel
theorem dX7_years_66 : decode cX7_years 66 = .ok (.bipush 7, 2) := by decide +kernel
theorem dX7_years_68 : decode cX7_years 68 = .ok (.iload 4, 2) := by decide +kernel
theorem dX7_years_70 : decode cX7_years 70 = .ok (.bipush 33, 2) := by decide +kernel
theorem dX7_years_72 : decode cX7_years 72 = .ok (.isub, 1) := by decide +kernel
theorem dX7_years_73 : decode cX7_years 73 = .ok (.iconst 0, 1) := by decide +kernel
theorem dX7_years_74 : decode cX7_years 74 = .ok (.invokevirtual 193, 3) := by decide +kernel
theorem dX7_years_77 : decode cX7_years 77 = .ok (.pop, 1) := by decide +kernel
theorem dX7_years_78 : decode cX7_years 78 = .ok (.goto 71, 3) := by decide +kernel
theorem dX7_years_81 : decode cX7_years 81 = .ok (.iload 4, 2) := by decide +kernel
theorem dX7_years_83 : decode cX7_years 83 = .ok (.bipush 29, 2) := by decide +kernel
theorem dX7_years_85 : decode cX7_years 85 = .ok (.if_icmp .le 19, 3) := by decide +kernel
theorem dX7_years_88 : decode cX7_years 88 = .ok (.aload_n 0, 1) := by decide +kernel
theorem dX7_years_89 : decode cX7_years 89 = .ok (.bipush 6, 2) := by decide +kernel
theorem dX7_years_91 : decode cX7_years 91 = .ok (.iload 4, 2) := by decide +kernel
theorem dX7_years_93 : decode cX7_years 93 = .ok (.bipush 30, 2) := by decide +kernel
theorem dX7_years_95 : decode cX7_years 95 = .ok (.isub, 1) := by decide +kernel
theorem dX7_years_96 : decode cX7_years 96 = .ok (.iconst 0, 1) := by decide +kernel
theorem dX7_years_97 : decode cX7_years 97 = .ok (.invokevirtual 193, 3) := by decide +kernel
theorem dX7_years_100 : decode cX7_years 100 = .ok (.pop, 1) := by decide +kernel
theorem dX7_years_101 : decode cX7_years 101 = .ok (.goto 48, 3) := by decide +kernel
theorem dX7_years_104 : decode cX7_years 104 = .ok (.iload 4, 2) := by decide +kernel
theorem dX7_years_106 : decode cX7_years 106 = .ok (.bipush 26, 2) := by decide +kernel
theorem dX7_years_108 : decode cX7_years 108 = .ok (.if_icmp .le 18, 3) := by decide +kernel
theorem dX7_years_111 : decode cX7_years 111 = .ok (.aload_n 0, 1) := by decide +kernel
theorem dX7_years_112 : decode cX7_years 112 = .ok (.iconst 4, 1) := by decide +kernel
theorem dX7_years_113 : decode cX7_years 113 = .ok (.iconst 0, 1) := by decide +kernel
theorem dX7_years_114 : decode cX7_years 114 = .ok (.iload 4, 2) := by decide +kernel
theorem dX7_years_116 : decode cX7_years 116 = .ok (.bipush 27, 2) := by decide +kernel
theorem dX7_years_118 : decode cX7_years 118 = .ok (.isub, 1) := by decide +kernel
theorem dX7_years_119 : decode cX7_years 119 = .ok (.invokevirtual 193, 3) := by decide +kernel
theorem dX7_years_122 : decode cX7_years 122 = .ok (.pop, 1) := by decide +kernel
theorem dX7_years_123 : decode cX7_years 123 = .ok (.goto 26, 3) := by decide +kernel
theorem dX7_years_126 : decode cX7_years 126 = .ok (.aload_n 0, 1) := by decide +kernel
theorem dX7_years_127 : decode cX7_years 127 = .ok (.iconst 1, 1) := by decide +kernel
theorem dX7_years_128 : decode cX7_years 128 = .ok (.iload 4, 2) := by decide +kernel
theorem dX7_years_130 : decode cX7_years 130 = .ok (.bipush 9, 2) := by decide +kernel
theorem dX7_years_132 : decode cX7_years 132 = .ok (.idiv, 1) := by decide +kernel
theorem dX7_years_133 : decode cX7_years 133 = .ok (.iadd, 1) := by decide +kernel
theorem dX7_years_134 : decode cX7_years 134 = .ok (.iload 4, 2) := by decide +kernel
theorem dX7_years_136 : decode cX7_years 136 = .ok (.bipush 9, 2) := by decide +kernel
theorem dX7_years_138 : decode cX7_years 138 = .ok (.irem, 1) := by decide +kernel
theorem dX7_years_139 : decode cX7_years 139 = .ok (.iconst 3, 1) := by decide +kernel
theorem dX7_years_140 : decode cX7_years 140 = .ok (.idiv, 1) := by decide +kernel
theorem dX7_years_141 : decode cX7_years 141 = .ok (.iload 4, 2) := by decide +kernel
theorem dX7_years_143 : decode cX7_years 143 = .ok (.iconst 3, 1) := by decide +kernel
theorem dX7_years_144 : decode cX7_years 144 = .ok (.irem, 1) := by decide +kernel
theorem dX7_years_145 : decode cX7_years 145 = .ok (.invokevirtual 193, 3) := by decide +kernel
theorem dX7_years_148 : decode cX7_years 148 = .ok (.pop, 1) := by decide +kernel
theorem dX7_years_149 : decode cX7_years 149 = .ok (.iload_n 2, 1) := by decide +kernel
theorem dX7_years_150 : decode cX7_years 150 = .ok (.aload_n 0, 1) := by decide +kernel
theorem dX7_years_151 : decode cX7_years 151 = .ok (.iconst 1, 1) := by decide +kernel
theorem dX7_years_152 : decode cX7_years 152 = .ok (.invokevirtual 237, 3) := by decide +kernel
theorem dX7_years_155 : decode cX7_years 155 = .ok (.iadd, 1) := by decide +kernel
theorem dX7_years_156 : decode cX7_years 156 = .ok (.istore_n 2, 1) := by decide +kernel
theorem dX7_years_157 : decode cX7_years 157 = .ok (.iinc 3 1, 3) := by decide +kernel
theorem dX7_years_160 : decode cX7_years 160 = .ok (.goto (-137), 3) := by decide +kernel
theorem dX7_years_163 : decode cX7_years 163 = .ok (.iload_n 2, 1) := by decide +kernel
theorem dX7_years_164 : decode cX7_years 164 = .ok (.ireturn, 1) := by decide +kernel
theorem dX7_keep_0 : decode cX7_keep 0 = .ok (.iload_n 1, 1) := by decide +kernel
theorem dX7_keep_1 : decode cX7_keep 1 = .ok (.i2l, 1) := by decide +kernel
theorem dX7_keep_2 : decode cX7_keep 2 = .ok (.lconst 0, 1) := by decide +kernel
theorem dX7_keep_3 : decode cX7_keep 3 = .ok (.lconst 1, 1) := by decide +kernel
theorem dX7_keep_4 : decode cX7_keep 4 = .ok (.invokestatic 44, 3) := by decide +kernel
theorem dX7_keep_7 : decode cX7_keep 7 = .ok (.ifCond .ne 5, 3) := by decide +kernel
theorem dX7_keep_10 : decode cX7_keep 10 = .ok (.iconst (-1), 1) := by decide +kernel
theorem dX7_keep_11 : decode cX7_keep 11 = .ok (.ireturn, 1) := by decide +kernel
theorem dX7_keep_12 : decode cX7_keep 12 = .ok (.aload_n 0, 1) := by decide +kernel
theorem dX7_keep_13 : decode cX7_keep 13 = .ok (.getfield 35, 3) := by decide +kernel
theorem dX7_keep_16 : decode cX7_keep 16 = .ok (.iload_n 1, 1) := by decide +kernel
theorem dX7_keep_17 : decode cX7_keep 17 = .ok (.iconst 1, 1) := by decide +kernel
theorem dX7_keep_18 : decode cX7_keep 18 = .ok (.bastore, 1) := by decide +kernel
theorem dX7_keep_19 : decode cX7_keep 19 = .ok (.iconst 0, 1) := by decide +kernel
theorem dX7_keep_20 : decode cX7_keep 20 = .ok (.istore_n 2, 1) := by decide +kernel
theorem dX7_keep_21 : decode cX7_keep 21 = .ok (.iload_n 2, 1) := by decide +kernel
theorem dX7_keep_22 : decode cX7_keep 22 = .ok (.iconst 3, 1) := by decide +kernel
theorem dX7_keep_23 : decode cX7_keep 23 = .ok (.if_icmp .ge 25, 3) := by decide +kernel
theorem dX7_keep_26 : decode cX7_keep 26 = .ok (.aload_n 0, 1) := by decide +kernel
theorem dX7_keep_27 : decode cX7_keep 27 = .ok (.getfield 39, 3) := by decide +kernel
theorem dX7_keep_30 : decode cX7_keep 30 = .ok (.iconst 3, 1) := by decide +kernel
theorem dX7_keep_31 : decode cX7_keep 31 = .ok (.iload_n 1, 1) := by decide +kernel
theorem dX7_keep_32 : decode cX7_keep 32 = .ok (.imul, 1) := by decide +kernel
theorem dX7_keep_33 : decode cX7_keep 33 = .ok (.iload_n 2, 1) := by decide +kernel
theorem dX7_keep_34 : decode cX7_keep 34 = .ok (.iadd, 1) := by decide +kernel
theorem dX7_keep_35 : decode cX7_keep 35 = .ok (.aload_n 0, 1) := by decide +kernel
theorem dX7_keep_36 : decode cX7_keep 36 = .ok (.getfield 13, 3) := by decide +kernel
theorem dX7_keep_39 : decode cX7_keep 39 = .ok (.iload_n 2, 1) := by decide +kernel
theorem dX7_keep_40 : decode cX7_keep 40 = .ok (.laload, 1) := by decide +kernel
theorem dX7_keep_41 : decode cX7_keep 41 = .ok (.lastore, 1) := by decide +kernel
theorem dX7_keep_42 : decode cX7_keep 42 = .ok (.iinc 2 1, 3) := by decide +kernel
theorem dX7_keep_45 : decode cX7_keep 45 = .ok (.goto (-24), 3) := by decide +kernel
theorem dX7_keep_48 : decode cX7_keep 48 = .ok (.aload_n 0, 1) := by decide +kernel
theorem dX7_keep_49 : decode cX7_keep 49 = .ok (.iconst 0, 1) := by decide +kernel
theorem dX7_keep_50 : decode cX7_keep 50 = .ok (.invokevirtual 237, 3) := by decide +kernel
theorem dX7_keep_53 : decode cX7_keep 53 = .ok (.ireturn, 1) := by decide +kernel
theorem dX7_again_0 : decode cX7_again 0 = .ok (.iload_n 1, 1) := by decide +kernel
theorem dX7_again_1 : decode cX7_again 1 = .ok (.i2l, 1) := by decide +kernel
theorem dX7_again_2 : decode cX7_again 2 = .ok (.lconst 0, 1) := by decide +kernel
theorem dX7_again_3 : decode cX7_again 3 = .ok (.lconst 1, 1) := by decide +kernel
theorem dX7_again_4 : decode cX7_again 4 = .ok (.invokestatic 44, 3) := by decide +kernel
theorem dX7_again_7 : decode cX7_again 7 = .ok (.ifCond .ne 5, 3) := by decide +kernel
theorem dX7_again_10 : decode cX7_again 10 = .ok (.iconst (-1), 1) := by decide +kernel
theorem dX7_again_11 : decode cX7_again 11 = .ok (.ireturn, 1) := by decide +kernel
theorem dX7_again_12 : decode cX7_again 12 = .ok (.aload_n 0, 1) := by decide +kernel
theorem dX7_again_13 : decode cX7_again 13 = .ok (.getfield 35, 3) := by decide +kernel
theorem dX7_again_16 : decode cX7_again 16 = .ok (.iload_n 1, 1) := by decide +kernel
theorem dX7_again_17 : decode cX7_again 17 = .ok (.baload, 1) := by decide +kernel
theorem dX7_again_18 : decode cX7_again 18 = .ok (.ifCond .ne 6, 3) := by decide +kernel
theorem dX7_again_21 : decode cX7_again 21 = .ok (.bipush (-3), 2) := by decide +kernel
theorem dX7_again_23 : decode cX7_again 23 = .ok (.ireturn, 1) := by decide +kernel
theorem dX7_again_24 : decode cX7_again 24 = .ok (.iconst 0, 1) := by decide +kernel
theorem dX7_again_25 : decode cX7_again 25 = .ok (.istore_n 2, 1) := by decide +kernel
theorem dX7_again_26 : decode cX7_again 26 = .ok (.iload_n 2, 1) := by decide +kernel
theorem dX7_again_27 : decode cX7_again 27 = .ok (.iconst 3, 1) := by decide +kernel
theorem dX7_again_28 : decode cX7_again 28 = .ok (.if_icmp .ge 25, 3) := by decide +kernel
theorem dX7_again_31 : decode cX7_again 31 = .ok (.aload_n 0, 1) := by decide +kernel
theorem dX7_again_32 : decode cX7_again 32 = .ok (.getfield 13, 3) := by decide +kernel
theorem dX7_again_35 : decode cX7_again 35 = .ok (.iload_n 2, 1) := by decide +kernel
theorem dX7_again_36 : decode cX7_again 36 = .ok (.aload_n 0, 1) := by decide +kernel
theorem dX7_again_37 : decode cX7_again 37 = .ok (.getfield 39, 3) := by decide +kernel
theorem dX7_again_40 : decode cX7_again 40 = .ok (.iconst 3, 1) := by decide +kernel
theorem dX7_again_41 : decode cX7_again 41 = .ok (.iload_n 1, 1) := by decide +kernel
theorem dX7_again_42 : decode cX7_again 42 = .ok (.imul, 1) := by decide +kernel
theorem dX7_again_43 : decode cX7_again 43 = .ok (.iload_n 2, 1) := by decide +kernel
theorem dX7_again_44 : decode cX7_again 44 = .ok (.iadd, 1) := by decide +kernel
theorem dX7_again_45 : decode cX7_again 45 = .ok (.laload, 1) := by decide +kernel
theorem dX7_again_46 : decode cX7_again 46 = .ok (.lastore, 1) := by decide +kernel
theorem dX7_again_47 : decode cX7_again 47 = .ok (.iinc 2 1, 3) := by decide +kernel
theorem dX7_again_50 : decode cX7_again 50 = .ok (.goto (-24), 3) := by decide +kernel
theorem dX7_again_53 : decode cX7_again 53 = .ok (.aload_n 0, 1) := by decide +kernel
theorem dX7_again_54 : decode cX7_again 54 = .ok (.iconst 0, 1) := by decide +kernel
theorem dX7_again_55 : decode cX7_again 55 = .ok (.putfield 103, 3) := by decide +kernel
theorem dX7_again_58 : decode cX7_again 58 = .ok (.aload_n 0, 1) := by decide +kernel
theorem dX7_again_59 : decode cX7_again 59 = .ok (.iconst 0, 1) := by decide +kernel
theorem dX7_again_60 : decode cX7_again 60 = .ok (.invokevirtual 237, 3) := by decide +kernel
theorem dX7_again_63 : decode cX7_again 63 = .ok (.ireturn, 1) := by decide +kernel
theorem dX7_count_0 : decode cX7_count 0 = .ok (.iload_n 1, 1) := by decide +kernel
theorem dX7_count_1 : decode cX7_count 1 = .ok (.tableswitch 91 0 5 #[39, 44, 50, 57, 81, 86], 39) := by decide +kernel
theorem dX7_count_40 : decode cX7_count 40 = .ok (.aload_n 0, 1) := by decide +kernel
theorem dX7_count_41 : decode cX7_count 41 = .ok (.getfield 69, 3) := by decide +kernel
theorem dX7_count_44 : decode cX7_count 44 = .ok (.ireturn, 1) := by decide +kernel
theorem dX7_count_45 : decode cX7_count 45 = .ok (.aload_n 0, 1) := by decide +kernel
theorem dX7_count_46 : decode cX7_count 46 = .ok (.iconst 0, 1) := by decide +kernel
theorem dX7_count_47 : decode cX7_count 47 = .ok (.invokevirtual 237, 3) := by decide +kernel
theorem dX7_count_50 : decode cX7_count 50 = .ok (.ireturn, 1) := by decide +kernel
theorem dX7_count_51 : decode cX7_count 51 = .ok (.aload_n 0, 1) := by decide +kernel
theorem dX7_count_52 : decode cX7_count 52 = .ok (.bipush 7, 2) := by decide +kernel
theorem dX7_count_54 : decode cX7_count 54 = .ok (.invokevirtual 208, 3) := by decide +kernel
theorem dX7_count_57 : decode cX7_count 57 = .ok (.ireturn, 1) := by decide +kernel
theorem dX7_count_58 : decode cX7_count 58 = .ok (.aload_n 0, 1) := by decide +kernel
theorem dX7_count_59 : decode cX7_count 59 = .ok (.getfield 13, 3) := by decide +kernel
theorem dX7_count_62 : decode cX7_count 62 = .ok (.iconst 0, 1) := by decide +kernel
theorem dX7_count_63 : decode cX7_count 63 = .ok (.laload, 1) := by decide +kernel
theorem dX7_count_64 : decode cX7_count 64 = .ok (.aload_n 0, 1) := by decide +kernel
theorem dX7_count_65 : decode cX7_count 65 = .ok (.getfield 13, 3) := by decide +kernel
theorem dX7_count_68 : decode cX7_count 68 = .ok (.iconst 1, 1) := by decide +kernel
theorem dX7_count_69 : decode cX7_count 69 = .ok (.laload, 1) := by decide +kernel
theorem dX7_count_70 : decode cX7_count 70 = .ok (.land, 1) := by decide +kernel
theorem dX7_count_71 : decode cX7_count 71 = .ok (.aload_n 0, 1) := by decide +kernel
theorem dX7_count_72 : decode cX7_count 72 = .ok (.getfield 13, 3) := by decide +kernel
theorem dX7_count_75 : decode cX7_count 75 = .ok (.iconst 2, 1) := by decide +kernel
theorem dX7_count_76 : decode cX7_count 76 = .ok (.laload, 1) := by decide +kernel
theorem dX7_count_77 : decode cX7_count 77 = .ok (.land, 1) := by decide +kernel
theorem dX7_count_78 : decode cX7_count 78 = .ok (.invokestatic 112, 3) := by decide +kernel
theorem dX7_count_81 : decode cX7_count 81 = .ok (.ireturn, 1) := by decide +kernel
theorem dX7_count_82 : decode cX7_count 82 = .ok (.aload_n 0, 1) := by decide +kernel
theorem dX7_count_83 : decode cX7_count 83 = .ok (.getfield 103, 3) := by decide +kernel
theorem dX7_count_86 : decode cX7_count 86 = .ok (.ireturn, 1) := by decide +kernel
theorem dX7_count_87 : decode cX7_count 87 = .ok (.aload_n 0, 1) := by decide +kernel
theorem dX7_count_88 : decode cX7_count 88 = .ok (.getfield 196, 3) := by decide +kernel
theorem dX7_count_91 : decode cX7_count 91 = .ok (.ireturn, 1) := by decide +kernel
theorem dX7_count_92 : decode cX7_count 92 = .ok (.bipush (-2), 2) := by decide +kernel
theorem dX7_count_94 : decode cX7_count 94 = .ok (.ireturn, 1) := by decide +kernel
end
section
theorem dL_law_0 : decode cL_law 0 = .ok (.new 7, 3) := by decide +kernel
theorem dL_law_3 : decode cL_law 3 = .ok (.dup, 1) := by decide +kernel
theorem dL_law_4 : decode cL_law 4 = .ok (.invokespecial 9, 3) := by decide +kernel
theorem dL_law_7 : decode cL_law 7 = .ok (.astore_n 1, 1) := by decide +kernel
theorem dL_law_8 : decode cL_law 8 = .ok (.new 10, 3) := by decide +kernel
theorem dL_law_11 : decode cL_law 11 = .ok (.dup, 1) := by decide +kernel
theorem dL_law_12 : decode cL_law 12 = .ok (.invokespecial 12, 3) := by decide +kernel
theorem dL_law_15 : decode cL_law 15 = .ok (.astore_n 2, 1) := by decide +kernel
theorem dL_law_16 : decode cL_law 16 = .ok (.iconst 0, 1) := by decide +kernel
theorem dL_law_17 : decode cL_law 17 = .ok (.istore_n 3, 1) := by decide +kernel
theorem dL_law_18 : decode cL_law 18 = .ok (.iload_n 3, 1) := by decide +kernel
theorem dL_law_19 : decode cL_law 19 = .ok (.aload_n 0, 1) := by decide +kernel
theorem dL_law_20 : decode cL_law 20 = .ok (.arraylength, 1) := by decide +kernel
theorem dL_law_21 : decode cL_law 21 = .ok (.iconst 5, 1) := by decide +kernel
theorem dL_law_22 : decode cL_law 22 = .ok (.isub, 1) := by decide +kernel
theorem dL_law_23 : decode cL_law 23 = .ok (.if_icmp .gt 1095, 3) := by decide +kernel
theorem dL_law_26 : decode cL_law 26 = .ok (.aload_n 0, 1) := by decide +kernel
theorem dL_law_27 : decode cL_law 27 = .ok (.iload_n 3, 1) := by decide +kernel
theorem dL_law_28 : decode cL_law 28 = .ok (.iaload, 1) := by decide +kernel
theorem dL_law_29 : decode cL_law 29 = .ok (.bipush 31, 2) := by decide +kernel
theorem dL_law_31 : decode cL_law 31 = .ok (.iand, 1) := by decide +kernel
theorem dL_law_32 : decode cL_law 32 = .ok (.tableswitch 1080 0 29 #[136, 159, 172, 185, 208, 241, 274, 307, 330, 353, 386, 419, 432, 456, 489, 522, 565, 598, 641, 704, 737, 750, 773, 822, 865, 934, 988, 1011, 1034, 1057], 136) := by decide +kernel
theorem dL_law_168 : decode cL_law 168 = .ok (.aload_n 1, 1) := by decide +kernel
theorem dL_law_169 : decode cL_law 169 = .ok (.aload_n 0, 1) := by decide +kernel
theorem dL_law_170 : decode cL_law 170 = .ok (.iload_n 3, 1) := by decide +kernel
theorem dL_law_171 : decode cL_law 171 = .ok (.iconst 1, 1) := by decide +kernel
theorem dL_law_172 : decode cL_law 172 = .ok (.iadd, 1) := by decide +kernel
theorem dL_law_173 : decode cL_law 173 = .ok (.iaload, 1) := by decide +kernel
theorem dL_law_174 : decode cL_law 174 = .ok (.invokevirtual 13, 3) := by decide +kernel
theorem dL_law_177 : decode cL_law 177 = .ok (.aload_n 2, 1) := by decide +kernel
theorem dL_law_178 : decode cL_law 178 = .ok (.aload_n 0, 1) := by decide +kernel
theorem dL_law_179 : decode cL_law 179 = .ok (.iload_n 3, 1) := by decide +kernel
theorem dL_law_180 : decode cL_law 180 = .ok (.iconst 1, 1) := by decide +kernel
theorem dL_law_181 : decode cL_law 181 = .ok (.iadd, 1) := by decide +kernel
theorem dL_law_182 : decode cL_law 182 = .ok (.iaload, 1) := by decide +kernel
theorem dL_law_183 : decode cL_law 183 = .ok (.invokevirtual 17, 3) := by decide +kernel
theorem dL_law_186 : decode cL_law 186 = .ok (.if_icmp .eq 926, 3) := by decide +kernel
theorem dL_law_189 : decode cL_law 189 = .ok (.iconst 0, 1) := by decide +kernel
theorem dL_law_190 : decode cL_law 190 = .ok (.ireturn, 1) := by decide +kernel
theorem dL_law_191 : decode cL_law 191 = .ok (.aload_n 1, 1) := by decide +kernel
theorem dL_law_192 : decode cL_law 192 = .ok (.invokevirtual 18, 3) := by decide +kernel
theorem dL_law_195 : decode cL_law 195 = .ok (.aload_n 2, 1) := by decide +kernel
theorem dL_law_196 : decode cL_law 196 = .ok (.invokevirtual 22, 3) := by decide +kernel
theorem dL_law_199 : decode cL_law 199 = .ok (.if_icmp .eq 913, 3) := by decide +kernel
theorem dL_law_202 : decode cL_law 202 = .ok (.iconst 0, 1) := by decide +kernel
theorem dL_law_203 : decode cL_law 203 = .ok (.ireturn, 1) := by decide +kernel
theorem dL_law_204 : decode cL_law 204 = .ok (.aload_n 1, 1) := by decide +kernel
theorem dL_law_205 : decode cL_law 205 = .ok (.invokevirtual 23, 3) := by decide +kernel
theorem dL_law_208 : decode cL_law 208 = .ok (.aload_n 2, 1) := by decide +kernel
theorem dL_law_209 : decode cL_law 209 = .ok (.invokevirtual 26, 3) := by decide +kernel
theorem dL_law_212 : decode cL_law 212 = .ok (.if_icmp .eq 900, 3) := by decide +kernel
theorem dL_law_215 : decode cL_law 215 = .ok (.iconst 0, 1) := by decide +kernel
theorem dL_law_216 : decode cL_law 216 = .ok (.ireturn, 1) := by decide +kernel
theorem dL_law_217 : decode cL_law 217 = .ok (.aload_n 1, 1) := by decide +kernel
theorem dL_law_218 : decode cL_law 218 = .ok (.aload_n 0, 1) := by decide +kernel
theorem dL_law_219 : decode cL_law 219 = .ok (.iload_n 3, 1) := by decide +kernel
theorem dL_law_220 : decode cL_law 220 = .ok (.iconst 1, 1) := by decide +kernel
theorem dL_law_221 : decode cL_law 221 = .ok (.iadd, 1) := by decide +kernel
theorem dL_law_222 : decode cL_law 222 = .ok (.iaload, 1) := by decide +kernel
theorem dL_law_223 : decode cL_law 223 = .ok (.invokevirtual 27, 3) := by decide +kernel
theorem dL_law_226 : decode cL_law 226 = .ok (.aload_n 2, 1) := by decide +kernel
theorem dL_law_227 : decode cL_law 227 = .ok (.aload_n 0, 1) := by decide +kernel
theorem dL_law_228 : decode cL_law 228 = .ok (.iload_n 3, 1) := by decide +kernel
theorem dL_law_229 : decode cL_law 229 = .ok (.iconst 1, 1) := by decide +kernel
theorem dL_law_230 : decode cL_law 230 = .ok (.iadd, 1) := by decide +kernel
theorem dL_law_231 : decode cL_law 231 = .ok (.iaload, 1) := by decide +kernel
theorem dL_law_232 : decode cL_law 232 = .ok (.invokevirtual 30, 3) := by decide +kernel
theorem dL_law_235 : decode cL_law 235 = .ok (.if_icmp .eq 877, 3) := by decide +kernel
theorem dL_law_238 : decode cL_law 238 = .ok (.iconst 0, 1) := by decide +kernel
theorem dL_law_239 : decode cL_law 239 = .ok (.ireturn, 1) := by decide +kernel
theorem dL_law_240 : decode cL_law 240 = .ok (.aload_n 1, 1) := by decide +kernel
theorem dL_law_241 : decode cL_law 241 = .ok (.aload_n 0, 1) := by decide +kernel
theorem dL_law_242 : decode cL_law 242 = .ok (.iload_n 3, 1) := by decide +kernel
theorem dL_law_243 : decode cL_law 243 = .ok (.iconst 1, 1) := by decide +kernel
theorem dL_law_244 : decode cL_law 244 = .ok (.iadd, 1) := by decide +kernel
theorem dL_law_245 : decode cL_law 245 = .ok (.iaload, 1) := by decide +kernel
theorem dL_law_246 : decode cL_law 246 = .ok (.aload_n 0, 1) := by decide +kernel
theorem dL_law_247 : decode cL_law 247 = .ok (.iload_n 3, 1) := by decide +kernel
theorem dL_law_248 : decode cL_law 248 = .ok (.iconst 2, 1) := by decide +kernel
theorem dL_law_249 : decode cL_law 249 = .ok (.iadd, 1) := by decide +kernel
theorem dL_law_250 : decode cL_law 250 = .ok (.iaload, 1) := by decide +kernel
theorem dL_law_251 : decode cL_law 251 = .ok (.invokevirtual 31, 3) := by decide +kernel
theorem dL_law_254 : decode cL_law 254 = .ok (.aload_n 2, 1) := by decide +kernel
theorem dL_law_255 : decode cL_law 255 = .ok (.aload_n 0, 1) := by decide +kernel
theorem dL_law_256 : decode cL_law 256 = .ok (.iload_n 3, 1) := by decide +kernel
theorem dL_law_257 : decode cL_law 257 = .ok (.iconst 1, 1) := by decide +kernel
theorem dL_law_258 : decode cL_law 258 = .ok (.iadd, 1) := by decide +kernel
theorem dL_law_259 : decode cL_law 259 = .ok (.iaload, 1) := by decide +kernel
theorem dL_law_260 : decode cL_law 260 = .ok (.aload_n 0, 1) := by decide +kernel
theorem dL_law_261 : decode cL_law 261 = .ok (.iload_n 3, 1) := by decide +kernel
theorem dL_law_262 : decode cL_law 262 = .ok (.iconst 2, 1) := by decide +kernel
theorem dL_law_263 : decode cL_law 263 = .ok (.iadd, 1) := by decide +kernel
theorem dL_law_264 : decode cL_law 264 = .ok (.iaload, 1) := by decide +kernel
theorem dL_law_265 : decode cL_law 265 = .ok (.invokevirtual 35, 3) := by decide +kernel
theorem dL_law_268 : decode cL_law 268 = .ok (.if_icmp .eq 844, 3) := by decide +kernel
theorem dL_law_271 : decode cL_law 271 = .ok (.iconst 0, 1) := by decide +kernel
theorem dL_law_272 : decode cL_law 272 = .ok (.ireturn, 1) := by decide +kernel
theorem dL_law_273 : decode cL_law 273 = .ok (.aload_n 1, 1) := by decide +kernel
theorem dL_law_274 : decode cL_law 274 = .ok (.aload_n 0, 1) := by decide +kernel
theorem dL_law_275 : decode cL_law 275 = .ok (.iload_n 3, 1) := by decide +kernel
theorem dL_law_276 : decode cL_law 276 = .ok (.iconst 1, 1) := by decide +kernel
theorem dL_law_277 : decode cL_law 277 = .ok (.iadd, 1) := by decide +kernel
theorem dL_law_278 : decode cL_law 278 = .ok (.iaload, 1) := by decide +kernel
theorem dL_law_279 : decode cL_law 279 = .ok (.aload_n 0, 1) := by decide +kernel
theorem dL_law_280 : decode cL_law 280 = .ok (.iload_n 3, 1) := by decide +kernel
theorem dL_law_281 : decode cL_law 281 = .ok (.iconst 2, 1) := by decide +kernel
theorem dL_law_282 : decode cL_law 282 = .ok (.iadd, 1) := by decide +kernel
theorem dL_law_283 : decode cL_law 283 = .ok (.iaload, 1) := by decide +kernel
theorem dL_law_284 : decode cL_law 284 = .ok (.invokevirtual 36, 3) := by decide +kernel
theorem dL_law_287 : decode cL_law 287 = .ok (.aload_n 2, 1) := by decide +kernel
theorem dL_law_288 : decode cL_law 288 = .ok (.aload_n 0, 1) := by decide +kernel
theorem dL_law_289 : decode cL_law 289 = .ok (.iload_n 3, 1) := by decide +kernel
theorem dL_law_290 : decode cL_law 290 = .ok (.iconst 1, 1) := by decide +kernel
theorem dL_law_291 : decode cL_law 291 = .ok (.iadd, 1) := by decide +kernel
theorem dL_law_292 : decode cL_law 292 = .ok (.iaload, 1) := by decide +kernel
theorem dL_law_293 : decode cL_law 293 = .ok (.aload_n 0, 1) := by decide +kernel
theorem dL_law_294 : decode cL_law 294 = .ok (.iload_n 3, 1) := by decide +kernel
theorem dL_law_295 : decode cL_law 295 = .ok (.iconst 2, 1) := by decide +kernel
theorem dL_law_296 : decode cL_law 296 = .ok (.iadd, 1) := by decide +kernel
theorem dL_law_297 : decode cL_law 297 = .ok (.iaload, 1) := by decide +kernel
theorem dL_law_298 : decode cL_law 298 = .ok (.invokevirtual 39, 3) := by decide +kernel
theorem dL_law_301 : decode cL_law 301 = .ok (.if_icmp .eq 811, 3) := by decide +kernel
theorem dL_law_304 : decode cL_law 304 = .ok (.iconst 0, 1) := by decide +kernel
theorem dL_law_305 : decode cL_law 305 = .ok (.ireturn, 1) := by decide +kernel
theorem dL_law_306 : decode cL_law 306 = .ok (.aload_n 1, 1) := by decide +kernel
theorem dL_law_307 : decode cL_law 307 = .ok (.aload_n 0, 1) := by decide +kernel
theorem dL_law_308 : decode cL_law 308 = .ok (.iload_n 3, 1) := by decide +kernel
theorem dL_law_309 : decode cL_law 309 = .ok (.iconst 1, 1) := by decide +kernel
theorem dL_law_310 : decode cL_law 310 = .ok (.iadd, 1) := by decide +kernel
theorem dL_law_311 : decode cL_law 311 = .ok (.iaload, 1) := by decide +kernel
theorem dL_law_312 : decode cL_law 312 = .ok (.aload_n 0, 1) := by decide +kernel
theorem dL_law_313 : decode cL_law 313 = .ok (.iload_n 3, 1) := by decide +kernel
theorem dL_law_314 : decode cL_law 314 = .ok (.iconst 2, 1) := by decide +kernel
theorem dL_law_315 : decode cL_law 315 = .ok (.iadd, 1) := by decide +kernel
theorem dL_law_316 : decode cL_law 316 = .ok (.iaload, 1) := by decide +kernel
theorem dL_law_317 : decode cL_law 317 = .ok (.invokevirtual 40, 3) := by decide +kernel
theorem dL_law_320 : decode cL_law 320 = .ok (.aload_n 2, 1) := by decide +kernel
theorem dL_law_321 : decode cL_law 321 = .ok (.aload_n 0, 1) := by decide +kernel
theorem dL_law_322 : decode cL_law 322 = .ok (.iload_n 3, 1) := by decide +kernel
theorem dL_law_323 : decode cL_law 323 = .ok (.iconst 1, 1) := by decide +kernel
theorem dL_law_324 : decode cL_law 324 = .ok (.iadd, 1) := by decide +kernel
theorem dL_law_325 : decode cL_law 325 = .ok (.iaload, 1) := by decide +kernel
theorem dL_law_326 : decode cL_law 326 = .ok (.aload_n 0, 1) := by decide +kernel
theorem dL_law_327 : decode cL_law 327 = .ok (.iload_n 3, 1) := by decide +kernel
theorem dL_law_328 : decode cL_law 328 = .ok (.iconst 2, 1) := by decide +kernel
theorem dL_law_329 : decode cL_law 329 = .ok (.iadd, 1) := by decide +kernel
theorem dL_law_330 : decode cL_law 330 = .ok (.iaload, 1) := by decide +kernel
theorem dL_law_331 : decode cL_law 331 = .ok (.invokevirtual 43, 3) := by decide +kernel
theorem dL_law_334 : decode cL_law 334 = .ok (.if_icmp .eq 778, 3) := by decide +kernel
theorem dL_law_337 : decode cL_law 337 = .ok (.iconst 0, 1) := by decide +kernel
theorem dL_law_338 : decode cL_law 338 = .ok (.ireturn, 1) := by decide +kernel
theorem dL_law_339 : decode cL_law 339 = .ok (.aload_n 1, 1) := by decide +kernel
theorem dL_law_340 : decode cL_law 340 = .ok (.aload_n 0, 1) := by decide +kernel
theorem dL_law_341 : decode cL_law 341 = .ok (.iload_n 3, 1) := by decide +kernel
theorem dL_law_342 : decode cL_law 342 = .ok (.iconst 1, 1) := by decide +kernel
theorem dL_law_343 : decode cL_law 343 = .ok (.iadd, 1) := by decide +kernel
theorem dL_law_344 : decode cL_law 344 = .ok (.iaload, 1) := by decide +kernel
theorem dL_law_345 : decode cL_law 345 = .ok (.invokevirtual 44, 3) := by decide +kernel
theorem dL_law_348 : decode cL_law 348 = .ok (.aload_n 2, 1) := by decide +kernel
theorem dL_law_349 : decode cL_law 349 = .ok (.aload_n 0, 1) := by decide +kernel
theorem dL_law_350 : decode cL_law 350 = .ok (.iload_n 3, 1) := by decide +kernel
theorem dL_law_351 : decode cL_law 351 = .ok (.iconst 1, 1) := by decide +kernel
theorem dL_law_352 : decode cL_law 352 = .ok (.iadd, 1) := by decide +kernel
theorem dL_law_353 : decode cL_law 353 = .ok (.iaload, 1) := by decide +kernel
theorem dL_law_354 : decode cL_law 354 = .ok (.invokevirtual 47, 3) := by decide +kernel
theorem dL_law_357 : decode cL_law 357 = .ok (.if_icmp .eq 755, 3) := by decide +kernel
theorem dL_law_360 : decode cL_law 360 = .ok (.iconst 0, 1) := by decide +kernel
theorem dL_law_361 : decode cL_law 361 = .ok (.ireturn, 1) := by decide +kernel
theorem dL_law_362 : decode cL_law 362 = .ok (.aload_n 1, 1) := by decide +kernel
theorem dL_law_363 : decode cL_law 363 = .ok (.aload_n 0, 1) := by decide +kernel
theorem dL_law_364 : decode cL_law 364 = .ok (.iload_n 3, 1) := by decide +kernel
theorem dL_law_365 : decode cL_law 365 = .ok (.iconst 1, 1) := by decide +kernel
theorem dL_law_366 : decode cL_law 366 = .ok (.iadd, 1) := by decide +kernel
theorem dL_law_367 : decode cL_law 367 = .ok (.iaload, 1) := by decide +kernel
theorem dL_law_368 : decode cL_law 368 = .ok (.invokevirtual 48, 3) := by decide +kernel
theorem dL_law_371 : decode cL_law 371 = .ok (.aload_n 2, 1) := by decide +kernel
theorem dL_law_372 : decode cL_law 372 = .ok (.aload_n 0, 1) := by decide +kernel
theorem dL_law_373 : decode cL_law 373 = .ok (.iload_n 3, 1) := by decide +kernel
theorem dL_law_374 : decode cL_law 374 = .ok (.iconst 1, 1) := by decide +kernel
theorem dL_law_375 : decode cL_law 375 = .ok (.iadd, 1) := by decide +kernel
theorem dL_law_376 : decode cL_law 376 = .ok (.iaload, 1) := by decide +kernel
theorem dL_law_377 : decode cL_law 377 = .ok (.invokevirtual 51, 3) := by decide +kernel
theorem dL_law_380 : decode cL_law 380 = .ok (.if_icmp .eq 732, 3) := by decide +kernel
theorem dL_law_383 : decode cL_law 383 = .ok (.iconst 0, 1) := by decide +kernel
theorem dL_law_384 : decode cL_law 384 = .ok (.ireturn, 1) := by decide +kernel
theorem dL_law_385 : decode cL_law 385 = .ok (.aload_n 1, 1) := by decide +kernel
theorem dL_law_386 : decode cL_law 386 = .ok (.aload_n 0, 1) := by decide +kernel
theorem dL_law_387 : decode cL_law 387 = .ok (.iload_n 3, 1) := by decide +kernel
theorem dL_law_388 : decode cL_law 388 = .ok (.iconst 1, 1) := by decide +kernel
theorem dL_law_389 : decode cL_law 389 = .ok (.iadd, 1) := by decide +kernel
theorem dL_law_390 : decode cL_law 390 = .ok (.iaload, 1) := by decide +kernel
theorem dL_law_391 : decode cL_law 391 = .ok (.aload_n 0, 1) := by decide +kernel
theorem dL_law_392 : decode cL_law 392 = .ok (.iload_n 3, 1) := by decide +kernel
theorem dL_law_393 : decode cL_law 393 = .ok (.iconst 2, 1) := by decide +kernel
theorem dL_law_394 : decode cL_law 394 = .ok (.iadd, 1) := by decide +kernel
theorem dL_law_395 : decode cL_law 395 = .ok (.iaload, 1) := by decide +kernel
theorem dL_law_396 : decode cL_law 396 = .ok (.invokevirtual 52, 3) := by decide +kernel
theorem dL_law_399 : decode cL_law 399 = .ok (.aload_n 2, 1) := by decide +kernel
theorem dL_law_400 : decode cL_law 400 = .ok (.aload_n 0, 1) := by decide +kernel
theorem dL_law_401 : decode cL_law 401 = .ok (.iload_n 3, 1) := by decide +kernel
theorem dL_law_402 : decode cL_law 402 = .ok (.iconst 1, 1) := by decide +kernel
theorem dL_law_403 : decode cL_law 403 = .ok (.iadd, 1) := by decide +kernel
theorem dL_law_404 : decode cL_law 404 = .ok (.iaload, 1) := by decide +kernel
theorem dL_law_405 : decode cL_law 405 = .ok (.aload_n 0, 1) := by decide +kernel
theorem dL_law_406 : decode cL_law 406 = .ok (.iload_n 3, 1) := by decide +kernel
theorem dL_law_407 : decode cL_law 407 = .ok (.iconst 2, 1) := by decide +kernel
theorem dL_law_408 : decode cL_law 408 = .ok (.iadd, 1) := by decide +kernel
theorem dL_law_409 : decode cL_law 409 = .ok (.iaload, 1) := by decide +kernel
theorem dL_law_410 : decode cL_law 410 = .ok (.invokevirtual 55, 3) := by decide +kernel
theorem dL_law_413 : decode cL_law 413 = .ok (.if_icmp .eq 699, 3) := by decide +kernel
theorem dL_law_416 : decode cL_law 416 = .ok (.iconst 0, 1) := by decide +kernel
theorem dL_law_417 : decode cL_law 417 = .ok (.ireturn, 1) := by decide +kernel
theorem dL_law_418 : decode cL_law 418 = .ok (.aload_n 1, 1) := by decide +kernel
theorem dL_law_419 : decode cL_law 419 = .ok (.aload_n 0, 1) := by decide +kernel
theorem dL_law_420 : decode cL_law 420 = .ok (.iload_n 3, 1) := by decide +kernel
theorem dL_law_421 : decode cL_law 421 = .ok (.iconst 1, 1) := by decide +kernel
theorem dL_law_422 : decode cL_law 422 = .ok (.iadd, 1) := by decide +kernel
theorem dL_law_423 : decode cL_law 423 = .ok (.iaload, 1) := by decide +kernel
theorem dL_law_424 : decode cL_law 424 = .ok (.aload_n 0, 1) := by decide +kernel
theorem dL_law_425 : decode cL_law 425 = .ok (.iload_n 3, 1) := by decide +kernel
theorem dL_law_426 : decode cL_law 426 = .ok (.iconst 2, 1) := by decide +kernel
theorem dL_law_427 : decode cL_law 427 = .ok (.iadd, 1) := by decide +kernel
theorem dL_law_428 : decode cL_law 428 = .ok (.iaload, 1) := by decide +kernel
theorem dL_law_429 : decode cL_law 429 = .ok (.invokevirtual 56, 3) := by decide +kernel
theorem dL_law_432 : decode cL_law 432 = .ok (.aload_n 2, 1) := by decide +kernel
theorem dL_law_433 : decode cL_law 433 = .ok (.aload_n 0, 1) := by decide +kernel
theorem dL_law_434 : decode cL_law 434 = .ok (.iload_n 3, 1) := by decide +kernel
theorem dL_law_435 : decode cL_law 435 = .ok (.iconst 1, 1) := by decide +kernel
theorem dL_law_436 : decode cL_law 436 = .ok (.iadd, 1) := by decide +kernel
theorem dL_law_437 : decode cL_law 437 = .ok (.iaload, 1) := by decide +kernel
theorem dL_law_438 : decode cL_law 438 = .ok (.aload_n 0, 1) := by decide +kernel
theorem dL_law_439 : decode cL_law 439 = .ok (.iload_n 3, 1) := by decide +kernel
theorem dL_law_440 : decode cL_law 440 = .ok (.iconst 2, 1) := by decide +kernel
theorem dL_law_441 : decode cL_law 441 = .ok (.iadd, 1) := by decide +kernel
theorem dL_law_442 : decode cL_law 442 = .ok (.iaload, 1) := by decide +kernel
theorem dL_law_443 : decode cL_law 443 = .ok (.invokevirtual 59, 3) := by decide +kernel
theorem dL_law_446 : decode cL_law 446 = .ok (.if_icmp .eq 666, 3) := by decide +kernel
theorem dL_law_449 : decode cL_law 449 = .ok (.iconst 0, 1) := by decide +kernel
theorem dL_law_450 : decode cL_law 450 = .ok (.ireturn, 1) := by decide +kernel
theorem dL_law_451 : decode cL_law 451 = .ok (.aload_n 1, 1) := by decide +kernel
theorem dL_law_452 : decode cL_law 452 = .ok (.invokevirtual 60, 3) := by decide +kernel
theorem dL_law_455 : decode cL_law 455 = .ok (.aload_n 2, 1) := by decide +kernel
theorem dL_law_456 : decode cL_law 456 = .ok (.invokevirtual 63, 3) := by decide +kernel
theorem dL_law_459 : decode cL_law 459 = .ok (.if_icmp .eq 653, 3) := by decide +kernel
theorem dL_law_462 : decode cL_law 462 = .ok (.iconst 0, 1) := by decide +kernel
theorem dL_law_463 : decode cL_law 463 = .ok (.ireturn, 1) := by decide +kernel
theorem dL_law_464 : decode cL_law 464 = .ok (.aload_n 1, 1) := by decide +kernel
theorem dL_law_465 : decode cL_law 465 = .ok (.aload_n 0, 1) := by decide +kernel
theorem dL_law_466 : decode cL_law 466 = .ok (.iload_n 3, 1) := by decide +kernel
theorem dL_law_467 : decode cL_law 467 = .ok (.iconst 1, 1) := by decide +kernel
theorem dL_law_468 : decode cL_law 468 = .ok (.iadd, 1) := by decide +kernel
theorem dL_law_469 : decode cL_law 469 = .ok (.iaload, 1) := by decide +kernel
theorem dL_law_470 : decode cL_law 470 = .ok (.invokevirtual 64, 3) := by decide +kernel
theorem dL_law_473 : decode cL_law 473 = .ok (.aload_n 2, 1) := by decide +kernel
theorem dL_law_474 : decode cL_law 474 = .ok (.aload_n 0, 1) := by decide +kernel
theorem dL_law_475 : decode cL_law 475 = .ok (.iload_n 3, 1) := by decide +kernel
theorem dL_law_476 : decode cL_law 476 = .ok (.iconst 1, 1) := by decide +kernel
theorem dL_law_477 : decode cL_law 477 = .ok (.iadd, 1) := by decide +kernel
theorem dL_law_478 : decode cL_law 478 = .ok (.iaload, 1) := by decide +kernel
theorem dL_law_479 : decode cL_law 479 = .ok (.invokevirtual 68, 3) := by decide +kernel
theorem dL_law_482 : decode cL_law 482 = .ok (.lcmp, 1) := by decide +kernel
theorem dL_law_483 : decode cL_law 483 = .ok (.ifCond .eq 629, 3) := by decide +kernel
theorem dL_law_486 : decode cL_law 486 = .ok (.iconst 0, 1) := by decide +kernel
theorem dL_law_487 : decode cL_law 487 = .ok (.ireturn, 1) := by decide +kernel
theorem dL_law_488 : decode cL_law 488 = .ok (.aload_n 1, 1) := by decide +kernel
theorem dL_law_489 : decode cL_law 489 = .ok (.aload_n 0, 1) := by decide +kernel
theorem dL_law_490 : decode cL_law 490 = .ok (.iload_n 3, 1) := by decide +kernel
theorem dL_law_491 : decode cL_law 491 = .ok (.iconst 1, 1) := by decide +kernel
theorem dL_law_492 : decode cL_law 492 = .ok (.iadd, 1) := by decide +kernel
theorem dL_law_493 : decode cL_law 493 = .ok (.iaload, 1) := by decide +kernel
theorem dL_law_494 : decode cL_law 494 = .ok (.aload_n 0, 1) := by decide +kernel
theorem dL_law_495 : decode cL_law 495 = .ok (.iload_n 3, 1) := by decide +kernel
theorem dL_law_496 : decode cL_law 496 = .ok (.iconst 2, 1) := by decide +kernel
theorem dL_law_497 : decode cL_law 497 = .ok (.iadd, 1) := by decide +kernel
theorem dL_law_498 : decode cL_law 498 = .ok (.iaload, 1) := by decide +kernel
theorem dL_law_499 : decode cL_law 499 = .ok (.invokevirtual 69, 3) := by decide +kernel
theorem dL_law_502 : decode cL_law 502 = .ok (.aload_n 2, 1) := by decide +kernel
theorem dL_law_503 : decode cL_law 503 = .ok (.aload_n 0, 1) := by decide +kernel
theorem dL_law_504 : decode cL_law 504 = .ok (.iload_n 3, 1) := by decide +kernel
theorem dL_law_505 : decode cL_law 505 = .ok (.iconst 1, 1) := by decide +kernel
theorem dL_law_506 : decode cL_law 506 = .ok (.iadd, 1) := by decide +kernel
theorem dL_law_507 : decode cL_law 507 = .ok (.iaload, 1) := by decide +kernel
theorem dL_law_508 : decode cL_law 508 = .ok (.aload_n 0, 1) := by decide +kernel
theorem dL_law_509 : decode cL_law 509 = .ok (.iload_n 3, 1) := by decide +kernel
theorem dL_law_510 : decode cL_law 510 = .ok (.iconst 2, 1) := by decide +kernel
theorem dL_law_511 : decode cL_law 511 = .ok (.iadd, 1) := by decide +kernel
theorem dL_law_512 : decode cL_law 512 = .ok (.iaload, 1) := by decide +kernel
theorem dL_law_513 : decode cL_law 513 = .ok (.invokevirtual 72, 3) := by decide +kernel
theorem dL_law_516 : decode cL_law 516 = .ok (.if_icmp .eq 596, 3) := by decide +kernel
theorem dL_law_519 : decode cL_law 519 = .ok (.iconst 0, 1) := by decide +kernel
theorem dL_law_520 : decode cL_law 520 = .ok (.ireturn, 1) := by decide +kernel
theorem dL_law_521 : decode cL_law 521 = .ok (.aload_n 1, 1) := by decide +kernel
theorem dL_law_522 : decode cL_law 522 = .ok (.aload_n 0, 1) := by decide +kernel
theorem dL_law_523 : decode cL_law 523 = .ok (.iload_n 3, 1) := by decide +kernel
theorem dL_law_524 : decode cL_law 524 = .ok (.iconst 1, 1) := by decide +kernel
theorem dL_law_525 : decode cL_law 525 = .ok (.iadd, 1) := by decide +kernel
theorem dL_law_526 : decode cL_law 526 = .ok (.iaload, 1) := by decide +kernel
theorem dL_law_527 : decode cL_law 527 = .ok (.aload_n 0, 1) := by decide +kernel
theorem dL_law_528 : decode cL_law 528 = .ok (.iload_n 3, 1) := by decide +kernel
theorem dL_law_529 : decode cL_law 529 = .ok (.iconst 2, 1) := by decide +kernel
theorem dL_law_530 : decode cL_law 530 = .ok (.iadd, 1) := by decide +kernel
theorem dL_law_531 : decode cL_law 531 = .ok (.iaload, 1) := by decide +kernel
theorem dL_law_532 : decode cL_law 532 = .ok (.invokevirtual 73, 3) := by decide +kernel
theorem dL_law_535 : decode cL_law 535 = .ok (.aload_n 2, 1) := by decide +kernel
theorem dL_law_536 : decode cL_law 536 = .ok (.aload_n 0, 1) := by decide +kernel
theorem dL_law_537 : decode cL_law 537 = .ok (.iload_n 3, 1) := by decide +kernel
theorem dL_law_538 : decode cL_law 538 = .ok (.iconst 1, 1) := by decide +kernel
theorem dL_law_539 : decode cL_law 539 = .ok (.iadd, 1) := by decide +kernel
theorem dL_law_540 : decode cL_law 540 = .ok (.iaload, 1) := by decide +kernel
theorem dL_law_541 : decode cL_law 541 = .ok (.aload_n 0, 1) := by decide +kernel
theorem dL_law_542 : decode cL_law 542 = .ok (.iload_n 3, 1) := by decide +kernel
theorem dL_law_543 : decode cL_law 543 = .ok (.iconst 2, 1) := by decide +kernel
theorem dL_law_544 : decode cL_law 544 = .ok (.iadd, 1) := by decide +kernel
theorem dL_law_545 : decode cL_law 545 = .ok (.iaload, 1) := by decide +kernel
theorem dL_law_546 : decode cL_law 546 = .ok (.invokevirtual 76, 3) := by decide +kernel
theorem dL_law_549 : decode cL_law 549 = .ok (.if_icmp .eq 563, 3) := by decide +kernel
theorem dL_law_552 : decode cL_law 552 = .ok (.iconst 0, 1) := by decide +kernel
theorem dL_law_553 : decode cL_law 553 = .ok (.ireturn, 1) := by decide +kernel
theorem dL_law_554 : decode cL_law 554 = .ok (.aload_n 1, 1) := by decide +kernel
theorem dL_law_555 : decode cL_law 555 = .ok (.aload_n 0, 1) := by decide +kernel
theorem dL_law_556 : decode cL_law 556 = .ok (.iload_n 3, 1) := by decide +kernel
theorem dL_law_557 : decode cL_law 557 = .ok (.iconst 1, 1) := by decide +kernel
theorem dL_law_558 : decode cL_law 558 = .ok (.iadd, 1) := by decide +kernel
theorem dL_law_559 : decode cL_law 559 = .ok (.iaload, 1) := by decide +kernel
theorem dL_law_560 : decode cL_law 560 = .ok (.aload_n 0, 1) := by decide +kernel
theorem dL_law_561 : decode cL_law 561 = .ok (.iload_n 3, 1) := by decide +kernel
theorem dL_law_562 : decode cL_law 562 = .ok (.iconst 2, 1) := by decide +kernel
theorem dL_law_563 : decode cL_law 563 = .ok (.iadd, 1) := by decide +kernel
theorem dL_law_564 : decode cL_law 564 = .ok (.iaload, 1) := by decide +kernel
theorem dL_law_565 : decode cL_law 565 = .ok (.aload_n 0, 1) := by decide +kernel
theorem dL_law_566 : decode cL_law 566 = .ok (.iload_n 3, 1) := by decide +kernel
theorem dL_law_567 : decode cL_law 567 = .ok (.iconst 3, 1) := by decide +kernel
theorem dL_law_568 : decode cL_law 568 = .ok (.iadd, 1) := by decide +kernel
theorem dL_law_569 : decode cL_law 569 = .ok (.iaload, 1) := by decide +kernel
theorem dL_law_570 : decode cL_law 570 = .ok (.invokevirtual 77, 3) := by decide +kernel
theorem dL_law_573 : decode cL_law 573 = .ok (.aload_n 2, 1) := by decide +kernel
theorem dL_law_574 : decode cL_law 574 = .ok (.aload_n 0, 1) := by decide +kernel
theorem dL_law_575 : decode cL_law 575 = .ok (.iload_n 3, 1) := by decide +kernel
theorem dL_law_576 : decode cL_law 576 = .ok (.iconst 1, 1) := by decide +kernel
theorem dL_law_577 : decode cL_law 577 = .ok (.iadd, 1) := by decide +kernel
theorem dL_law_578 : decode cL_law 578 = .ok (.iaload, 1) := by decide +kernel
theorem dL_law_579 : decode cL_law 579 = .ok (.aload_n 0, 1) := by decide +kernel
theorem dL_law_580 : decode cL_law 580 = .ok (.iload_n 3, 1) := by decide +kernel
theorem dL_law_581 : decode cL_law 581 = .ok (.iconst 2, 1) := by decide +kernel
theorem dL_law_582 : decode cL_law 582 = .ok (.iadd, 1) := by decide +kernel
theorem dL_law_583 : decode cL_law 583 = .ok (.iaload, 1) := by decide +kernel
theorem dL_law_584 : decode cL_law 584 = .ok (.aload_n 0, 1) := by decide +kernel
theorem dL_law_585 : decode cL_law 585 = .ok (.iload_n 3, 1) := by decide +kernel
theorem dL_law_586 : decode cL_law 586 = .ok (.iconst 3, 1) := by decide +kernel
theorem dL_law_587 : decode cL_law 587 = .ok (.iadd, 1) := by decide +kernel
theorem dL_law_588 : decode cL_law 588 = .ok (.iaload, 1) := by decide +kernel
theorem dL_law_589 : decode cL_law 589 = .ok (.invokevirtual 81, 3) := by decide +kernel
theorem dL_law_592 : decode cL_law 592 = .ok (.if_icmp .eq 520, 3) := by decide +kernel
theorem dL_law_595 : decode cL_law 595 = .ok (.iconst 0, 1) := by decide +kernel
theorem dL_law_596 : decode cL_law 596 = .ok (.ireturn, 1) := by decide +kernel
theorem dL_law_597 : decode cL_law 597 = .ok (.aload_n 1, 1) := by decide +kernel
theorem dL_law_598 : decode cL_law 598 = .ok (.aload_n 0, 1) := by decide +kernel
theorem dL_law_599 : decode cL_law 599 = .ok (.iload_n 3, 1) := by decide +kernel
theorem dL_law_600 : decode cL_law 600 = .ok (.iconst 1, 1) := by decide +kernel
theorem dL_law_601 : decode cL_law 601 = .ok (.iadd, 1) := by decide +kernel
theorem dL_law_602 : decode cL_law 602 = .ok (.iaload, 1) := by decide +kernel
theorem dL_law_603 : decode cL_law 603 = .ok (.aload_n 0, 1) := by decide +kernel
theorem dL_law_604 : decode cL_law 604 = .ok (.iload_n 3, 1) := by decide +kernel
theorem dL_law_605 : decode cL_law 605 = .ok (.iconst 2, 1) := by decide +kernel
theorem dL_law_606 : decode cL_law 606 = .ok (.iadd, 1) := by decide +kernel
theorem dL_law_607 : decode cL_law 607 = .ok (.iaload, 1) := by decide +kernel
theorem dL_law_608 : decode cL_law 608 = .ok (.invokevirtual 82, 3) := by decide +kernel
theorem dL_law_611 : decode cL_law 611 = .ok (.aload_n 2, 1) := by decide +kernel
theorem dL_law_612 : decode cL_law 612 = .ok (.aload_n 0, 1) := by decide +kernel
theorem dL_law_613 : decode cL_law 613 = .ok (.iload_n 3, 1) := by decide +kernel
theorem dL_law_614 : decode cL_law 614 = .ok (.iconst 1, 1) := by decide +kernel
theorem dL_law_615 : decode cL_law 615 = .ok (.iadd, 1) := by decide +kernel
theorem dL_law_616 : decode cL_law 616 = .ok (.iaload, 1) := by decide +kernel
theorem dL_law_617 : decode cL_law 617 = .ok (.aload_n 0, 1) := by decide +kernel
theorem dL_law_618 : decode cL_law 618 = .ok (.iload_n 3, 1) := by decide +kernel
theorem dL_law_619 : decode cL_law 619 = .ok (.iconst 2, 1) := by decide +kernel
theorem dL_law_620 : decode cL_law 620 = .ok (.iadd, 1) := by decide +kernel
theorem dL_law_621 : decode cL_law 621 = .ok (.iaload, 1) := by decide +kernel
theorem dL_law_622 : decode cL_law 622 = .ok (.invokevirtual 85, 3) := by decide +kernel
theorem dL_law_625 : decode cL_law 625 = .ok (.if_icmp .eq 487, 3) := by decide +kernel
theorem dL_law_628 : decode cL_law 628 = .ok (.iconst 0, 1) := by decide +kernel
theorem dL_law_629 : decode cL_law 629 = .ok (.ireturn, 1) := by decide +kernel
theorem dL_law_630 : decode cL_law 630 = .ok (.aload_n 1, 1) := by decide +kernel
theorem dL_law_631 : decode cL_law 631 = .ok (.aload_n 0, 1) := by decide +kernel
theorem dL_law_632 : decode cL_law 632 = .ok (.iload_n 3, 1) := by decide +kernel
theorem dL_law_633 : decode cL_law 633 = .ok (.iconst 1, 1) := by decide +kernel
theorem dL_law_634 : decode cL_law 634 = .ok (.iadd, 1) := by decide +kernel
theorem dL_law_635 : decode cL_law 635 = .ok (.iaload, 1) := by decide +kernel
theorem dL_law_636 : decode cL_law 636 = .ok (.aload_n 0, 1) := by decide +kernel
theorem dL_law_637 : decode cL_law 637 = .ok (.iload_n 3, 1) := by decide +kernel
theorem dL_law_638 : decode cL_law 638 = .ok (.iconst 2, 1) := by decide +kernel
theorem dL_law_639 : decode cL_law 639 = .ok (.iadd, 1) := by decide +kernel
theorem dL_law_640 : decode cL_law 640 = .ok (.iaload, 1) := by decide +kernel
theorem dL_law_641 : decode cL_law 641 = .ok (.aload_n 0, 1) := by decide +kernel
theorem dL_law_642 : decode cL_law 642 = .ok (.iload_n 3, 1) := by decide +kernel
theorem dL_law_643 : decode cL_law 643 = .ok (.iconst 3, 1) := by decide +kernel
theorem dL_law_644 : decode cL_law 644 = .ok (.iadd, 1) := by decide +kernel
theorem dL_law_645 : decode cL_law 645 = .ok (.iaload, 1) := by decide +kernel
theorem dL_law_646 : decode cL_law 646 = .ok (.invokevirtual 86, 3) := by decide +kernel
theorem dL_law_649 : decode cL_law 649 = .ok (.aload_n 2, 1) := by decide +kernel
theorem dL_law_650 : decode cL_law 650 = .ok (.aload_n 0, 1) := by decide +kernel
theorem dL_law_651 : decode cL_law 651 = .ok (.iload_n 3, 1) := by decide +kernel
theorem dL_law_652 : decode cL_law 652 = .ok (.iconst 1, 1) := by decide +kernel
theorem dL_law_653 : decode cL_law 653 = .ok (.iadd, 1) := by decide +kernel
theorem dL_law_654 : decode cL_law 654 = .ok (.iaload, 1) := by decide +kernel
theorem dL_law_655 : decode cL_law 655 = .ok (.aload_n 0, 1) := by decide +kernel
theorem dL_law_656 : decode cL_law 656 = .ok (.iload_n 3, 1) := by decide +kernel
theorem dL_law_657 : decode cL_law 657 = .ok (.iconst 2, 1) := by decide +kernel
theorem dL_law_658 : decode cL_law 658 = .ok (.iadd, 1) := by decide +kernel
theorem dL_law_659 : decode cL_law 659 = .ok (.iaload, 1) := by decide +kernel
theorem dL_law_660 : decode cL_law 660 = .ok (.aload_n 0, 1) := by decide +kernel
theorem dL_law_661 : decode cL_law 661 = .ok (.iload_n 3, 1) := by decide +kernel
theorem dL_law_662 : decode cL_law 662 = .ok (.iconst 3, 1) := by decide +kernel
theorem dL_law_663 : decode cL_law 663 = .ok (.iadd, 1) := by decide +kernel
theorem dL_law_664 : decode cL_law 664 = .ok (.iaload, 1) := by decide +kernel
theorem dL_law_665 : decode cL_law 665 = .ok (.invokevirtual 89, 3) := by decide +kernel
theorem dL_law_668 : decode cL_law 668 = .ok (.if_icmp .eq 444, 3) := by decide +kernel
theorem dL_law_671 : decode cL_law 671 = .ok (.iconst 0, 1) := by decide +kernel
theorem dL_law_672 : decode cL_law 672 = .ok (.ireturn, 1) := by decide +kernel
theorem dL_law_673 : decode cL_law 673 = .ok (.aload_n 1, 1) := by decide +kernel
theorem dL_law_674 : decode cL_law 674 = .ok (.aload_n 0, 1) := by decide +kernel
theorem dL_law_675 : decode cL_law 675 = .ok (.iload_n 3, 1) := by decide +kernel
theorem dL_law_676 : decode cL_law 676 = .ok (.iconst 1, 1) := by decide +kernel
theorem dL_law_677 : decode cL_law 677 = .ok (.iadd, 1) := by decide +kernel
theorem dL_law_678 : decode cL_law 678 = .ok (.iaload, 1) := by decide +kernel
theorem dL_law_679 : decode cL_law 679 = .ok (.aload_n 0, 1) := by decide +kernel
theorem dL_law_680 : decode cL_law 680 = .ok (.iload_n 3, 1) := by decide +kernel
theorem dL_law_681 : decode cL_law 681 = .ok (.iconst 2, 1) := by decide +kernel
theorem dL_law_682 : decode cL_law 682 = .ok (.iadd, 1) := by decide +kernel
theorem dL_law_683 : decode cL_law 683 = .ok (.iaload, 1) := by decide +kernel
theorem dL_law_684 : decode cL_law 684 = .ok (.i2l, 1) := by decide +kernel
theorem dL_law_685 : decode cL_law 685 = .ok (.bipush 32, 2) := by decide +kernel
theorem dL_law_687 : decode cL_law 687 = .ok (.lshl, 1) := by decide +kernel
theorem dL_law_688 : decode cL_law 688 = .ok (.aload_n 0, 1) := by decide +kernel
theorem dL_law_689 : decode cL_law 689 = .ok (.iload_n 3, 1) := by decide +kernel
theorem dL_law_690 : decode cL_law 690 = .ok (.iconst 3, 1) := by decide +kernel
theorem dL_law_691 : decode cL_law 691 = .ok (.iadd, 1) := by decide +kernel
theorem dL_law_692 : decode cL_law 692 = .ok (.iaload, 1) := by decide +kernel
theorem dL_law_693 : decode cL_law 693 = .ok (.i2l, 1) := by decide +kernel
theorem dL_law_694 : decode cL_law 694 = .ok (.ldc2_w 90, 3) := by decide +kernel
theorem dL_law_697 : decode cL_law 697 = .ok (.land, 1) := by decide +kernel
theorem dL_law_698 : decode cL_law 698 = .ok (.lor, 1) := by decide +kernel
theorem dL_law_699 : decode cL_law 699 = .ok (.invokevirtual 92, 3) := by decide +kernel
theorem dL_law_702 : decode cL_law 702 = .ok (.aload_n 2, 1) := by decide +kernel
theorem dL_law_703 : decode cL_law 703 = .ok (.aload_n 0, 1) := by decide +kernel
theorem dL_law_704 : decode cL_law 704 = .ok (.iload_n 3, 1) := by decide +kernel
theorem dL_law_705 : decode cL_law 705 = .ok (.iconst 1, 1) := by decide +kernel
theorem dL_law_706 : decode cL_law 706 = .ok (.iadd, 1) := by decide +kernel
theorem dL_law_707 : decode cL_law 707 = .ok (.iaload, 1) := by decide +kernel
theorem dL_law_708 : decode cL_law 708 = .ok (.aload_n 0, 1) := by decide +kernel
theorem dL_law_709 : decode cL_law 709 = .ok (.iload_n 3, 1) := by decide +kernel
theorem dL_law_710 : decode cL_law 710 = .ok (.iconst 2, 1) := by decide +kernel
theorem dL_law_711 : decode cL_law 711 = .ok (.iadd, 1) := by decide +kernel
theorem dL_law_712 : decode cL_law 712 = .ok (.iaload, 1) := by decide +kernel
theorem dL_law_713 : decode cL_law 713 = .ok (.i2l, 1) := by decide +kernel
theorem dL_law_714 : decode cL_law 714 = .ok (.bipush 32, 2) := by decide +kernel
theorem dL_law_716 : decode cL_law 716 = .ok (.lshl, 1) := by decide +kernel
theorem dL_law_717 : decode cL_law 717 = .ok (.aload_n 0, 1) := by decide +kernel
theorem dL_law_718 : decode cL_law 718 = .ok (.iload_n 3, 1) := by decide +kernel
theorem dL_law_719 : decode cL_law 719 = .ok (.iconst 3, 1) := by decide +kernel
theorem dL_law_720 : decode cL_law 720 = .ok (.iadd, 1) := by decide +kernel
theorem dL_law_721 : decode cL_law 721 = .ok (.iaload, 1) := by decide +kernel
theorem dL_law_722 : decode cL_law 722 = .ok (.i2l, 1) := by decide +kernel
theorem dL_law_723 : decode cL_law 723 = .ok (.ldc2_w 90, 3) := by decide +kernel
theorem dL_law_726 : decode cL_law 726 = .ok (.land, 1) := by decide +kernel
theorem dL_law_727 : decode cL_law 727 = .ok (.lor, 1) := by decide +kernel
theorem dL_law_728 : decode cL_law 728 = .ok (.invokevirtual 96, 3) := by decide +kernel
theorem dL_law_731 : decode cL_law 731 = .ok (.if_icmp .eq 381, 3) := by decide +kernel
theorem dL_law_734 : decode cL_law 734 = .ok (.iconst 0, 1) := by decide +kernel
theorem dL_law_735 : decode cL_law 735 = .ok (.ireturn, 1) := by decide +kernel
theorem dL_law_736 : decode cL_law 736 = .ok (.aload_n 1, 1) := by decide +kernel
theorem dL_law_737 : decode cL_law 737 = .ok (.aload_n 0, 1) := by decide +kernel
theorem dL_law_738 : decode cL_law 738 = .ok (.iload_n 3, 1) := by decide +kernel
theorem dL_law_739 : decode cL_law 739 = .ok (.iconst 1, 1) := by decide +kernel
theorem dL_law_740 : decode cL_law 740 = .ok (.iadd, 1) := by decide +kernel
theorem dL_law_741 : decode cL_law 741 = .ok (.iaload, 1) := by decide +kernel
theorem dL_law_742 : decode cL_law 742 = .ok (.aload_n 0, 1) := by decide +kernel
theorem dL_law_743 : decode cL_law 743 = .ok (.iload_n 3, 1) := by decide +kernel
theorem dL_law_744 : decode cL_law 744 = .ok (.iconst 2, 1) := by decide +kernel
theorem dL_law_745 : decode cL_law 745 = .ok (.iadd, 1) := by decide +kernel
theorem dL_law_746 : decode cL_law 746 = .ok (.iaload, 1) := by decide +kernel
theorem dL_law_747 : decode cL_law 747 = .ok (.invokevirtual 97, 3) := by decide +kernel
theorem dL_law_750 : decode cL_law 750 = .ok (.aload_n 2, 1) := by decide +kernel
theorem dL_law_751 : decode cL_law 751 = .ok (.aload_n 0, 1) := by decide +kernel
theorem dL_law_752 : decode cL_law 752 = .ok (.iload_n 3, 1) := by decide +kernel
theorem dL_law_753 : decode cL_law 753 = .ok (.iconst 1, 1) := by decide +kernel
theorem dL_law_754 : decode cL_law 754 = .ok (.iadd, 1) := by decide +kernel
theorem dL_law_755 : decode cL_law 755 = .ok (.iaload, 1) := by decide +kernel
theorem dL_law_756 : decode cL_law 756 = .ok (.aload_n 0, 1) := by decide +kernel
theorem dL_law_757 : decode cL_law 757 = .ok (.iload_n 3, 1) := by decide +kernel
theorem dL_law_758 : decode cL_law 758 = .ok (.iconst 2, 1) := by decide +kernel
theorem dL_law_759 : decode cL_law 759 = .ok (.iadd, 1) := by decide +kernel
theorem dL_law_760 : decode cL_law 760 = .ok (.iaload, 1) := by decide +kernel
theorem dL_law_761 : decode cL_law 761 = .ok (.invokevirtual 100, 3) := by decide +kernel
theorem dL_law_764 : decode cL_law 764 = .ok (.if_icmp .eq 348, 3) := by decide +kernel
theorem dL_law_767 : decode cL_law 767 = .ok (.iconst 0, 1) := by decide +kernel
theorem dL_law_768 : decode cL_law 768 = .ok (.ireturn, 1) := by decide +kernel
theorem dL_law_769 : decode cL_law 769 = .ok (.aload_n 1, 1) := by decide +kernel
theorem dL_law_770 : decode cL_law 770 = .ok (.invokevirtual 101, 3) := by decide +kernel
theorem dL_law_773 : decode cL_law 773 = .ok (.aload_n 2, 1) := by decide +kernel
theorem dL_law_774 : decode cL_law 774 = .ok (.invokevirtual 104, 3) := by decide +kernel
theorem dL_law_777 : decode cL_law 777 = .ok (.if_icmp .eq 335, 3) := by decide +kernel
theorem dL_law_780 : decode cL_law 780 = .ok (.iconst 0, 1) := by decide +kernel
theorem dL_law_781 : decode cL_law 781 = .ok (.ireturn, 1) := by decide +kernel
theorem dL_law_782 : decode cL_law 782 = .ok (.aload_n 1, 1) := by decide +kernel
theorem dL_law_783 : decode cL_law 783 = .ok (.aload_n 0, 1) := by decide +kernel
theorem dL_law_784 : decode cL_law 784 = .ok (.iload_n 3, 1) := by decide +kernel
theorem dL_law_785 : decode cL_law 785 = .ok (.iconst 1, 1) := by decide +kernel
theorem dL_law_786 : decode cL_law 786 = .ok (.iadd, 1) := by decide +kernel
theorem dL_law_787 : decode cL_law 787 = .ok (.iaload, 1) := by decide +kernel
theorem dL_law_788 : decode cL_law 788 = .ok (.invokevirtual 105, 3) := by decide +kernel
theorem dL_law_791 : decode cL_law 791 = .ok (.aload_n 2, 1) := by decide +kernel
theorem dL_law_792 : decode cL_law 792 = .ok (.aload_n 0, 1) := by decide +kernel
theorem dL_law_793 : decode cL_law 793 = .ok (.iload_n 3, 1) := by decide +kernel
theorem dL_law_794 : decode cL_law 794 = .ok (.iconst 1, 1) := by decide +kernel
theorem dL_law_795 : decode cL_law 795 = .ok (.iadd, 1) := by decide +kernel
theorem dL_law_796 : decode cL_law 796 = .ok (.iaload, 1) := by decide +kernel
theorem dL_law_797 : decode cL_law 797 = .ok (.invokevirtual 108, 3) := by decide +kernel
theorem dL_law_800 : decode cL_law 800 = .ok (.if_icmp .eq 312, 3) := by decide +kernel
theorem dL_law_803 : decode cL_law 803 = .ok (.iconst 0, 1) := by decide +kernel
theorem dL_law_804 : decode cL_law 804 = .ok (.ireturn, 1) := by decide +kernel
theorem dL_law_805 : decode cL_law 805 = .ok (.aload_n 1, 1) := by decide +kernel
theorem dL_law_806 : decode cL_law 806 = .ok (.aload_n 0, 1) := by decide +kernel
theorem dL_law_807 : decode cL_law 807 = .ok (.iload_n 3, 1) := by decide +kernel
theorem dL_law_808 : decode cL_law 808 = .ok (.iconst 1, 1) := by decide +kernel
theorem dL_law_809 : decode cL_law 809 = .ok (.iadd, 1) := by decide +kernel
theorem dL_law_810 : decode cL_law 810 = .ok (.iaload, 1) := by decide +kernel
theorem dL_law_811 : decode cL_law 811 = .ok (.aload_n 0, 1) := by decide +kernel
theorem dL_law_812 : decode cL_law 812 = .ok (.iload_n 3, 1) := by decide +kernel
theorem dL_law_813 : decode cL_law 813 = .ok (.iconst 2, 1) := by decide +kernel
theorem dL_law_814 : decode cL_law 814 = .ok (.iadd, 1) := by decide +kernel
theorem dL_law_815 : decode cL_law 815 = .ok (.iaload, 1) := by decide +kernel
theorem dL_law_816 : decode cL_law 816 = .ok (.ifCond .eq 7, 3) := by decide +kernel
theorem dL_law_819 : decode cL_law 819 = .ok (.iconst 1, 1) := by decide +kernel
theorem dL_law_820 : decode cL_law 820 = .ok (.goto 4, 3) := by decide +kernel
theorem dL_law_823 : decode cL_law 823 = .ok (.iconst 0, 1) := by decide +kernel
theorem dL_law_824 : decode cL_law 824 = .ok (.invokevirtual 109, 3) := by decide +kernel
theorem dL_law_827 : decode cL_law 827 = .ok (.aload_n 2, 1) := by decide +kernel
theorem dL_law_828 : decode cL_law 828 = .ok (.aload_n 0, 1) := by decide +kernel
theorem dL_law_829 : decode cL_law 829 = .ok (.iload_n 3, 1) := by decide +kernel
theorem dL_law_830 : decode cL_law 830 = .ok (.iconst 1, 1) := by decide +kernel
theorem dL_law_831 : decode cL_law 831 = .ok (.iadd, 1) := by decide +kernel
theorem dL_law_832 : decode cL_law 832 = .ok (.iaload, 1) := by decide +kernel
theorem dL_law_833 : decode cL_law 833 = .ok (.aload_n 0, 1) := by decide +kernel
theorem dL_law_834 : decode cL_law 834 = .ok (.iload_n 3, 1) := by decide +kernel
theorem dL_law_835 : decode cL_law 835 = .ok (.iconst 2, 1) := by decide +kernel
theorem dL_law_836 : decode cL_law 836 = .ok (.iadd, 1) := by decide +kernel
theorem dL_law_837 : decode cL_law 837 = .ok (.iaload, 1) := by decide +kernel
theorem dL_law_838 : decode cL_law 838 = .ok (.ifCond .eq 7, 3) := by decide +kernel
theorem dL_law_841 : decode cL_law 841 = .ok (.iconst 1, 1) := by decide +kernel
theorem dL_law_842 : decode cL_law 842 = .ok (.goto 4, 3) := by decide +kernel
theorem dL_law_845 : decode cL_law 845 = .ok (.iconst 0, 1) := by decide +kernel
theorem dL_law_846 : decode cL_law 846 = .ok (.invokevirtual 113, 3) := by decide +kernel
theorem dL_law_849 : decode cL_law 849 = .ok (.if_icmp .eq 263, 3) := by decide +kernel
theorem dL_law_852 : decode cL_law 852 = .ok (.iconst 0, 1) := by decide +kernel
theorem dL_law_853 : decode cL_law 853 = .ok (.ireturn, 1) := by decide +kernel
theorem dL_law_854 : decode cL_law 854 = .ok (.aload_n 1, 1) := by decide +kernel
theorem dL_law_855 : decode cL_law 855 = .ok (.aload_n 0, 1) := by decide +kernel
theorem dL_law_856 : decode cL_law 856 = .ok (.iload_n 3, 1) := by decide +kernel
theorem dL_law_857 : decode cL_law 857 = .ok (.iconst 1, 1) := by decide +kernel
theorem dL_law_858 : decode cL_law 858 = .ok (.iadd, 1) := by decide +kernel
theorem dL_law_859 : decode cL_law 859 = .ok (.iaload, 1) := by decide +kernel
theorem dL_law_860 : decode cL_law 860 = .ok (.aload_n 0, 1) := by decide +kernel
theorem dL_law_861 : decode cL_law 861 = .ok (.iload_n 3, 1) := by decide +kernel
theorem dL_law_862 : decode cL_law 862 = .ok (.iconst 2, 1) := by decide +kernel
theorem dL_law_863 : decode cL_law 863 = .ok (.iadd, 1) := by decide +kernel
theorem dL_law_864 : decode cL_law 864 = .ok (.iaload, 1) := by decide +kernel
theorem dL_law_865 : decode cL_law 865 = .ok (.aload_n 0, 1) := by decide +kernel
theorem dL_law_866 : decode cL_law 866 = .ok (.iload_n 3, 1) := by decide +kernel
theorem dL_law_867 : decode cL_law 867 = .ok (.iconst 3, 1) := by decide +kernel
theorem dL_law_868 : decode cL_law 868 = .ok (.iadd, 1) := by decide +kernel
theorem dL_law_869 : decode cL_law 869 = .ok (.iaload, 1) := by decide +kernel
theorem dL_law_870 : decode cL_law 870 = .ok (.invokevirtual 114, 3) := by decide +kernel
theorem dL_law_873 : decode cL_law 873 = .ok (.aload_n 2, 1) := by decide +kernel
theorem dL_law_874 : decode cL_law 874 = .ok (.aload_n 0, 1) := by decide +kernel
theorem dL_law_875 : decode cL_law 875 = .ok (.iload_n 3, 1) := by decide +kernel
theorem dL_law_876 : decode cL_law 876 = .ok (.iconst 1, 1) := by decide +kernel
theorem dL_law_877 : decode cL_law 877 = .ok (.iadd, 1) := by decide +kernel
theorem dL_law_878 : decode cL_law 878 = .ok (.iaload, 1) := by decide +kernel
theorem dL_law_879 : decode cL_law 879 = .ok (.aload_n 0, 1) := by decide +kernel
theorem dL_law_880 : decode cL_law 880 = .ok (.iload_n 3, 1) := by decide +kernel
theorem dL_law_881 : decode cL_law 881 = .ok (.iconst 2, 1) := by decide +kernel
theorem dL_law_882 : decode cL_law 882 = .ok (.iadd, 1) := by decide +kernel
theorem dL_law_883 : decode cL_law 883 = .ok (.iaload, 1) := by decide +kernel
theorem dL_law_884 : decode cL_law 884 = .ok (.aload_n 0, 1) := by decide +kernel
theorem dL_law_885 : decode cL_law 885 = .ok (.iload_n 3, 1) := by decide +kernel
theorem dL_law_886 : decode cL_law 886 = .ok (.iconst 3, 1) := by decide +kernel
theorem dL_law_887 : decode cL_law 887 = .ok (.iadd, 1) := by decide +kernel
theorem dL_law_888 : decode cL_law 888 = .ok (.iaload, 1) := by decide +kernel
theorem dL_law_889 : decode cL_law 889 = .ok (.invokevirtual 117, 3) := by decide +kernel
theorem dL_law_892 : decode cL_law 892 = .ok (.if_icmp .eq 220, 3) := by decide +kernel
theorem dL_law_895 : decode cL_law 895 = .ok (.iconst 0, 1) := by decide +kernel
theorem dL_law_896 : decode cL_law 896 = .ok (.ireturn, 1) := by decide +kernel
theorem dL_law_897 : decode cL_law 897 = .ok (.aload_n 1, 1) := by decide +kernel
theorem dL_law_898 : decode cL_law 898 = .ok (.aload_n 0, 1) := by decide +kernel
theorem dL_law_899 : decode cL_law 899 = .ok (.iload_n 3, 1) := by decide +kernel
theorem dL_law_900 : decode cL_law 900 = .ok (.iconst 1, 1) := by decide +kernel
theorem dL_law_901 : decode cL_law 901 = .ok (.iadd, 1) := by decide +kernel
theorem dL_law_902 : decode cL_law 902 = .ok (.iaload, 1) := by decide +kernel
theorem dL_law_903 : decode cL_law 903 = .ok (.aload_n 0, 1) := by decide +kernel
theorem dL_law_904 : decode cL_law 904 = .ok (.iload_n 3, 1) := by decide +kernel
theorem dL_law_905 : decode cL_law 905 = .ok (.iconst 2, 1) := by decide +kernel
theorem dL_law_906 : decode cL_law 906 = .ok (.iadd, 1) := by decide +kernel
theorem dL_law_907 : decode cL_law 907 = .ok (.iaload, 1) := by decide +kernel
theorem dL_law_908 : decode cL_law 908 = .ok (.aload_n 0, 1) := by decide +kernel
theorem dL_law_909 : decode cL_law 909 = .ok (.iload_n 3, 1) := by decide +kernel
theorem dL_law_910 : decode cL_law 910 = .ok (.iconst 3, 1) := by decide +kernel
theorem dL_law_911 : decode cL_law 911 = .ok (.iadd, 1) := by decide +kernel
theorem dL_law_912 : decode cL_law 912 = .ok (.iaload, 1) := by decide +kernel
theorem dL_law_913 : decode cL_law 913 = .ok (.aload_n 0, 1) := by decide +kernel
theorem dL_law_914 : decode cL_law 914 = .ok (.iload_n 3, 1) := by decide +kernel
theorem dL_law_915 : decode cL_law 915 = .ok (.iconst 4, 1) := by decide +kernel
theorem dL_law_916 : decode cL_law 916 = .ok (.iadd, 1) := by decide +kernel
theorem dL_law_917 : decode cL_law 917 = .ok (.iaload, 1) := by decide +kernel
theorem dL_law_918 : decode cL_law 918 = .ok (.ifCond .eq 7, 3) := by decide +kernel
theorem dL_law_921 : decode cL_law 921 = .ok (.iconst 1, 1) := by decide +kernel
theorem dL_law_922 : decode cL_law 922 = .ok (.goto 4, 3) := by decide +kernel
theorem dL_law_925 : decode cL_law 925 = .ok (.iconst 0, 1) := by decide +kernel
theorem dL_law_926 : decode cL_law 926 = .ok (.invokevirtual 118, 3) := by decide +kernel
theorem dL_law_929 : decode cL_law 929 = .ok (.aload_n 2, 1) := by decide +kernel
theorem dL_law_930 : decode cL_law 930 = .ok (.aload_n 0, 1) := by decide +kernel
theorem dL_law_931 : decode cL_law 931 = .ok (.iload_n 3, 1) := by decide +kernel
theorem dL_law_932 : decode cL_law 932 = .ok (.iconst 1, 1) := by decide +kernel
theorem dL_law_933 : decode cL_law 933 = .ok (.iadd, 1) := by decide +kernel
theorem dL_law_934 : decode cL_law 934 = .ok (.iaload, 1) := by decide +kernel
theorem dL_law_935 : decode cL_law 935 = .ok (.aload_n 0, 1) := by decide +kernel
theorem dL_law_936 : decode cL_law 936 = .ok (.iload_n 3, 1) := by decide +kernel
theorem dL_law_937 : decode cL_law 937 = .ok (.iconst 2, 1) := by decide +kernel
theorem dL_law_938 : decode cL_law 938 = .ok (.iadd, 1) := by decide +kernel
theorem dL_law_939 : decode cL_law 939 = .ok (.iaload, 1) := by decide +kernel
theorem dL_law_940 : decode cL_law 940 = .ok (.aload_n 0, 1) := by decide +kernel
theorem dL_law_941 : decode cL_law 941 = .ok (.iload_n 3, 1) := by decide +kernel
theorem dL_law_942 : decode cL_law 942 = .ok (.iconst 3, 1) := by decide +kernel
theorem dL_law_943 : decode cL_law 943 = .ok (.iadd, 1) := by decide +kernel
theorem dL_law_944 : decode cL_law 944 = .ok (.iaload, 1) := by decide +kernel
theorem dL_law_945 : decode cL_law 945 = .ok (.aload_n 0, 1) := by decide +kernel
theorem dL_law_946 : decode cL_law 946 = .ok (.iload_n 3, 1) := by decide +kernel
theorem dL_law_947 : decode cL_law 947 = .ok (.iconst 4, 1) := by decide +kernel
theorem dL_law_948 : decode cL_law 948 = .ok (.iadd, 1) := by decide +kernel
theorem dL_law_949 : decode cL_law 949 = .ok (.iaload, 1) := by decide +kernel
theorem dL_law_950 : decode cL_law 950 = .ok (.ifCond .eq 7, 3) := by decide +kernel
theorem dL_law_953 : decode cL_law 953 = .ok (.iconst 1, 1) := by decide +kernel
theorem dL_law_954 : decode cL_law 954 = .ok (.goto 4, 3) := by decide +kernel
theorem dL_law_957 : decode cL_law 957 = .ok (.iconst 0, 1) := by decide +kernel
theorem dL_law_958 : decode cL_law 958 = .ok (.invokevirtual 122, 3) := by decide +kernel
theorem dL_law_961 : decode cL_law 961 = .ok (.if_icmp .eq 151, 3) := by decide +kernel
theorem dL_law_964 : decode cL_law 964 = .ok (.iconst 0, 1) := by decide +kernel
theorem dL_law_965 : decode cL_law 965 = .ok (.ireturn, 1) := by decide +kernel
theorem dL_law_966 : decode cL_law 966 = .ok (.aload_n 1, 1) := by decide +kernel
theorem dL_law_967 : decode cL_law 967 = .ok (.aload_n 0, 1) := by decide +kernel
theorem dL_law_968 : decode cL_law 968 = .ok (.iload_n 3, 1) := by decide +kernel
theorem dL_law_969 : decode cL_law 969 = .ok (.iconst 1, 1) := by decide +kernel
theorem dL_law_970 : decode cL_law 970 = .ok (.iadd, 1) := by decide +kernel
theorem dL_law_971 : decode cL_law 971 = .ok (.iaload, 1) := by decide +kernel
theorem dL_law_972 : decode cL_law 972 = .ok (.i2l, 1) := by decide +kernel
theorem dL_law_973 : decode cL_law 973 = .ok (.bipush 32, 2) := by decide +kernel
theorem dL_law_975 : decode cL_law 975 = .ok (.lshl, 1) := by decide +kernel
theorem dL_law_976 : decode cL_law 976 = .ok (.aload_n 0, 1) := by decide +kernel
theorem dL_law_977 : decode cL_law 977 = .ok (.iload_n 3, 1) := by decide +kernel
theorem dL_law_978 : decode cL_law 978 = .ok (.iconst 2, 1) := by decide +kernel
theorem dL_law_979 : decode cL_law 979 = .ok (.iadd, 1) := by decide +kernel
theorem dL_law_980 : decode cL_law 980 = .ok (.iaload, 1) := by decide +kernel
theorem dL_law_981 : decode cL_law 981 = .ok (.i2l, 1) := by decide +kernel
theorem dL_law_982 : decode cL_law 982 = .ok (.ldc2_w 90, 3) := by decide +kernel
theorem dL_law_985 : decode cL_law 985 = .ok (.land, 1) := by decide +kernel
theorem dL_law_986 : decode cL_law 986 = .ok (.lor, 1) := by decide +kernel
theorem dL_law_987 : decode cL_law 987 = .ok (.invokevirtual 123, 3) := by decide +kernel
theorem dL_law_990 : decode cL_law 990 = .ok (.aload_n 2, 1) := by decide +kernel
theorem dL_law_991 : decode cL_law 991 = .ok (.aload_n 0, 1) := by decide +kernel
theorem dL_law_992 : decode cL_law 992 = .ok (.iload_n 3, 1) := by decide +kernel
theorem dL_law_993 : decode cL_law 993 = .ok (.iconst 1, 1) := by decide +kernel
theorem dL_law_994 : decode cL_law 994 = .ok (.iadd, 1) := by decide +kernel
theorem dL_law_995 : decode cL_law 995 = .ok (.iaload, 1) := by decide +kernel
theorem dL_law_996 : decode cL_law 996 = .ok (.i2l, 1) := by decide +kernel
theorem dL_law_997 : decode cL_law 997 = .ok (.bipush 32, 2) := by decide +kernel
theorem dL_law_999 : decode cL_law 999 = .ok (.lshl, 1) := by decide +kernel
theorem dL_law_1000 : decode cL_law 1000 = .ok (.aload_n 0, 1) := by decide +kernel
theorem dL_law_1001 : decode cL_law 1001 = .ok (.iload_n 3, 1) := by decide +kernel
theorem dL_law_1002 : decode cL_law 1002 = .ok (.iconst 2, 1) := by decide +kernel
theorem dL_law_1003 : decode cL_law 1003 = .ok (.iadd, 1) := by decide +kernel
theorem dL_law_1004 : decode cL_law 1004 = .ok (.iaload, 1) := by decide +kernel
theorem dL_law_1005 : decode cL_law 1005 = .ok (.i2l, 1) := by decide +kernel
theorem dL_law_1006 : decode cL_law 1006 = .ok (.ldc2_w 90, 3) := by decide +kernel
theorem dL_law_1009 : decode cL_law 1009 = .ok (.land, 1) := by decide +kernel
theorem dL_law_1010 : decode cL_law 1010 = .ok (.lor, 1) := by decide +kernel
theorem dL_law_1011 : decode cL_law 1011 = .ok (.invokevirtual 127, 3) := by decide +kernel
theorem dL_law_1014 : decode cL_law 1014 = .ok (.lcmp, 1) := by decide +kernel
theorem dL_law_1015 : decode cL_law 1015 = .ok (.ifCond .eq 97, 3) := by decide +kernel
theorem dL_law_1018 : decode cL_law 1018 = .ok (.iconst 0, 1) := by decide +kernel
theorem dL_law_1019 : decode cL_law 1019 = .ok (.ireturn, 1) := by decide +kernel
theorem dL_law_1020 : decode cL_law 1020 = .ok (.aload_n 1, 1) := by decide +kernel
theorem dL_law_1021 : decode cL_law 1021 = .ok (.aload_n 0, 1) := by decide +kernel
theorem dL_law_1022 : decode cL_law 1022 = .ok (.iload_n 3, 1) := by decide +kernel
theorem dL_law_1023 : decode cL_law 1023 = .ok (.iconst 1, 1) := by decide +kernel
theorem dL_law_1024 : decode cL_law 1024 = .ok (.iadd, 1) := by decide +kernel
theorem dL_law_1025 : decode cL_law 1025 = .ok (.iaload, 1) := by decide +kernel
theorem dL_law_1026 : decode cL_law 1026 = .ok (.invokevirtual 128, 3) := by decide +kernel
theorem dL_law_1029 : decode cL_law 1029 = .ok (.aload_n 2, 1) := by decide +kernel
theorem dL_law_1030 : decode cL_law 1030 = .ok (.aload_n 0, 1) := by decide +kernel
theorem dL_law_1031 : decode cL_law 1031 = .ok (.iload_n 3, 1) := by decide +kernel
theorem dL_law_1032 : decode cL_law 1032 = .ok (.iconst 1, 1) := by decide +kernel
theorem dL_law_1033 : decode cL_law 1033 = .ok (.iadd, 1) := by decide +kernel
theorem dL_law_1034 : decode cL_law 1034 = .ok (.iaload, 1) := by decide +kernel
theorem dL_law_1035 : decode cL_law 1035 = .ok (.invokevirtual 131, 3) := by decide +kernel
theorem dL_law_1038 : decode cL_law 1038 = .ok (.if_icmp .eq 74, 3) := by decide +kernel
theorem dL_law_1041 : decode cL_law 1041 = .ok (.iconst 0, 1) := by decide +kernel
theorem dL_law_1042 : decode cL_law 1042 = .ok (.ireturn, 1) := by decide +kernel
theorem dL_law_1043 : decode cL_law 1043 = .ok (.aload_n 1, 1) := by decide +kernel
theorem dL_law_1044 : decode cL_law 1044 = .ok (.aload_n 0, 1) := by decide +kernel
theorem dL_law_1045 : decode cL_law 1045 = .ok (.iload_n 3, 1) := by decide +kernel
theorem dL_law_1046 : decode cL_law 1046 = .ok (.iconst 1, 1) := by decide +kernel
theorem dL_law_1047 : decode cL_law 1047 = .ok (.iadd, 1) := by decide +kernel
theorem dL_law_1048 : decode cL_law 1048 = .ok (.iaload, 1) := by decide +kernel
theorem dL_law_1049 : decode cL_law 1049 = .ok (.invokevirtual 132, 3) := by decide +kernel
theorem dL_law_1052 : decode cL_law 1052 = .ok (.aload_n 2, 1) := by decide +kernel
theorem dL_law_1053 : decode cL_law 1053 = .ok (.aload_n 0, 1) := by decide +kernel
theorem dL_law_1054 : decode cL_law 1054 = .ok (.iload_n 3, 1) := by decide +kernel
theorem dL_law_1055 : decode cL_law 1055 = .ok (.iconst 1, 1) := by decide +kernel
theorem dL_law_1056 : decode cL_law 1056 = .ok (.iadd, 1) := by decide +kernel
theorem dL_law_1057 : decode cL_law 1057 = .ok (.iaload, 1) := by decide +kernel
theorem dL_law_1058 : decode cL_law 1058 = .ok (.invokevirtual 135, 3) := by decide +kernel
theorem dL_law_1061 : decode cL_law 1061 = .ok (.if_icmp .eq 51, 3) := by decide +kernel
theorem dL_law_1064 : decode cL_law 1064 = .ok (.iconst 0, 1) := by decide +kernel
theorem dL_law_1065 : decode cL_law 1065 = .ok (.ireturn, 1) := by decide +kernel
theorem dL_law_1066 : decode cL_law 1066 = .ok (.aload_n 1, 1) := by decide +kernel
theorem dL_law_1067 : decode cL_law 1067 = .ok (.aload_n 0, 1) := by decide +kernel
theorem dL_law_1068 : decode cL_law 1068 = .ok (.iload_n 3, 1) := by decide +kernel
theorem dL_law_1069 : decode cL_law 1069 = .ok (.iconst 1, 1) := by decide +kernel
theorem dL_law_1070 : decode cL_law 1070 = .ok (.iadd, 1) := by decide +kernel
theorem dL_law_1071 : decode cL_law 1071 = .ok (.iaload, 1) := by decide +kernel
theorem dL_law_1072 : decode cL_law 1072 = .ok (.invokevirtual 136, 3) := by decide +kernel
theorem dL_law_1075 : decode cL_law 1075 = .ok (.aload_n 2, 1) := by decide +kernel
theorem dL_law_1076 : decode cL_law 1076 = .ok (.aload_n 0, 1) := by decide +kernel
theorem dL_law_1077 : decode cL_law 1077 = .ok (.iload_n 3, 1) := by decide +kernel
theorem dL_law_1078 : decode cL_law 1078 = .ok (.iconst 1, 1) := by decide +kernel
theorem dL_law_1079 : decode cL_law 1079 = .ok (.iadd, 1) := by decide +kernel
theorem dL_law_1080 : decode cL_law 1080 = .ok (.iaload, 1) := by decide +kernel
theorem dL_law_1081 : decode cL_law 1081 = .ok (.invokevirtual 139, 3) := by decide +kernel
theorem dL_law_1084 : decode cL_law 1084 = .ok (.if_icmp .eq 28, 3) := by decide +kernel
theorem dL_law_1087 : decode cL_law 1087 = .ok (.iconst 0, 1) := by decide +kernel
theorem dL_law_1088 : decode cL_law 1088 = .ok (.ireturn, 1) := by decide +kernel
theorem dL_law_1089 : decode cL_law 1089 = .ok (.aload_n 1, 1) := by decide +kernel
theorem dL_law_1090 : decode cL_law 1090 = .ok (.aload_n 0, 1) := by decide +kernel
theorem dL_law_1091 : decode cL_law 1091 = .ok (.iload_n 3, 1) := by decide +kernel
theorem dL_law_1092 : decode cL_law 1092 = .ok (.iconst 1, 1) := by decide +kernel
theorem dL_law_1093 : decode cL_law 1093 = .ok (.iadd, 1) := by decide +kernel
theorem dL_law_1094 : decode cL_law 1094 = .ok (.iaload, 1) := by decide +kernel
theorem dL_law_1095 : decode cL_law 1095 = .ok (.invokevirtual 140, 3) := by decide +kernel
theorem dL_law_1098 : decode cL_law 1098 = .ok (.aload_n 2, 1) := by decide +kernel
theorem dL_law_1099 : decode cL_law 1099 = .ok (.aload_n 0, 1) := by decide +kernel
theorem dL_law_1100 : decode cL_law 1100 = .ok (.iload_n 3, 1) := by decide +kernel
theorem dL_law_1101 : decode cL_law 1101 = .ok (.iconst 1, 1) := by decide +kernel
theorem dL_law_1102 : decode cL_law 1102 = .ok (.iadd, 1) := by decide +kernel
theorem dL_law_1103 : decode cL_law 1103 = .ok (.iaload, 1) := by decide +kernel
theorem dL_law_1104 : decode cL_law 1104 = .ok (.invokevirtual 143, 3) := by decide +kernel
theorem dL_law_1107 : decode cL_law 1107 = .ok (.if_icmp .eq 5, 3) := by decide +kernel
theorem dL_law_1110 : decode cL_law 1110 = .ok (.iconst 0, 1) := by decide +kernel
theorem dL_law_1111 : decode cL_law 1111 = .ok (.ireturn, 1) := by decide +kernel
theorem dL_law_1112 : decode cL_law 1112 = .ok (.iinc 3 5, 3) := by decide +kernel
theorem dL_law_1115 : decode cL_law 1115 = .ok (.goto (-1097), 3) := by decide +kernel
theorem dL_law_1118 : decode cL_law 1118 = .ok (.iconst 1, 1) := by decide +kernel
theorem dL_law_1119 : decode cL_law 1119 = .ok (.ireturn, 1) := by decide +kernel
end
section
/-! The known state (Kn), contracts that leave the heap (R) and that change a world (M), and the rules of their calls. -/
abbrev GG : Type := va_G × ClassId × ClassId × ClassId × ClassId × Nat × Nat
abbrev gI (g : GG) : ClassId := g.2.1
abbrev gJ (g : GG) : ClassId := g.2.2.1
abbrev gZ (g : GG) : ClassId := g.2.2.2.1
abbrev gO (g : GG) : ClassId := g.2.2.2.2.1
abbrev gc (g : GG) : Nat := g.2.2.2.2.2.1
abbrev gl (g : GG) : Nat := g.2.2.2.2.2.2
abbrev tysG (g : GG) : List (ClassId × FieldType) := [(gI g, .int), (gJ g, .long), (gZ g, .boolean), (gO g, .object RX1)]
def corn (j : Nat) : Int64 := match j with
  | 0 => -1
  | 1 => 252645135
  | 2 => 771
  | _ => 1
def leafc (j : Nat) : Int32 := match j with
  | 0 => 98
  | 1 => 119
  | 2 => 103
  | _ => 115
def cornF (j : Nat) : Value := .long (corn j)
def leafF (j : Nat) : Value := .int (leafc j)
def nestM : List (String × Nat × MethodName) := [(RX1, 15, yX6_isPicture), (RX1, 68, yX6_isQuarter), (RX6, 9, yX1_init), (RX6, 25, yX4_init), (RX6, 32, yX0_init), (RX6, 39, yX3_init), (RX6, 46, yX5_init), (RX4, 17, yX5_init)]
def Kn (g : GG) (A : Nat → Prop) (U : State) : Prop :=
  va_K g.1 vwCl (tysG g) U ∧ va_AO RX1 U ∧ (∀ q ∈ nestM, va_Nw (.methodLinkNest q.1 q.2.1 q.2.2 RX6) U) ∧ (va_Z RX2 "CORNERS" "[J" (.ref (gc g)) A U U.heap ∧ va_T .long (gc g) 4 cornF A U U.heap) ∧ (va_Z RX3 "LEAVES" "[I" (.ref (gl g)) A U U.heap ∧ va_T .int (gl g) 4 leafF A U U.heap)
theorem Kn.calling {g : GG} {A : Nat → Prop} {U : State} {fr : JFrame} {mk : MethodId} {a : Array Value} (h : Kn g A U) : Kn g A (U.calling fr mk a) := by
  obtain ⟨h1, h2, h3, ⟨h4, h5⟩, h6, h7⟩ := h
  exact ⟨va_K.moved (u := U) (U := U.calling fr mk a) (Vm.Alike.refl U.vm) h1, va_AO.moved (u := U) (U := U.calling fr mk a) (Vm.Alike.refl U.vm) h2, fun q hq => va_Nw.same (u := U) (U := U.calling fr mk a) rfl rfl (h3 q hq), ⟨va_Z.moved (u := U) (U := U.calling fr mk a) (Vm.Alike.refl U.vm) h4, va_T.moved (u := U) (U := U.calling fr mk a) (Vm.Alike.refl U.vm) h5⟩, va_Z.moved (u := U) (U := U.calling fr mk a) (Vm.Alike.refl U.vm) h6, va_T.moved (u := U) (U := U.calling fr mk a) (Vm.Alike.refl U.vm) h7⟩
theorem Kn.call {g : GG} {A B : Nat → Prop} {s U : State} {H : Heap} {locs : List Loc} (h : Kn g A s) (hS : va_S A s.heap H locs) (hB : ∀ q, B q → A q) (hU : U.heap = H) (hW : s.WarmedH U.vm) : Kn g B U := by
  obtain ⟨h1, h2, h3, ⟨h4, h5⟩, h6, h7⟩ := h
  have hk : ∀ a : Nat, a < s.heap.size → ¬ A a → H[a]? = s.heap[a]? := hS.2.1
  refine ⟨va_K.moved hW.alike h1, va_AO.moved hW.alike h2, fun q hq => va_Nw.warmM hW (h3 q hq), ⟨?_, ?_⟩, ?_, ?_⟩
  · rw [hU]; exact va_Z.moved hW.alike ((h4.kept hk).narrow hB)
  · rw [hU]; exact va_T.moved hW.alike ((h5.kept hk).narrow hB)
  · rw [hU]; exact va_Z.moved hW.alike ((h6.kept hk).narrow hB)
  · rw [hU]; exact va_T.moved hW.alike ((h7.kept hk).narrow hB)
theorem Kn.nest {g : GG} {A : Nat → Prop} {U : State} (h : Kn g A U) (i : Nat) {own : String} {ix : Nat} {y : MethodName} (hi : nestM[i]? = some (own, ix, y)) : va_Nw (.methodLinkNest own ix y RX6) U := h.2.2.1 (own, ix, y) (List.mem_of_getElem? hi)
abbrev NoA : Nat → Prop := fun _ => False
/-- the start of a contract that leaves the heap as it is -/
def PR (g : GG) (av : List Value) (H : Heap) : Array Value → State → Prop := va_Pc av (fun U => U.heap = H ∧ Kn g NoA U)
def QRi (v : Int32) (H : Heap) : Array Value → State → Outcome → State → Prop := va_Qi (fun r (_ : Unit) => r = v) (fun _ t => t.heap = H) NoA
def QRl (v : Int64) (H : Heap) : Array Value → State → Outcome → State → Prop := va_Ql (fun r (_ : Unit) => r = v) (fun _ t => t.heap = H) NoA
/-- the start of a contract that changes a world -/
def PM (g : GG) (av : List Value) (w : va_W) (sz : Nat) : Array Value → State → Prop := va_Pc av (fun U => U.heap.size = sz ∧ va_P g.1 vwCl w U.heap ∧ va_D (fun _ => True) w ∧ Kn g (va_A w sz) U)
theorem PR_blind {g : GG} {av : List Value} {H : Heap} : FrameBlind (PR g av H) := fun _ _ _ _ q => ⟨q.1, q.2.1, q.2.2.calling⟩
theorem PM_blind {g : GG} {av : List Value} {w : va_W} {sz : Nat} : FrameBlind (PM g av w sz) := fun _ _ _ _ q => ⟨q.1, q.2.1, q.2.2.1, q.2.2.2.1, q.2.2.2.2.calling⟩
section RC
variable {p : Program} {l : Launch} {e : Env} {R : Room} {s : State} {m : MethodId} {args : Array Value} {below : List Frame} {meth : Method} {c : Code} {H : Heap} {locs : List Loc} {cells slots : Nat} {Q : State → Prop} {g : GG} {A : Nat → Prop}
variable {cc bytes : ByteArray} {nL maxL index n pc mc ms : Nat} {own C : String} {y : MethodName} {ret : Option FieldType} {ws : List Cond} {rm : Room} {As rest st0 : List Value} {ls : Array Slot} {a : Array Value} {b : Nat} {ws0 wc wr : va_W}
theorem PR_at (hk : Kn g A s) (hS : va_S A s.heap H locs) : ∀ U : State, U.heap = H → s.WarmedH U.vm → PR g As H As.toArray U := fun U hU hW => ⟨rfl, hU, hk.call hS (fun _ h => h.elim) hU hW⟩
theorem r_i {v : Int32} (hr : va_Run p l e R s m args below meth c H locs cells slots 0 0 (F0 m pc ls st0) rest (QRi v H a) NoA) (kk : W p l e R s m args below meth c H locs cells slots Q (F0 m (pc + 3) ls (.int v :: rest))) : W p l e R s m args below meth c H locs cells slots Q (F0 m pc ls st0) := by
  intro T hT X
  obtain ⟨v', st₀, t, T', L, h0, X', hL, e1, e2, ⟨⟨r, u, hv, hp, hb⟩, hz, hk⟩, st⟩ := hr T hT X
  cases hv
  have hp : r = v := hp
  have hb : t.heap = H := hb
  subst hp
  have hL0 : L = [] := by
    cases L with
    | nil => rfl
    | cons x L => exact (hL x List.mem_cons_self).elim
  subst hL0
  rw [List.append_nil] at X'
  obtain ⟨t2, a1, b1⟩ := kk T' (e1.trans hb) X'
  exact ⟨t2, st t2 a1, b1⟩
theorem r_l {v : Int64} (hr : va_Run p l e R s m args below meth c H locs cells slots 0 0 (F0 m pc ls st0) rest (QRl v H a) NoA) (kk : W p l e R s m args below meth c H locs cells slots Q (F0 m (pc + 3) ls (.long v :: rest))) : W p l e R s m args below meth c H locs cells slots Q (F0 m pc ls st0) := by
  intro T hT X
  obtain ⟨v', st₀, t, T', L, h0, X', hL, e1, e2, ⟨⟨r, u, hv, hp, hb⟩, hz, hk⟩, st⟩ := hr T hT X
  cases hv
  have hp : r = v := hp
  have hb : t.heap = H := hb
  subst hp
  have hL0 : L = [] := by
    cases L with
    | nil => rfl
    | cons x L => exact (hL x List.mem_cons_self).elim
  subst hL0
  rw [List.append_nil] at X'
  obtain ⟨t2, a1, b1⟩ := kk T' (e1.trans hb) X'
  exact ⟨t2, st t2 a1, b1⟩
/-- what a call by name needs of the tables -/
theorem gV (h1 : Cond.methodLink own index y ∈ wsL_law) (h2 : Cond.instanceMethod y ∈ wsL_law) (h3 : Cond.selects C y y ∈ wsL_law) (h4 : Cond.initialized C ∈ wsL_law) (h5 : Cond.code y bytes maxL ret ∈ wsL_law) : GoodIn wsL_law (wsV own index C y (Cond.code y bytes maxL ret :: wsL_law)) := by
  intro w hw
  have hm : w ∈ wsL_law := by
    unfold wsV at hw
    rcases List.mem_append.mp hw with hw | hw
    · simp only [List.mem_cons, List.not_mem_nil, or_false] at hw
      rcases hw with rfl | rfl | rfl | rfl <;> assumption
    · rcases List.mem_cons.mp hw with rfl | hw
      · exact h5
      · exact hw
  exact wsL_g w hm
theorem gS (h1 : Cond.methodLink own index y ∈ wsL_law) (h2 : Cond.static y ∈ wsL_law) (h4 : Cond.initialized y.cls ∈ wsL_law) (h5 : Cond.code y bytes maxL ret ∈ wsL_law) : GoodIn wsL_law (va_wsS own index y (Cond.code y bytes maxL ret :: wsL_law)) := by
  intro w hw
  have hm : w ∈ wsL_law := by
    unfold va_wsS at hw
    rcases List.mem_append.mp hw with hw | hw
    · simp only [List.mem_cons, List.not_mem_nil, or_false] at hw
      rcases hw with rfl | rfl | rfl <;> assumption
    · rcases List.mem_cons.mp hw with rfl | hw
      · exact h5
      · exact hw
  exact wsL_g w hm
theorem gC (h5 : Cond.code y bytes maxL ret ∈ wsL_law) : GoodIn wsL_law (Cond.code y bytes maxL ret :: wsL_law) := by
  intro w hw
  rcases List.mem_cons.mp hw with rfl | hw
  · exact wsL_g _ h5
  · exact wsL_g _ hw
end RC
end
section
/-! Entry, end and call rules over Kn; branches on Bools, on longs and on counters. -/
def b2i (b : Bool) : Int32 := if b then 1 else 0
theorem b2i_nar (b : Bool) : narrow .boolean (.int (b2i b)) = .int (b2i b) := by cases b <;> rfl
theorem b2i_0 (b : Bool) : b2i b = 0 ↔ b = false := by cases b <;> decide
def QAi {S : Type} (g : GG) (post : Int32 → S → Prop) (w' : S → va_W) (A : Nat → Prop) : Array Value → State → Outcome → State → Prop := va_Qi post (fun u t => va_P g.1 vwCl (w' u) t.heap ∧ va_D A (w' u)) A
def QAl {S : Type} (g : GG) (post : Int64 → S → Prop) (w' : S → va_W) (A : Nat → Prop) : Array Value → State → Outcome → State → Prop := va_Ql post (fun u t => va_P g.1 vwCl (w' u) t.heap ∧ va_D A (w' u)) A
def QAv {S : Type} (g : GG) (post : S → Prop) (w' : S → va_W) (A : Nat → Prop) : Array Value → State → Outcome → State → Prop := va_Qv post (fun u t => va_P g.1 vwCl (w' u) t.heap ∧ va_D A (w' u)) A
/-- a method that leaves the heap as it is, from its entry -/
theorem Met.R {l : Launch} {g : GG} {y : MethodName} {cc : ByteArray} {maxL : Nat} {ret : Option FieldType} {rm : Room} {av : List Value} {H : Heap} {Qc : Array Value → State → Outcome → State → Prop} {mc ms : Nat} {free : Addr → Prop} {lv : List (Nat × Value)} (hy : plainName y.cls = true) (hlen : (lg_sl av).length ≤ maxL) (hlv : lv_args 0 av = lv)
    (body : ∀ (p : Program) (e : Env) (s : State) (m : MethodId) (below : List Frame) (meth : Method) (c : Code), p.tables.exec = Jvm.exec → c.code = cc → meth.sig.returnType = ret → c.maxLocals = maxL → (∀ w ∈ wsL_law, w.before av.toArray s = true) → s.vm.findClass y.cls = some m.cls → meth.locks = false → Kn g NoA s → s.heap = H → ∀ ls : Array Slot, lv_has ls maxL lv → W p l e rm s m av.toArray below meth c s.heap [] 0 0 (MQ below Qc av.toArray s mc ms free) (F0 m 0 ls [])) :
    Met l y (Cond.code y cc maxL ret :: wsL_law) rm (PR g av H) Qc mc ms free := by
  refine Met.ofW (cc := cc) (maxL := maxL) (ret := ret) hy rfl ?_
  intro p e s m args below meth c s₁ B hml hv
  obtain ⟨rfl, hH, hk⟩ := hv
  have hl := lv_entry av (n := maxL) hlen
  rw [lg_entry_eq]
  generalize (lg_sl av ++ List.replicate (maxL - (lg_sl av).length) Slot.unset).toArray = ls at hl ⊢
  rw [hlv] at hl
  exact body p e s m below meth c B.exec B.bytes B.returns hml (fun w h => atoms_spec (ws := Cond.code y cc maxL ret :: wsL_law) B.pre w (List.mem_cons_of_mem _ h)) (findClass_of_methodNamed B.named) B.notSynchronized hk hH ls hl
/-- a method that changes a world, from its entry -/
theorem Met.M {l : Launch} {g : GG} {y : MethodName} {cc : ByteArray} {maxL : Nat} {ret : Option FieldType} {rm : Room} {av : List Value} {w : va_W} {sz : Nat} {Qc : (Nat → Prop) → Array Value → State → Outcome → State → Prop} {mc ms : Nat} {lv : List (Nat × Value)} (hy : plainName y.cls = true) (hlen : (lg_sl av).length ≤ maxL) (hlv : lv_args 0 av = lv)
    (body : ∀ (p : Program) (e : Env) (s : State) (m : MethodId) (below : List Frame) (meth : Method) (c : Code), p.tables.exec = Jvm.exec → c.code = cc → meth.sig.returnType = ret → c.maxLocals = maxL → (∀ w ∈ wsL_law, w.before av.toArray s = true) → s.vm.findClass y.cls = some m.cls → meth.locks = false → meth.name = y.name → ∀ A : Nat → Prop, (∀ q : Nat, s.heap.size ≤ q → A q) → Kn g A s → va_P g.1 vwCl w s.heap → va_D A w → ∀ ls : Array Slot, lv_has ls maxL lv → W p l e rm s m av.toArray below meth c s.heap [] 0 0 (MQ below (Qc A) av.toArray s mc ms A) (F0 m 0 ls [])) :
    Met l y (Cond.code y cc maxL ret :: wsL_law) rm (PM g av w sz) (Qc (va_A w sz)) mc ms (va_A w sz) := by
  refine Met.ofW (cc := cc) (maxL := maxL) (ret := ret) hy rfl ?_
  intro p e s m args below meth c s₁ B hml hv
  obtain ⟨rfl, hsz, hP, hD0, hk⟩ := hv
  subst hsz
  have hl := lv_entry av (n := maxL) hlen
  rw [lg_entry_eq]
  generalize (lg_sl av ++ List.replicate (maxL - (lg_sl av).length) Slot.unset).toArray = ls at hl ⊢
  rw [hlv] at hl
  exact body p e s m below meth c B.exec B.bytes B.returns hml (fun w h => atoms_spec (ws := Cond.code y cc maxL ret :: wsL_law) B.pre w (List.mem_cons_of_mem _ h)) (findClass_of_methodNamed B.named) B.notSynchronized (name_of_methodNamed B.named B.method).1 _ (fun q h => Or.inr h) hk hP hD0.self ls hl
section Rules
variable {p : Program} {l : Launch} {e : Env} {R : Room} {s : State} {m : MethodId} {args : Array Value} {below : List Frame} {meth : Method} {c : Code} {H : Heap} {locs : List Loc} {cells slots : Nat} {Q : State → Prop} {g : GG} {A : Nat → Prop}
variable {cc bytes : ByteArray} {nL maxL index n pc mc ms : Nat} {own C : String} {y : MethodName} {ret : Option FieldType} {rm : Room} {As rest st0 : List Value} {ls : Array Slot} {b : Nat} {ws0 wc wr : va_W} {lv : List (Nat × Value)}
/-- ends -/
theorem eR_i {v v' : Int32} (hx : p.tables.exec = Jvm.exec) (hb : c.code = cc) (hr : meth.sig.returnType = some .int) (hlocks : meth.locks = false) (hv : v = v') (hdg : decode cc pc = .ok (.ireturn, 1)) : W p l e R s m args below meth c s.heap [] 0 0 (MQ below (QRi v' s.heap) args s 0 0 NoA) (F0 m pc ls [.int v]) :=
  W.iret hx hb hr (fun t ht _ => ⟨⟨v, (), rfl, hv, ht⟩, (va_S.rf : va_S NoA s.heap s.heap []).F ht⟩) (fun _ h => absurd h List.not_mem_nil) hdg
theorem eR_z {v : Int32} {b : Bool} (hx : p.tables.exec = Jvm.exec) (hb : c.code = cc) (hr : meth.sig.returnType = some .boolean) (hlocks : meth.locks = false) (hv : v = b2i b) (hdg : decode cc pc = .ok (.ireturn, 1)) : W p l e R s m args below meth c s.heap [] 0 0 (MQ below (QRi (b2i b) s.heap) args s 0 0 NoA) (F0 m pc ls [.int v]) :=
  W.zret hx hb hr (by rw [hv]; exact b2i_nar b) (fun t ht _ => ⟨⟨v, (), rfl, hv, ht⟩, (va_S.rf : va_S NoA s.heap s.heap []).F ht⟩) (fun _ h => absurd h List.not_mem_nil) hdg
theorem eR_l {v v' : Int64} (hx : p.tables.exec = Jvm.exec) (hb : c.code = cc) (hr : meth.sig.returnType = some .long) (hlocks : meth.locks = false) (hv : v = v') (hdg : decode cc pc = .ok (.lreturn, 1)) : W p l e R s m args below meth c s.heap [] 0 0 (MQ below (QRl v' s.heap) args s 0 0 NoA) (F0 m pc ls [.long v]) :=
  W.lret hx hb hr (fun t ht _ => ⟨⟨v, (), rfl, hv, ht⟩, (va_S.rf : va_S NoA s.heap s.heap []).F ht⟩) (fun _ h => absurd h List.not_mem_nil) hdg
theorem eM_i {S : Type} {post : Int32 → S → Prop} {w' : S → va_W} {v : Int32} (hx : p.tables.exec = Jvm.exec) (hb : c.code = cc) (hr : meth.sig.returnType = some .int) (hlocks : meth.locks = false) (u : S) (hv : post v u) (hP : va_P g.1 vwCl (w' u) H) (hD : va_D A (w' u)) (hS : va_S A s.heap H locs) (hdg : decode cc pc = .ok (.ireturn, 1)) : W p l e R s m args below meth c H locs cells slots (MQ below (QAi g post w' A) args s cells slots A) (F0 m pc ls [.int v]) :=
  W.iret hx hb hr (fun t ht _ => ⟨⟨v, u, rfl, hv, by rw [ht]; exact hP, hD⟩, hS.F ht⟩) hS.2.2 hdg
theorem eM_z {S : Type} {post : Int32 → S → Prop} {w' : S → va_W} {v : Int32} {b : Bool} (hx : p.tables.exec = Jvm.exec) (hb : c.code = cc) (hr : meth.sig.returnType = some .boolean) (hlocks : meth.locks = false) (u : S) (hz : v = b2i b) (hv : post v u) (hP : va_P g.1 vwCl (w' u) H) (hD : va_D A (w' u)) (hS : va_S A s.heap H locs) (hdg : decode cc pc = .ok (.ireturn, 1)) : W p l e R s m args below meth c H locs cells slots (MQ below (QAi g post w' A) args s cells slots A) (F0 m pc ls [.int v]) :=
  W.zret hx hb hr (by rw [hz]; exact b2i_nar b) (fun t ht _ => ⟨⟨v, u, rfl, hv, by rw [ht]; exact hP, hD⟩, hS.F ht⟩) hS.2.2 hdg
theorem eM_l {S : Type} {post : Int64 → S → Prop} {w' : S → va_W} {v : Int64} (hx : p.tables.exec = Jvm.exec) (hb : c.code = cc) (hr : meth.sig.returnType = some .long) (hlocks : meth.locks = false) (u : S) (hv : post v u) (hP : va_P g.1 vwCl (w' u) H) (hD : va_D A (w' u)) (hS : va_S A s.heap H locs) (hdg : decode cc pc = .ok (.lreturn, 1)) : W p l e R s m args below meth c H locs cells slots (MQ below (QAl g post w' A) args s cells slots A) (F0 m pc ls [.long v]) :=
  W.lret hx hb hr (fun t ht _ => ⟨⟨v, u, rfl, hv, by rw [ht]; exact hP, hD⟩, hS.F ht⟩) hS.2.2 hdg
theorem eM_v {S : Type} {post : S → Prop} {w' : S → va_W} (hx : p.tables.exec = Jvm.exec) (hb : c.code = cc) (hr : meth.sig.returnType = none) (hlocks : meth.locks = false) (u : S) (hv : post u) (hP : va_P g.1 vwCl (w' u) H) (hD : va_D A (w' u)) (hS : va_S A s.heap H locs) (hdg : decode cc pc = .ok (.return_, 1)) : W p l e R s m args below meth c H locs cells slots (MQ below (QAv g post w' A) args s cells slots A) (F0 m pc ls []) :=
  W.vret hx hb hr (fun t ht _ => ⟨⟨u, rfl, hv, by rw [ht]; exact hP, hD⟩, hS.F ht⟩) hS.2.2 hdg
/-- another name for what is on top -/
theorem lv_eqi {x y : Int32} (h : x = y) (k : W p l e R s m args below meth c H locs cells slots Q (F0 m pc ls (.int y :: rest))) : W p l e R s m args below meth c H locs cells slots Q (F0 m pc ls (.int x :: rest)) := by rw [h]; exact k
theorem lv_eql {x y : Int64} (h : x = y) (k : W p l e R s m args below meth c H locs cells slots Q (F0 m pc ls (.long y :: rest))) : W p l e R s m args below meth c H locs cells slots Q (F0 m pc ls (.long x :: rest)) := by rw [h]; exact k
/-- branches on a Bool -/
theorem lv_ifeqB {b : Bool} {off : Int} {tgt : Nat} (hx : p.tables.exec = Jvm.exec) (hb : c.code = cc) (hdg : decode cc pc = .ok (.ifCond .eq off, 3)) (ht : (pc : Int) + off = (tgt : Int)) (kt : b = false → W p l e R s m args below meth c H locs cells slots Q (F0 m tgt ls rest)) (kf : b = true → W p l e R s m args below meth c H locs cells slots Q (F0 m (pc + 3) ls rest)) : W p l e R s m args below meth c H locs cells slots Q (F0 m pc ls (.int (b2i b) :: rest)) :=
  lv_if_eq hx hb hdg ht (fun h => kt ((b2i_0 b).mp h)) (fun h => kf (by cases b with | false => exact absurd rfl h | true => rfl))
theorem lv_ifneB {b : Bool} {off : Int} {tgt : Nat} (hx : p.tables.exec = Jvm.exec) (hb : c.code = cc) (hdg : decode cc pc = .ok (.ifCond .ne off, 3)) (ht : (pc : Int) + off = (tgt : Int)) (kt : b = true → W p l e R s m args below meth c H locs cells slots Q (F0 m tgt ls rest)) (kf : b = false → W p l e R s m args below meth c H locs cells slots Q (F0 m (pc + 3) ls rest)) : W p l e R s m args below meth c H locs cells slots Q (F0 m pc ls (.int (b2i b) :: rest)) :=
  lv_if_ne hx hb hdg ht (fun h => kt (by cases b with | false => exact absurd rfl h | true => rfl)) (fun h => kf ((b2i_0 b).mp h))
/-- branches on counters -/
theorem ic_ge {a d : Nat} {x z : Int32} {off : Int} {tgt : Nat} (hx : p.tables.exec = Jvm.exec) (hb : c.code = cc) (hdg : decode cc pc = .ok (.if_icmp .ge off, 3)) (ht : (pc : Int) + off = (tgt : Int)) (ex : x = nI a) (ez : z = nI d) (ha : a < 2 ^ 31) (hd : d < 2 ^ 31) (kt : d ≤ a → W p l e R s m args below meth c H locs cells slots Q (F0 m tgt ls rest)) (kf : a < d → W p l e R s m args below meth c H locs cells slots Q (F0 m (pc + 3) ls rest)) : W p l e R s m args below meth c H locs cells slots Q (F0 m pc ls (.int z :: .int x :: rest)) :=
  lv_icmp_ge hx hb hdg ht (fun h => kt (by rw [ex, ez] at h; exact (nI_leI hd ha).mp h)) (fun h => kf (by rw [ex, ez] at h; exact Nat.lt_of_not_le fun q => h ((nI_leI hd ha).mpr q)))
theorem ic_gt {a d : Nat} {x z : Int32} {off : Int} {tgt : Nat} (hx : p.tables.exec = Jvm.exec) (hb : c.code = cc) (hdg : decode cc pc = .ok (.if_icmp .gt off, 3)) (ht : (pc : Int) + off = (tgt : Int)) (ex : x = nI a) (ez : z = nI d) (ha : a < 2 ^ 31) (hd : d < 2 ^ 31) (kt : d < a → W p l e R s m args below meth c H locs cells slots Q (F0 m tgt ls rest)) (kf : a ≤ d → W p l e R s m args below meth c H locs cells slots Q (F0 m (pc + 3) ls rest)) : W p l e R s m args below meth c H locs cells slots Q (F0 m pc ls (.int z :: .int x :: rest)) :=
  lv_icmp_gt hx hb hdg ht (fun h => kt (by rw [ex, ez] at h; exact (nI_ltI hd ha).mp h)) (fun h => kf (by rw [ex, ez] at h; exact Nat.le_of_not_lt fun q => h ((nI_ltI hd ha).mpr q)))
theorem ic_lt {a d : Nat} {x z : Int32} {off : Int} {tgt : Nat} (hx : p.tables.exec = Jvm.exec) (hb : c.code = cc) (hdg : decode cc pc = .ok (.if_icmp .lt off, 3)) (ht : (pc : Int) + off = (tgt : Int)) (ex : x = nI a) (ez : z = nI d) (ha : a < 2 ^ 31) (hd : d < 2 ^ 31) (kt : a < d → W p l e R s m args below meth c H locs cells slots Q (F0 m tgt ls rest)) (kf : d ≤ a → W p l e R s m args below meth c H locs cells slots Q (F0 m (pc + 3) ls rest)) : W p l e R s m args below meth c H locs cells slots Q (F0 m pc ls (.int z :: .int x :: rest)) :=
  lv_icmp_lt hx hb hdg ht (fun h => kt (by rw [ex, ez] at h; exact (nI_ltI ha hd).mp h)) (fun h => kf (by rw [ex, ez] at h; exact Nat.le_of_not_lt fun q => h ((nI_ltI ha hd).mpr q)))
theorem ic_le {a d : Nat} {x z : Int32} {off : Int} {tgt : Nat} (hx : p.tables.exec = Jvm.exec) (hb : c.code = cc) (hdg : decode cc pc = .ok (.if_icmp .le off, 3)) (ht : (pc : Int) + off = (tgt : Int)) (ex : x = nI a) (ez : z = nI d) (ha : a < 2 ^ 31) (hd : d < 2 ^ 31) (kt : a ≤ d → W p l e R s m args below meth c H locs cells slots Q (F0 m tgt ls rest)) (kf : d < a → W p l e R s m args below meth c H locs cells slots Q (F0 m (pc + 3) ls rest)) : W p l e R s m args below meth c H locs cells slots Q (F0 m pc ls (.int z :: .int x :: rest)) :=
  lv_icmp_le hx hb hdg ht (fun h => kt (by rw [ex, ez] at h; exact (nI_leI ha hd).mp h)) (fun h => kf (by rw [ex, ez] at h; exact Nat.lt_of_not_le fun q => h ((nI_leI ha hd).mpr q)))
theorem ic_eq {a d : Nat} {x z : Int32} {off : Int} {tgt : Nat} (hx : p.tables.exec = Jvm.exec) (hb : c.code = cc) (hdg : decode cc pc = .ok (.if_icmp .eq off, 3)) (ht : (pc : Int) + off = (tgt : Int)) (ex : x = nI a) (ez : z = nI d) (ha : a < 2 ^ 31) (hd : d < 2 ^ 31) (kt : a = d → W p l e R s m args below meth c H locs cells slots Q (F0 m tgt ls rest)) (kf : ¬ a = d → W p l e R s m args below meth c H locs cells slots Q (F0 m (pc + 3) ls rest)) : W p l e R s m args below meth c H locs cells slots Q (F0 m pc ls (.int z :: .int x :: rest)) :=
  lv_icmp_eq hx hb hdg ht (fun h => kt (by rw [ex, ez] at h; exact (nI_eq ha hd).mp h)) (fun h => kf (by rw [ex, ez] at h; exact fun q => h ((nI_eq ha hd).mpr q)))
theorem ic_ne {a d : Nat} {x z : Int32} {off : Int} {tgt : Nat} (hx : p.tables.exec = Jvm.exec) (hb : c.code = cc) (hdg : decode cc pc = .ok (.if_icmp .ne off, 3)) (ht : (pc : Int) + off = (tgt : Int)) (ex : x = nI a) (ez : z = nI d) (ha : a < 2 ^ 31) (hd : d < 2 ^ 31) (kt : ¬ a = d → W p l e R s m args below meth c H locs cells slots Q (F0 m tgt ls rest)) (kf : a = d → W p l e R s m args below meth c H locs cells slots Q (F0 m (pc + 3) ls rest)) : W p l e R s m args below meth c H locs cells slots Q (F0 m pc ls (.int z :: .int x :: rest)) :=
  lv_icmp_ne hx hb hdg ht (fun h => kt (by rw [ex, ez] at h; exact fun q => h ((nI_eq ha hd).mpr q))) (fun h => kf (by rw [ex, ez] at h; exact (nI_eq ha hd).mp h))
theorem iz_eq {a : Nat} {x : Int32} {off : Int} {tgt : Nat} (hx : p.tables.exec = Jvm.exec) (hb : c.code = cc) (hdg : decode cc pc = .ok (.ifCond .eq off, 3)) (ht : (pc : Int) + off = (tgt : Int)) (ex : x = nI a) (ha : a < 2 ^ 31) (kt : a = 0 → W p l e R s m args below meth c H locs cells slots Q (F0 m tgt ls rest)) (kf : 0 < a → W p l e R s m args below meth c H locs cells slots Q (F0 m (pc + 3) ls rest)) : W p l e R s m args below meth c H locs cells slots Q (F0 m pc ls (.int x :: rest)) :=
  lv_if_eq hx hb hdg ht (fun h => kt (by rw [ex] at h; exact (nI_eq ha (by decide)).mp h)) (fun h => kf (by rw [ex] at h; exact Nat.pos_of_ne_zero fun q => h ((nI_eq ha (by decide)).mpr q)))
theorem iz_ne {a : Nat} {x : Int32} {off : Int} {tgt : Nat} (hx : p.tables.exec = Jvm.exec) (hb : c.code = cc) (hdg : decode cc pc = .ok (.ifCond .ne off, 3)) (ht : (pc : Int) + off = (tgt : Int)) (ex : x = nI a) (ha : a < 2 ^ 31) (kt : 0 < a → W p l e R s m args below meth c H locs cells slots Q (F0 m tgt ls rest)) (kf : a = 0 → W p l e R s m args below meth c H locs cells slots Q (F0 m (pc + 3) ls rest)) : W p l e R s m args below meth c H locs cells slots Q (F0 m pc ls (.int x :: rest)) :=
  lv_if_ne hx hb hdg ht (fun h => kt (by rw [ex] at h; exact Nat.pos_of_ne_zero fun q => h ((nI_eq ha (by decide)).mpr q))) (fun h => kf (by rw [ex] at h; exact (nI_eq ha (by decide)).mp h))
theorem iz_le {a : Nat} {x : Int32} {off : Int} {tgt : Nat} (hx : p.tables.exec = Jvm.exec) (hb : c.code = cc) (hdg : decode cc pc = .ok (.ifCond .le off, 3)) (ht : (pc : Int) + off = (tgt : Int)) (ex : x = nI a) (ha : a < 2 ^ 31) (kt : a = 0 → W p l e R s m args below meth c H locs cells slots Q (F0 m tgt ls rest)) (kf : 0 < a → W p l e R s m args below meth c H locs cells slots Q (F0 m (pc + 3) ls rest)) : W p l e R s m args below meth c H locs cells slots Q (F0 m pc ls (.int x :: rest)) :=
  lv_if_le hx hb hdg ht (fun h => kt (by rw [ex] at h; exact Nat.le_zero.mp ((nI_leI ha (by decide)).mp h))) (fun h => kf (by rw [ex] at h; exact Nat.pos_of_ne_zero fun q => h (by rw [q]; decide)))
theorem lc_eq {x y : Int64} {off : Int} {tgt : Nat} (hx : p.tables.exec = Jvm.exec) (hb : c.code = cc) (hd1 : decode cc pc = .ok (.lcmp, 1)) (hd2 : decode cc (pc + 1) = .ok (.ifCond .eq off, 3)) (ht : ((pc + 1 : Nat) : Int) + off = (tgt : Int)) (kt : x = y → W p l e R s m args below meth c H locs cells slots Q (F0 m tgt ls rest)) (kf : ¬ x = y → W p l e R s m args below meth c H locs cells slots Q (F0 m (pc + 1 + 3) ls rest)) : W p l e R s m args below meth c H locs cells slots Q (F0 m pc ls (.long y :: .long x :: rest)) :=
  W.lcmp hx hb hd1 (lv_if_eq hx hb hd2 ht (fun h => kt ((lg_cmp_eq x y).mp h)) (fun h => kf (fun q => h ((lg_cmp_eq x y).mpr q))))
theorem lc_ne {x y : Int64} {off : Int} {tgt : Nat} (hx : p.tables.exec = Jvm.exec) (hb : c.code = cc) (hd1 : decode cc pc = .ok (.lcmp, 1)) (hd2 : decode cc (pc + 1) = .ok (.ifCond .ne off, 3)) (ht : ((pc + 1 : Nat) : Int) + off = (tgt : Int)) (kt : ¬ x = y → W p l e R s m args below meth c H locs cells slots Q (F0 m tgt ls rest)) (kf : x = y → W p l e R s m args below meth c H locs cells slots Q (F0 m (pc + 1 + 3) ls rest)) : W p l e R s m args below meth c H locs cells slots Q (F0 m pc ls (.long y :: .long x :: rest)) :=
  W.lcmp hx hb hd1 (lv_if_ne hx hb hd2 ht (fun h => kt (fun q => h ((lg_cmp_eq x y).mpr q))) (fun h => kf ((lg_cmp_eq x y).mp h)))
theorem lc_lt {x y : Int64} {off : Int} {tgt : Nat} (hx : p.tables.exec = Jvm.exec) (hb : c.code = cc) (hd1 : decode cc pc = .ok (.lcmp, 1)) (hd2 : decode cc (pc + 1) = .ok (.ifCond .lt off, 3)) (ht : ((pc + 1 : Nat) : Int) + off = (tgt : Int)) (kt : x < y → W p l e R s m args below meth c H locs cells slots Q (F0 m tgt ls rest)) (kf : ¬ x < y → W p l e R s m args below meth c H locs cells slots Q (F0 m (pc + 1 + 3) ls rest)) : W p l e R s m args below meth c H locs cells slots Q (F0 m pc ls (.long y :: .long x :: rest)) :=
  W.lcmp hx hb hd1 (lv_if_lt hx hb hd2 ht (fun h => kt ((lg_cmp_lt x y).mp h)) (fun h => kf (fun q => h ((lg_cmp_lt x y).mpr q))))
theorem lc_ge {x y : Int64} {off : Int} {tgt : Nat} (hx : p.tables.exec = Jvm.exec) (hb : c.code = cc) (hd1 : decode cc pc = .ok (.lcmp, 1)) (hd2 : decode cc (pc + 1) = .ok (.ifCond .ge off, 3)) (ht : ((pc + 1 : Nat) : Int) + off = (tgt : Int)) (kt : y ≤ x → W p l e R s m args below meth c H locs cells slots Q (F0 m tgt ls rest)) (kf : ¬ y ≤ x → W p l e R s m args below meth c H locs cells slots Q (F0 m (pc + 1 + 3) ls rest)) : W p l e R s m args below meth c H locs cells slots Q (F0 m pc ls (.long y :: .long x :: rest)) :=
  W.lcmp hx hb hd1 (lv_if_ge hx hb hd2 ht (fun h => kt ((lg_cmp_ge x y).mp h)) (fun h => kf (fun q => h ((lg_cmp_ge x y).mpr q))))
theorem lc_gt {x y : Int64} {off : Int} {tgt : Nat} (hx : p.tables.exec = Jvm.exec) (hb : c.code = cc) (hd1 : decode cc pc = .ok (.lcmp, 1)) (hd2 : decode cc (pc + 1) = .ok (.ifCond .gt off, 3)) (ht : ((pc + 1 : Nat) : Int) + off = (tgt : Int)) (kt : y < x → W p l e R s m args below meth c H locs cells slots Q (F0 m tgt ls rest)) (kf : ¬ y < x → W p l e R s m args below meth c H locs cells slots Q (F0 m (pc + 1 + 3) ls rest)) : W p l e R s m args below meth c H locs cells slots Q (F0 m pc ls (.long y :: .long x :: rest)) :=
  W.lcmp hx hb hd1 (lv_if_gt hx hb hd2 ht (fun h => kt ((lg_cmp_gt x y).mp h)) (fun h => kf (fun q => h ((lg_cmp_gt x y).mpr q))))
theorem lc_le {x y : Int64} {off : Int} {tgt : Nat} (hx : p.tables.exec = Jvm.exec) (hb : c.code = cc) (hd1 : decode cc pc = .ok (.lcmp, 1)) (hd2 : decode cc (pc + 1) = .ok (.ifCond .le off, 3)) (ht : ((pc + 1 : Nat) : Int) + off = (tgt : Int)) (kt : x ≤ y → W p l e R s m args below meth c H locs cells slots Q (F0 m tgt ls rest)) (kf : ¬ x ≤ y → W p l e R s m args below meth c H locs cells slots Q (F0 m (pc + 1 + 3) ls rest)) : W p l e R s m args below meth c H locs cells slots Q (F0 m pc ls (.long y :: .long x :: rest)) :=
  W.lcmp hx hb hd1 (lv_if_le hx hb hd2 ht (fun h => kt ((lg_cmp_le x y).mp h)) (fun h => kf (fun q => h ((lg_cmp_le x y).mpr q))))
/-- what every call of a static method, and of a method by name, needs of the tables -/
def SF (y : MethodName) (bytes : ByteArray) (maxL : Nat) (ret : Option FieldType) (n : Nat) : Prop := (y.cls ≠ "java/lang/invoke/MethodHandle" ∧ y.cls ≠ "java/lang/invoke/VarHandle" ∧ (parseMethodDescriptor y.desc).map (fun d => d.parameters.length) = some n) ∧ Cond.static y ∈ wsL_law ∧ Cond.initialized y.cls ∈ wsL_law ∧ Cond.code y bytes maxL ret ∈ wsL_law
def VF (y : MethodName) (bytes : ByteArray) (maxL : Nat) (ret : Option FieldType) (n : Nat) (C : String) : Prop := (y.cls = C ∧ y.cls ≠ "java/lang/invoke/MethodHandle" ∧ y.cls ≠ "java/lang/invoke/VarHandle" ∧ (parseMethodDescriptor y.desc).map (fun d => d.parameters.length) = some n) ∧ Cond.instanceMethod y ∈ wsL_law ∧ Cond.selects C y y ∈ wsL_law ∧ Cond.initialized C ∈ wsL_law ∧ Cond.code y bytes maxL ret ∈ wsL_law
def IF (y : MethodName) (bytes : ByteArray) (maxL : Nat) (n : Nat) : Prop := (y.cls ≠ "java/lang/invoke/MethodHandle" ∧ y.cls ≠ "java/lang/invoke/VarHandle" ∧ (parseMethodDescriptor y.desc).map (fun d => d.parameters.length) = some n) ∧ y.name = "<init>" ∧ Cond.instanceMethod y ∈ wsL_law ∧ Cond.initialized y.cls ∈ wsL_law ∧ Cond.code y bytes maxL none ∈ wsL_law
/-- calls that leave the heap: static, of a nest mate, by name -/
theorem cS_i {v : Int32} (hx : p.tables.exec = Jvm.exec) (hb : c.code = cc) (hml : c.maxLocals = nL) (hown : s.vm.findClass own = some m.cls) (hw : ∀ w ∈ wsL_law, w.before args s = true) (hkn : Kn g A s) (hS : va_S A s.heap H locs) (hl : lv_has ls nL lv) (hM : Met l y (Cond.code y bytes maxL ret :: wsL_law) rm (PR g As H) (QRi v H) 0 0 NoA) (hF : SF y bytes maxL ret n) (h1 : Cond.methodLink own index y ∈ wsL_law) (hR : rm.frames + 1 ≤ R.frames ∧ 8 + (maxL + 11) + rm.locals ≤ R.locals) (hrc : rm.cells = 0) (hrs : rm.slots = 0) (hn : As.length = n) (hst : st0 = As.reverse ++ rest) (h8 : (rest.map fun v => v.category).sum ≤ 8) (hdg : decode cc pc = .ok (.invokestatic index, 3)) (hcap : cells + 0 ≤ R.cells ∧ slots + 0 ≤ R.slots) (kk : W p l e R s m args below meth c H locs cells slots Q (F0 m (pc + 3) ls (.int v :: rest))) : W p l e R s m args below meth c H locs cells slots Q (F0 m pc ls st0) :=
  r_i (va_runS (As := As) (rest := rest) ⟨hx, hb, hml, hown, hw⟩ hM (va_cwS n hw (gS h1 hF.2.1 hF.2.2.1 hF.2.2.2) rfl hrc hrs hF.1 hR) ⟨PR_blind, PR_at hkn hS⟩ rfl hn hl.1 hst (lv_room h8) hdg hcap) kk
theorem cN_i {v : Int32} (hx : p.tables.exec = Jvm.exec) (hb : c.code = cc) (hml : c.maxLocals = nL) (hown : s.vm.findClass own = some m.cls) (hw : ∀ w ∈ wsL_law, w.before args s = true) (hkn : Kn g A s) (hS : va_S A s.heap H locs) (hl : lv_has ls nL lv) (hM : Met l y (Cond.code y bytes maxL ret :: wsL_law) rm (PR g As H) (QRi v H) 0 0 NoA) (hF : SF y bytes maxL ret n) (h1 : va_Nw (.methodLinkNest own index y RX6) s) (hR : rm.frames + 1 ≤ R.frames ∧ 8 + (maxL + 11) + rm.locals ≤ R.locals) (hrc : rm.cells = 0) (hrs : rm.slots = 0) (hn : As.length = n) (hst : st0 = As.reverse ++ rest) (h8 : (rest.map fun v => v.category).sum ≤ 8) (hdg : decode cc pc = .ok (.invokestatic index, 3)) (hcap : cells + 0 ≤ R.cells ∧ slots + 0 ≤ R.slots) (kk : W p l e R s m args below meth c H locs cells slots Q (F0 m (pc + 3) ls (.int v :: rest))) : W p l e R s m args below meth c H locs cells slots Q (F0 m pc ls st0) :=
  r_i (va_runSN (As := As) (rest := rest) ⟨hx, hb, hml, hown, hw⟩ hM ⟨va_cnB n hw (gC hF.2.2.2) rfl hrc hrs h1 (hw _ hF.2.2.1) hF.1 hR, hw _ hF.2.1, trivial⟩ ⟨PR_blind, PR_at hkn hS⟩ rfl hn hl.1 hst (lv_room h8) hdg hcap) kk
theorem cV_i {v : Int32} (hx : p.tables.exec = Jvm.exec) (hb : c.code = cc) (hml : c.maxLocals = nL) (hown : s.vm.findClass own = some m.cls) (hw : ∀ w ∈ wsL_law, w.before args s = true) (hkn : Kn g A s) (hS : va_S A s.heap H locs) (hl : lv_has ls nL lv) (hM : Met l y (Cond.code y bytes maxL ret :: wsL_law) rm (PR g (.ref b :: As) H) (QRi v H) 0 0 NoA) (hF : VF y bytes maxL ret n C) (h1 : Cond.methodLink own index y ∈ wsL_law) (hrec : ∃ cellB : Cell, H[b]? = some cellB ∧ cellB.vm.isStatics = false ∧ s.vm.findClass C = some cellB.cls) (hR : rm.frames + 1 ≤ R.frames ∧ 8 + (maxL + 11) + rm.locals ≤ R.locals) (hrc : rm.cells = 0) (hrs : rm.slots = 0) (hn : As.length = n) (hst : st0 = As.reverse ++ .ref b :: rest) (h8 : (rest.map fun v => v.category).sum ≤ 8) (hdg : decode cc pc = .ok (.invokevirtual index, 3)) (hcap : cells + 0 ≤ R.cells ∧ slots + 0 ≤ R.slots) (kk : W p l e R s m args below meth c H locs cells slots Q (F0 m (pc + 3) ls (.int v :: rest))) : W p l e R s m args below meth c H locs cells slots Q (F0 m pc ls st0) :=
  r_i (va_runV (As := As) (rest := rest) ⟨hx, hb, hml, hown, hw⟩ hM (cwV n hw (gV h1 hF.2.1 hF.2.2.1 hF.2.2.2.1 hF.2.2.2.2) rfl hrc hrs hF.1 hR) ⟨PR_blind, hrec, PR_at hkn hS⟩ rfl hn hl.1 hst (lv_room h8) hdg hcap) kk
/-- calls that leave the heap: static, of a nest mate, by name -/
theorem cS_l {v : Int64} (hx : p.tables.exec = Jvm.exec) (hb : c.code = cc) (hml : c.maxLocals = nL) (hown : s.vm.findClass own = some m.cls) (hw : ∀ w ∈ wsL_law, w.before args s = true) (hkn : Kn g A s) (hS : va_S A s.heap H locs) (hl : lv_has ls nL lv) (hM : Met l y (Cond.code y bytes maxL ret :: wsL_law) rm (PR g As H) (QRl v H) 0 0 NoA) (hF : SF y bytes maxL ret n) (h1 : Cond.methodLink own index y ∈ wsL_law) (hR : rm.frames + 1 ≤ R.frames ∧ 8 + (maxL + 11) + rm.locals ≤ R.locals) (hrc : rm.cells = 0) (hrs : rm.slots = 0) (hn : As.length = n) (hst : st0 = As.reverse ++ rest) (h8 : (rest.map fun v => v.category).sum ≤ 8) (hdg : decode cc pc = .ok (.invokestatic index, 3)) (hcap : cells + 0 ≤ R.cells ∧ slots + 0 ≤ R.slots) (kk : W p l e R s m args below meth c H locs cells slots Q (F0 m (pc + 3) ls (.long v :: rest))) : W p l e R s m args below meth c H locs cells slots Q (F0 m pc ls st0) :=
  r_l (va_runS (As := As) (rest := rest) ⟨hx, hb, hml, hown, hw⟩ hM (va_cwS n hw (gS h1 hF.2.1 hF.2.2.1 hF.2.2.2) rfl hrc hrs hF.1 hR) ⟨PR_blind, PR_at hkn hS⟩ rfl hn hl.1 hst (lv_room h8) hdg hcap) kk
theorem cN_l {v : Int64} (hx : p.tables.exec = Jvm.exec) (hb : c.code = cc) (hml : c.maxLocals = nL) (hown : s.vm.findClass own = some m.cls) (hw : ∀ w ∈ wsL_law, w.before args s = true) (hkn : Kn g A s) (hS : va_S A s.heap H locs) (hl : lv_has ls nL lv) (hM : Met l y (Cond.code y bytes maxL ret :: wsL_law) rm (PR g As H) (QRl v H) 0 0 NoA) (hF : SF y bytes maxL ret n) (h1 : va_Nw (.methodLinkNest own index y RX6) s) (hR : rm.frames + 1 ≤ R.frames ∧ 8 + (maxL + 11) + rm.locals ≤ R.locals) (hrc : rm.cells = 0) (hrs : rm.slots = 0) (hn : As.length = n) (hst : st0 = As.reverse ++ rest) (h8 : (rest.map fun v => v.category).sum ≤ 8) (hdg : decode cc pc = .ok (.invokestatic index, 3)) (hcap : cells + 0 ≤ R.cells ∧ slots + 0 ≤ R.slots) (kk : W p l e R s m args below meth c H locs cells slots Q (F0 m (pc + 3) ls (.long v :: rest))) : W p l e R s m args below meth c H locs cells slots Q (F0 m pc ls st0) :=
  r_l (va_runSN (As := As) (rest := rest) ⟨hx, hb, hml, hown, hw⟩ hM ⟨va_cnB n hw (gC hF.2.2.2) rfl hrc hrs h1 (hw _ hF.2.2.1) hF.1 hR, hw _ hF.2.1, trivial⟩ ⟨PR_blind, PR_at hkn hS⟩ rfl hn hl.1 hst (lv_room h8) hdg hcap) kk
theorem cV_l {v : Int64} (hx : p.tables.exec = Jvm.exec) (hb : c.code = cc) (hml : c.maxLocals = nL) (hown : s.vm.findClass own = some m.cls) (hw : ∀ w ∈ wsL_law, w.before args s = true) (hkn : Kn g A s) (hS : va_S A s.heap H locs) (hl : lv_has ls nL lv) (hM : Met l y (Cond.code y bytes maxL ret :: wsL_law) rm (PR g (.ref b :: As) H) (QRl v H) 0 0 NoA) (hF : VF y bytes maxL ret n C) (h1 : Cond.methodLink own index y ∈ wsL_law) (hrec : ∃ cellB : Cell, H[b]? = some cellB ∧ cellB.vm.isStatics = false ∧ s.vm.findClass C = some cellB.cls) (hR : rm.frames + 1 ≤ R.frames ∧ 8 + (maxL + 11) + rm.locals ≤ R.locals) (hrc : rm.cells = 0) (hrs : rm.slots = 0) (hn : As.length = n) (hst : st0 = As.reverse ++ .ref b :: rest) (h8 : (rest.map fun v => v.category).sum ≤ 8) (hdg : decode cc pc = .ok (.invokevirtual index, 3)) (hcap : cells + 0 ≤ R.cells ∧ slots + 0 ≤ R.slots) (kk : W p l e R s m args below meth c H locs cells slots Q (F0 m (pc + 3) ls (.long v :: rest))) : W p l e R s m args below meth c H locs cells slots Q (F0 m pc ls st0) :=
  r_l (va_runV (As := As) (rest := rest) ⟨hx, hb, hml, hown, hw⟩ hM (cwV n hw (gV h1 hF.2.1 hF.2.2.1 hF.2.2.2.1 hF.2.2.2.2) rfl hrc hrs hF.1 hR) ⟨PR_blind, hrec, PR_at hkn hS⟩ rfl hn hl.1 hst (lv_room h8) hdg hcap) kk
theorem cVM_i {S : Type} {post : Int32 → S → Prop} {w' : S → va_W} {ci q0 N : Nat} {T : u_T} {fs : List Value} (hx : p.tables.exec = Jvm.exec) (hb : c.code = cc) (hml : c.maxLocals = nL) (hown : s.vm.findClass own = some m.cls) (hw : ∀ w ∈ wsL_law, w.before args s = true) (hkn : Kn g A s) (hS : va_S A s.heap H locs) (hl : lv_has ls nL lv) (hA : ∀ q : Nat, s.heap.size ≤ q → A q) (hP : va_P g.1 vwCl ws0 H) (hD : va_D A ws0) (isC isR : List Nat) (hC : isC.map (fun i => ws0[i]?) = wc.map some) (hRr : isR.map (fun i => ws0[i]?) = wr.map some) (hn1 : va_nd isR = true) (hdis : ∀ i ∈ isR, i ∉ isC) (hnC : va_nd isC = true) (hM : Met l y (Cond.code y bytes maxL ret :: wsL_law) rm (PM g (.ref b :: As) wc H.size) (QAi g post w' (va_A wc H.size)) mc ms (va_A wc H.size)) (hF : VF y bytes maxL ret n C) (h1 : Cond.methodLink own index y ∈ wsL_law) (hc : vwCl[ci]? = some (C, T, N)) (he : wc[q0]? = some (b, .inr (ci, fs))) (hR : rm.frames + 1 ≤ R.frames ∧ 8 + (maxL + 11) + rm.locals ≤ R.locals) (hrc : rm.cells = mc) (hrs : rm.slots = ms) (hn : As.length = n) (hst : st0 = As.reverse ++ .ref b :: rest) (h8 : (rest.map fun v => v.category).sum ≤ 8) (hdg : decode cc pc = .ok (.invokevirtual index, 3)) (hcap : cells + mc ≤ R.cells ∧ slots + ms ≤ R.slots) (kk : ∀ (r : Int32) (u : S) (H1 : Heap) (locs1 : List Loc), post r u → va_P g.1 vwCl (wr ++ w' u) H1 → va_D A (wr ++ w' u) → va_S A s.heap H1 locs1 → W p l e R s m args below meth c H1 locs1 (cells + mc) (slots + ms) Q (F0 m (pc + 3) ls (.int r :: rest))) : W p l e R s m args below meth c H locs cells slots Q (F0 m pc ls st0) := by
  have hPc := va_P.by hP (fun k => (isC[k]?).getD 0) (ws' := wc) (fun k q h => by obtain ⟨i, h1, h2⟩ := va_in_of isC hC h; simp only [h1, Option.getD_some]; exact h2)
  have hFc := va_free (wc := wc) hD hS hA isC hC
  have hDc : va_D (fun _ => True) wc := (hD.sub isC hnC hC).weaken (fun _ _ _ _ => trivial)
  refine va_calli (va_runV (As := As) (rest := rest) ⟨hx, hb, hml, hown, hw⟩ hM (cwV n hw (gV h1 hF.2.1 hF.2.2.1 hF.2.2.2.1 hF.2.2.2.2) rfl hrc hrs hF.1 hR) ⟨PM_blind, va_recv hkn.1 hPc hc he, fun U hU hW => ⟨rfl, by rw [hU], by rw [hU]; exact hPc, hDc, hkn.call hS hFc hU hW⟩⟩ rfl hn hl.1 hst (lv_room h8) hdg hcap) hS (fun q _ h => hFc q h) hFc (fun r u t H1 locs1 ht hvm hq hB hz1 hk1 hS1 => ?_)
  obtain ⟨hP1, hD1⟩ := hB
  rw [ht] at hP1
  obtain ⟨hP2, hD2⟩ := va_join (wr := wr) (w1 := w' u) hP hD isC isR hC hRr hn1 hdis hk1 hFc hP1 hD1
  exact kk r u H1 locs1 hq hP2 hD2 hS1
theorem cVM_l {S : Type} {post : Int64 → S → Prop} {w' : S → va_W} {ci q0 N : Nat} {T : u_T} {fs : List Value} (hx : p.tables.exec = Jvm.exec) (hb : c.code = cc) (hml : c.maxLocals = nL) (hown : s.vm.findClass own = some m.cls) (hw : ∀ w ∈ wsL_law, w.before args s = true) (hkn : Kn g A s) (hS : va_S A s.heap H locs) (hl : lv_has ls nL lv) (hA : ∀ q : Nat, s.heap.size ≤ q → A q) (hP : va_P g.1 vwCl ws0 H) (hD : va_D A ws0) (isC isR : List Nat) (hC : isC.map (fun i => ws0[i]?) = wc.map some) (hRr : isR.map (fun i => ws0[i]?) = wr.map some) (hn1 : va_nd isR = true) (hdis : ∀ i ∈ isR, i ∉ isC) (hnC : va_nd isC = true) (hM : Met l y (Cond.code y bytes maxL ret :: wsL_law) rm (PM g (.ref b :: As) wc H.size) (QAl g post w' (va_A wc H.size)) mc ms (va_A wc H.size)) (hF : VF y bytes maxL ret n C) (h1 : Cond.methodLink own index y ∈ wsL_law) (hc : vwCl[ci]? = some (C, T, N)) (he : wc[q0]? = some (b, .inr (ci, fs))) (hR : rm.frames + 1 ≤ R.frames ∧ 8 + (maxL + 11) + rm.locals ≤ R.locals) (hrc : rm.cells = mc) (hrs : rm.slots = ms) (hn : As.length = n) (hst : st0 = As.reverse ++ .ref b :: rest) (h8 : (rest.map fun v => v.category).sum ≤ 8) (hdg : decode cc pc = .ok (.invokevirtual index, 3)) (hcap : cells + mc ≤ R.cells ∧ slots + ms ≤ R.slots) (kk : ∀ (r : Int64) (u : S) (H1 : Heap) (locs1 : List Loc), post r u → va_P g.1 vwCl (wr ++ w' u) H1 → va_D A (wr ++ w' u) → va_S A s.heap H1 locs1 → W p l e R s m args below meth c H1 locs1 (cells + mc) (slots + ms) Q (F0 m (pc + 3) ls (.long r :: rest))) : W p l e R s m args below meth c H locs cells slots Q (F0 m pc ls st0) := by
  have hPc := va_P.by hP (fun k => (isC[k]?).getD 0) (ws' := wc) (fun k q h => by obtain ⟨i, h1, h2⟩ := va_in_of isC hC h; simp only [h1, Option.getD_some]; exact h2)
  have hFc := va_free (wc := wc) hD hS hA isC hC
  have hDc : va_D (fun _ => True) wc := (hD.sub isC hnC hC).weaken (fun _ _ _ _ => trivial)
  refine va_calll (va_runV (As := As) (rest := rest) ⟨hx, hb, hml, hown, hw⟩ hM (cwV n hw (gV h1 hF.2.1 hF.2.2.1 hF.2.2.2.1 hF.2.2.2.2) rfl hrc hrs hF.1 hR) ⟨PM_blind, va_recv hkn.1 hPc hc he, fun U hU hW => ⟨rfl, by rw [hU], by rw [hU]; exact hPc, hDc, hkn.call hS hFc hU hW⟩⟩ rfl hn hl.1 hst (lv_room h8) hdg hcap) hS (fun q _ h => hFc q h) hFc (fun r u t H1 locs1 ht hvm hq hB hz1 hk1 hS1 => ?_)
  obtain ⟨hP1, hD1⟩ := hB
  rw [ht] at hP1
  obtain ⟨hP2, hD2⟩ := va_join (wr := wr) (w1 := w' u) hP hD isC isR hC hRr hn1 hdis hk1 hFc hP1 hD1
  exact kk r u H1 locs1 hq hP2 hD2 hS1
theorem cVM_v {S : Type} {post : S → Prop} {w' : S → va_W} {ci q0 N : Nat} {T : u_T} {fs : List Value} (hx : p.tables.exec = Jvm.exec) (hb : c.code = cc) (hml : c.maxLocals = nL) (hown : s.vm.findClass own = some m.cls) (hw : ∀ w ∈ wsL_law, w.before args s = true) (hkn : Kn g A s) (hS : va_S A s.heap H locs) (hl : lv_has ls nL lv) (hA : ∀ q : Nat, s.heap.size ≤ q → A q) (hP : va_P g.1 vwCl ws0 H) (hD : va_D A ws0) (isC isR : List Nat) (hC : isC.map (fun i => ws0[i]?) = wc.map some) (hRr : isR.map (fun i => ws0[i]?) = wr.map some) (hn1 : va_nd isR = true) (hdis : ∀ i ∈ isR, i ∉ isC) (hnC : va_nd isC = true) (hM : Met l y (Cond.code y bytes maxL ret :: wsL_law) rm (PM g (.ref b :: As) wc H.size) (QAv g post w' (va_A wc H.size)) mc ms (va_A wc H.size)) (hF : VF y bytes maxL ret n C) (h1 : Cond.methodLink own index y ∈ wsL_law) (hc : vwCl[ci]? = some (C, T, N)) (he : wc[q0]? = some (b, .inr (ci, fs))) (hR : rm.frames + 1 ≤ R.frames ∧ 8 + (maxL + 11) + rm.locals ≤ R.locals) (hrc : rm.cells = mc) (hrs : rm.slots = ms) (hn : As.length = n) (hst : st0 = As.reverse ++ .ref b :: rest) (h8 : (rest.map fun v => v.category).sum ≤ 8) (hdg : decode cc pc = .ok (.invokevirtual index, 3)) (hcap : cells + mc ≤ R.cells ∧ slots + ms ≤ R.slots) (kk : ∀ (u : S) (H1 : Heap) (locs1 : List Loc), post u → va_P g.1 vwCl (wr ++ w' u) H1 → va_D A (wr ++ w' u) → va_S A s.heap H1 locs1 → W p l e R s m args below meth c H1 locs1 (cells + mc) (slots + ms) Q (F0 m (pc + 3) ls (rest))) : W p l e R s m args below meth c H locs cells slots Q (F0 m pc ls st0) := by
  have hPc := va_P.by hP (fun k => (isC[k]?).getD 0) (ws' := wc) (fun k q h => by obtain ⟨i, h1, h2⟩ := va_in_of isC hC h; simp only [h1, Option.getD_some]; exact h2)
  have hFc := va_free (wc := wc) hD hS hA isC hC
  have hDc : va_D (fun _ => True) wc := (hD.sub isC hnC hC).weaken (fun _ _ _ _ => trivial)
  refine va_callv (va_runV (As := As) (rest := rest) ⟨hx, hb, hml, hown, hw⟩ hM (cwV n hw (gV h1 hF.2.1 hF.2.2.1 hF.2.2.2.1 hF.2.2.2.2) rfl hrc hrs hF.1 hR) ⟨PM_blind, va_recv hkn.1 hPc hc he, fun U hU hW => ⟨rfl, by rw [hU], by rw [hU]; exact hPc, hDc, hkn.call hS hFc hU hW⟩⟩ rfl hn hl.1 hst (lv_room h8) hdg hcap) hS (fun q _ h => hFc q h) hFc (fun u t H1 locs1 ht hvm hq hB hz1 hk1 hS1 => ?_)
  obtain ⟨hP1, hD1⟩ := hB
  rw [ht] at hP1
  obtain ⟨hP2, hD2⟩ := va_join (wr := wr) (w1 := w' u) hP hD isC isR hC hRr hn1 hdis hk1 hFc hP1 hD1
  exact kk u H1 locs1 hq hP2 hD2 hS1
theorem cIM {S : Type} {post : S → Prop} {w' : S → va_W} (hx : p.tables.exec = Jvm.exec) (hb : c.code = cc) (hml : c.maxLocals = nL) (hown : s.vm.findClass own = some m.cls) (hw : ∀ w ∈ wsL_law, w.before args s = true) (hkn : Kn g A s) (hS : va_S A s.heap H locs) (hl : lv_has ls nL lv) (hA : ∀ q : Nat, s.heap.size ≤ q → A q) (hP : va_P g.1 vwCl ws0 H) (hD : va_D A ws0) (isC isR : List Nat) (hC : isC.map (fun i => ws0[i]?) = wc.map some) (hRr : isR.map (fun i => ws0[i]?) = wr.map some) (hn1 : va_nd isR = true) (hdis : ∀ i ∈ isR, i ∉ isC) (hnC : va_nd isC = true) (hM : Met l y (Cond.code y bytes maxL none :: wsL_law) rm (PM g (.ref b :: As) wc H.size) (QAv g post w' (va_A wc H.size)) mc ms (va_A wc H.size)) (hF : IF y bytes maxL n) (h1 : Cond.methodLink own index y ∈ wsL_law) (hR : rm.frames + 1 ≤ R.frames ∧ 8 + (maxL + 11) + rm.locals ≤ R.locals) (hrc : rm.cells = mc) (hrs : rm.slots = ms) (hn : As.length = n) (hst : st0 = As.reverse ++ .ref b :: rest) (h8 : (rest.map fun v => v.category).sum ≤ 8) (hdg : decode cc pc = .ok (.invokespecial index, 3)) (hcap : cells + mc ≤ R.cells ∧ slots + ms ≤ R.slots) (kk : ∀ (u : S) (H1 : Heap) (locs1 : List Loc), post u → va_P g.1 vwCl (wr ++ w' u) H1 → va_D A (wr ++ w' u) → va_S A s.heap H1 locs1 → W p l e R s m args below meth c H1 locs1 (cells + mc) (slots + ms) Q (F0 m (pc + 3) ls (rest))) : W p l e R s m args below meth c H locs cells slots Q (F0 m pc ls st0) := by
  have hPc := va_P.by hP (fun k => (isC[k]?).getD 0) (ws' := wc) (fun k q h => by obtain ⟨i, h1, h2⟩ := va_in_of isC hC h; simp only [h1, Option.getD_some]; exact h2)
  have hFc := va_free (wc := wc) hD hS hA isC hC
  have hDc : va_D (fun _ => True) wc := (hD.sub isC hnC hC).weaken (fun _ _ _ _ => trivial)
  refine va_callv (va_runI (As := As) (rest := rest) ⟨hx, hb, hml, hown, hw⟩ hM (cwI n hw (gC hF.2.2.2.2) rfl hrc hrs (hw _ hF.2.2.2.1) (hw _ h1) (hw _ hF.2.2.1) hF.2.1 hF.1 hR) ⟨PM_blind, fun U hU hW => ⟨rfl, by rw [hU], by rw [hU]; exact hPc, hDc, hkn.call hS hFc hU hW⟩⟩ rfl hn hl.1 hst (lv_room h8) hdg hcap) hS (fun q _ h => hFc q h) hFc (fun u t H1 locs1 ht hvm hq hB hz1 hk1 hS1 => ?_)
  obtain ⟨hP1, hD1⟩ := hB
  rw [ht] at hP1
  obtain ⟨hP2, hD2⟩ := va_join (wr := wr) (w1 := w' u) hP hD isC isR hC hRr hn1 hdis hk1 hFc hP1 hD1
  exact kk u H1 locs1 hq hP2 hD2 hS1
theorem cNM {S : Type} {post : S → Prop} {w' : S → va_W} (hx : p.tables.exec = Jvm.exec) (hb : c.code = cc) (hml : c.maxLocals = nL) (hown : s.vm.findClass own = some m.cls) (hw : ∀ w ∈ wsL_law, w.before args s = true) (hkn : Kn g A s) (hS : va_S A s.heap H locs) (hl : lv_has ls nL lv) (hA : ∀ q : Nat, s.heap.size ≤ q → A q) (hP : va_P g.1 vwCl ws0 H) (hD : va_D A ws0) (isC isR : List Nat) (hC : isC.map (fun i => ws0[i]?) = wc.map some) (hRr : isR.map (fun i => ws0[i]?) = wr.map some) (hn1 : va_nd isR = true) (hdis : ∀ i ∈ isR, i ∉ isC) (hnC : va_nd isC = true) (hM : Met l y (Cond.code y bytes maxL none :: wsL_law) rm (PM g (.ref b :: As) wc H.size) (QAv g post w' (va_A wc H.size)) mc ms (va_A wc H.size)) (hF : IF y bytes maxL n) (h1 : va_Nw (.methodLinkNest own index y RX6) s) (hR : rm.frames + 1 ≤ R.frames ∧ 8 + (maxL + 11) + rm.locals ≤ R.locals) (hrc : rm.cells = mc) (hrs : rm.slots = ms) (hn : As.length = n) (hst : st0 = As.reverse ++ .ref b :: rest) (h8 : (rest.map fun v => v.category).sum ≤ 8) (hdg : decode cc pc = .ok (.invokespecial index, 3)) (hcap : cells + mc ≤ R.cells ∧ slots + ms ≤ R.slots) (kk : ∀ (u : S) (H1 : Heap) (locs1 : List Loc), post u → va_P g.1 vwCl (wr ++ w' u) H1 → va_D A (wr ++ w' u) → va_S A s.heap H1 locs1 → W p l e R s m args below meth c H1 locs1 (cells + mc) (slots + ms) Q (F0 m (pc + 3) ls (rest))) : W p l e R s m args below meth c H locs cells slots Q (F0 m pc ls st0) := by
  have hPc := va_P.by hP (fun k => (isC[k]?).getD 0) (ws' := wc) (fun k q h => by obtain ⟨i, h1, h2⟩ := va_in_of isC hC h; simp only [h1, Option.getD_some]; exact h2)
  have hFc := va_free (wc := wc) hD hS hA isC hC
  have hDc : va_D (fun _ => True) wc := (hD.sub isC hnC hC).weaken (fun _ _ _ _ => trivial)
  refine va_callv (va_runIN (As := As) (rest := rest) ⟨hx, hb, hml, hown, hw⟩ hM ⟨va_cnB n hw (gC hF.2.2.2.2) rfl hrc hrs h1 (hw _ hF.2.2.2.1) hF.1 hR, hF.2.1, hw _ hF.2.2.1⟩ ⟨PM_blind, fun U hU hW => ⟨rfl, by rw [hU], by rw [hU]; exact hPc, hDc, hkn.call hS hFc hU hW⟩⟩ rfl hn hl.1 hst (lv_room h8) hdg hcap) hS (fun q _ h => hFc q h) hFc (fun u t H1 locs1 ht hvm hq hB hz1 hk1 hS1 => ?_)
  obtain ⟨hP1, hD1⟩ := hB
  rw [ht] at hP1
  obtain ⟨hP2, hD2⟩ := va_join (wr := wr) (w1 := w' u) hP hD isC isR hC hRr hn1 hdis hk1 hFc hP1 hD1
  exact kk u H1 locs1 hq hP2 hD2 hS1
end Rules
end
section
/-! Facts of the methods for their calls; small rules that the walks use. -/
theorem if_X6_init : IF yX6_init cX6_init 1 0 := ⟨by decide +kernel, rfl, mw_8, mw_2, mw_9⟩
theorem if_X1_init : IF yX1_init cX1_init 1 0 := ⟨by decide +kernel, rfl, mw_38, mw_15, mw_39⟩
theorem if_X4_init : IF yX4_init cX4_init 1 0 := ⟨by decide +kernel, rfl, mw_43, mw_21, mw_44⟩
theorem if_X5_init : IF yX5_init cX5_init 1 0 := ⟨by decide +kernel, rfl, mw_51, mw_33, mw_52⟩
theorem if_X0_init : IF yX0_init cX0_init 1 0 := ⟨by decide +kernel, rfl, mw_56, mw_25, mw_57⟩
theorem if_X3_init : IF yX3_init cX3_init 1 0 := ⟨by decide +kernel, rfl, mw_62, mw_29, mw_63⟩
theorem if_X7_init : IF yX7_init cX7_init 1 0 := ⟨by decide +kernel, rfl, mw_70, mw_5, mw_71⟩
theorem vf_X6_write : VF yX6_write cX6_write 2 (some .int) 1 RX6 := ⟨by decide +kernel, mw_84, mw_85, mw_2, mw_86⟩
theorem vf_X4_add : VF yX4_add cX4_add 2 (some .boolean) 1 RX4 := ⟨by decide +kernel, mw_88, mw_89, mw_21, mw_90⟩
theorem vf_X4_size : VF yX4_size cX4_size 1 (some .int) 0 RX4 := ⟨by decide +kernel, mw_92, mw_93, mw_21, mw_94⟩
theorem vf_X7_write : VF yX7_write cX7_write 2 (some .int) 1 RX7 := ⟨by decide +kernel, mw_96, mw_97, mw_5, mw_98⟩
theorem sf_X7_in : SF yX7_in cX7_in 6 (some .boolean) 3 := ⟨by decide +kernel, mw_102, mw_5, mw_103⟩
theorem vf_X6_wipe : VF yX6_wipe cX6_wipe 2 (some .int) 0 RX6 := ⟨by decide +kernel, mw_105, mw_106, mw_2, mw_107⟩
theorem vf_X4_clear : VF yX4_clear cX4_clear 1 none 0 RX4 := ⟨by decide +kernel, mw_109, mw_110, mw_21, mw_111⟩
theorem vf_X7_wipe : VF yX7_wipe cX7_wipe 2 (some .int) 0 RX7 := ⟨by decide +kernel, mw_113, mw_114, mw_5, mw_115⟩
theorem vf_X6_fault : VF yX6_fault cX6_fault 1 (some .int) 0 RX6 := ⟨by decide +kernel, mw_117, mw_118, mw_2, mw_119⟩
theorem vf_X4_firstFault : VF yX4_firstFault cX4_firstFault 2 (some .int) 0 RX4 := ⟨by decide +kernel, mw_121, mw_122, mw_21, mw_123⟩
theorem vf_X5_start : VF yX5_start cX5_start 1 none 0 RX5 := ⟨by decide +kernel, mw_125, mw_126, mw_33, mw_127⟩
theorem vf_X4_reads : VF yX4_reads cX4_reads 2 (some .boolean) 1 RX4 := ⟨by decide +kernel, mw_129, mw_130, mw_21, mw_131⟩
theorem vf_X5_hasEnded : VF yX5_hasEnded cX5_hasEnded 1 (some .boolean) 0 RX5 := ⟨by decide +kernel, mw_133, mw_134, mw_33, mw_135⟩
theorem vf_X5_cut : VF yX5_cut cX5_cut 1 (some .boolean) 0 RX5 := ⟨by decide +kernel, mw_137, mw_138, mw_33, mw_139⟩
theorem sf_X2_isLeaf : SF yX2_isLeaf cX2_isLeaf 1 (some .boolean) 1 := ⟨by decide +kernel, mw_141, mw_142, mw_143⟩
theorem vf_X5_square : VF yX5_square cX5_square 1 (some .long) 0 RX5 := ⟨by decide +kernel, mw_145, mw_146, mw_33, mw_147⟩
theorem vf_X5_cell : VF yX5_cell cX5_cell 3 (some .int) 0 RX5 := ⟨by decide +kernel, mw_149, mw_150, mw_33, mw_151⟩
theorem sf_X2_squareOf : SF yX2_squareOf cX2_squareOf 4 (some .long) 2 := ⟨by decide +kernel, mw_153, mw_142, mw_154⟩
theorem sf_X2_pattern : SF yX2_pattern cX2_pattern 1 (some .long) 1 := ⟨by decide +kernel, mw_157, mw_142, mw_158⟩
theorem vf_X5_pass : VF yX5_pass cX5_pass 1 none 0 RX5 := ⟨by decide +kernel, mw_163, mw_164, mw_33, mw_165⟩
theorem sf_X5_sizeAt : SF yX5_sizeAt cX5_sizeAt 1 (some .int) 1 := ⟨by decide +kernel, mw_167, mw_33, mw_168⟩
theorem vf_X7_fault : VF yX7_fault cX7_fault 1 (some .int) 0 RX7 := ⟨by decide +kernel, mw_170, mw_171, mw_5, mw_172⟩
theorem vf_X7_readText : VF yX7_readText cX7_readText 3 (some .int) 0 RX7 := ⟨by decide +kernel, mw_174, mw_175, mw_5, mw_176⟩
theorem sf_X7_isLeaf : SF yX7_isLeaf cX7_isLeaf 1 (some .boolean) 1 := ⟨by decide +kernel, mw_182, mw_5, mw_183⟩
theorem sf_X7_paintOf : SF yX7_paintOf cX7_paintOf 9 (some .long) 3 := ⟨by decide +kernel, mw_185, mw_5, mw_186⟩
theorem sf_X7_leftOf : SF yX7_leftOf cX7_leftOf 5 (some .int) 2 := ⟨by decide +kernel, mw_188, mw_5, mw_189⟩
theorem sf_X7_widthAt : SF yX7_widthAt cX7_widthAt 1 (some .int) 1 := ⟨by decide +kernel, mw_191, mw_5, mw_192⟩
theorem sf_X7_lowOf : SF yX7_lowOf cX7_lowOf 5 (some .int) 2 := ⟨by decide +kernel, mw_194, mw_5, mw_195⟩
theorem sf_X7_tells : SF yX7_tells cX7_tells 3 (some .boolean) 3 := ⟨by decide +kernel, mw_197, mw_5, mw_198⟩
theorem vf_X7_goOn : VF yX7_goOn cX7_goOn 1 none 0 RX7 := ⟨by decide +kernel, mw_200, mw_201, mw_5, mw_202⟩
theorem vf_X6_put : VF yX6_put cX6_put 2 (some .int) 1 RX6 := ⟨by decide +kernel, mw_204, mw_205, mw_2, mw_206⟩
theorem sf_X6_isPicture : SF yX6_isPicture cX6_isPicture 1 (some .boolean) 1 := ⟨by decide +kernel, mw_208, mw_2, mw_209⟩
theorem vf_X4_drawn : VF yX4_drawn cX4_drawn 1 (some .long) 0 RX4 := ⟨by decide +kernel, mw_211, mw_212, mw_21, mw_213⟩
theorem vf_X6_change : VF yX6_change cX6_change 4 (some .long) 2 RX6 := ⟨by decide +kernel, mw_215, mw_216, mw_2, mw_217⟩
theorem vf_X1_cells : VF yX1_cells cX1_cells 2 (some .long) 1 RX1 := ⟨by decide +kernel, mw_219, mw_220, mw_15, mw_221⟩
theorem vf_X0_add : VF yX0_add cX0_add 4 none 2 RX0 := ⟨by decide +kernel, mw_223, mw_224, mw_25, mw_225⟩
theorem vf_X0_forgetFirst : VF yX0_forgetFirst cX0_forgetFirst 2 none 0 RX0 := ⟨by decide +kernel, mw_227, mw_228, mw_25, mw_229⟩
theorem vf_X1_set : VF yX1_set cX1_set 4 none 2 RX1 := ⟨by decide +kernel, mw_231, mw_232, mw_15, mw_233⟩
theorem sf_J13_bitCount_95d88 : SF yJ13_bitCount_95d88 cJ13_bitCount_95d88 2 (some .int) 1 := ⟨by decide +kernel, mw_235, mw_236, mw_237⟩
theorem vf_X7_put : VF yX7_put cX7_put 2 (some .int) 1 RX7 := ⟨by decide +kernel, mw_242, mw_243, mw_5, mw_244⟩
theorem sf_X7_isPicture : SF yX7_isPicture cX7_isPicture 1 (some .boolean) 1 := ⟨by decide +kernel, mw_246, mw_5, mw_247⟩
theorem vf_X7_keepAct : VF yX7_keepAct cX7_keepAct 2 none 0 RX7 := ⟨by decide +kernel, mw_249, mw_250, mw_5, mw_251⟩
theorem sf_X7_ones : SF yX7_ones cX7_ones 4 (some .int) 1 := ⟨by decide +kernel, mw_255, mw_5, mw_256⟩
theorem vf_X6_join : VF yX6_join cX6_join 3 (some .int) 2 RX6 := ⟨by decide +kernel, mw_258, mw_259, mw_2, mw_260⟩
theorem vf_X6_combine : VF yX6_combine cX6_combine 4 (some .int) 3 RX6 := ⟨by decide +kernel, mw_262, mw_263, mw_2, mw_264⟩
theorem sf_X2_combined : SF yX2_combined cX2_combined 5 (some .long) 3 := ⟨by decide +kernel, mw_266, mw_142, mw_267⟩
theorem vf_X7_join : VF yX7_join cX7_join 3 (some .int) 2 RX7 := ⟨by decide +kernel, mw_269, mw_270, mw_5, mw_271⟩
theorem vf_X7_mix : VF yX7_mix cX7_mix 4 (some .int) 3 RX7 := ⟨by decide +kernel, mw_273, mw_274, mw_5, mw_275⟩
theorem vf_X7_mixOn : VF yX7_mixOn cX7_mixOn 9 none 4 RX7 := ⟨by decide +kernel, mw_277, mw_278, mw_5, mw_279⟩
theorem vf_X6_meet : VF yX6_meet cX6_meet 3 (some .int) 2 RX6 := ⟨by decide +kernel, mw_282, mw_283, mw_2, mw_284⟩
theorem vf_X7_meet : VF yX7_meet cX7_meet 3 (some .int) 2 RX7 := ⟨by decide +kernel, mw_286, mw_287, mw_5, mw_288⟩
theorem vf_X6_less : VF yX6_less cX6_less 3 (some .int) 2 RX6 := ⟨by decide +kernel, mw_290, mw_291, mw_2, mw_292⟩
theorem vf_X7_less : VF yX7_less cX7_less 3 (some .int) 2 RX7 := ⟨by decide +kernel, mw_294, mw_295, mw_5, mw_296⟩
theorem vf_X6_turn : VF yX6_turn cX6_turn 2 (some .int) 1 RX6 := ⟨by decide +kernel, mw_298, mw_299, mw_2, mw_300⟩
theorem sf_X2_turned : SF yX2_turned cX2_turned 5 (some .long) 1 := ⟨by decide +kernel, mw_302, mw_142, mw_303⟩
theorem sf_X2_isBlack : SF yX2_isBlack cX2_isBlack 3 (some .boolean) 2 := ⟨by decide +kernel, mw_305, mw_142, mw_306⟩
theorem sf_X2_bit : SF yX2_bit cX2_bit 2 (some .long) 2 := ⟨by decide +kernel, mw_308, mw_142, mw_309⟩
theorem sf_X2_lowestRow : SF yX2_lowestRow cX2_lowestRow 2 (some .int) 1 := ⟨by decide +kernel, mw_311, mw_142, mw_312⟩
theorem vf_X7_turn : VF yX7_turn cX7_turn 2 (some .int) 1 RX7 := ⟨by decide +kernel, mw_315, mw_316, mw_5, mw_317⟩
theorem sf_X7_turned : SF yX7_turned cX7_turned 7 (some .long) 1 := ⟨by decide +kernel, mw_319, mw_5, mw_320⟩
theorem sf_X7_is : SF yX7_is cX7_is 4 (some .boolean) 3 := ⟨by decide +kernel, mw_322, mw_5, mw_323⟩
theorem vf_X6_flip : VF yX6_flip cX6_flip 2 (some .int) 1 RX6 := ⟨by decide +kernel, mw_326, mw_327, mw_2, mw_328⟩
theorem sf_X2_flipped : SF yX2_flipped cX2_flipped 5 (some .long) 1 := ⟨by decide +kernel, mw_330, mw_142, mw_331⟩
theorem vf_X7_flip : VF yX7_flip cX7_flip 2 (some .int) 1 RX7 := ⟨by decide +kernel, mw_333, mw_334, mw_5, mw_335⟩
theorem sf_X7_flipped : SF yX7_flipped cX7_flipped 5 (some .long) 1 := ⟨by decide +kernel, mw_337, mw_5, mw_338⟩
theorem vf_X6_halve : VF yX6_halve cX6_halve 3 (some .int) 2 RX6 := ⟨by decide +kernel, mw_340, mw_341, mw_2, mw_342⟩
theorem sf_X6_isQuarter : SF yX6_isQuarter cX6_isQuarter 1 (some .boolean) 1 := ⟨by decide +kernel, mw_344, mw_2, mw_345⟩
theorem sf_X2_halved : SF yX2_halved cX2_halved 7 (some .long) 2 := ⟨by decide +kernel, mw_347, mw_142, mw_348⟩
theorem sf_X2_fourCells : SF yX2_fourCells cX2_fourCells 2 (some .long) 2 := ⟨by decide +kernel, mw_350, mw_142, mw_351⟩
theorem sf_X2_quarterCorner : SF yX2_quarterCorner cX2_quarterCorner 1 (some .int) 1 := ⟨by decide +kernel, mw_355, mw_142, mw_356⟩
theorem vf_X7_halve : VF yX7_halve cX7_halve 3 (some .int) 2 RX7 := ⟨by decide +kernel, mw_358, mw_359, mw_5, mw_360⟩
theorem sf_X7_halved : SF yX7_halved cX7_halved 10 (some .long) 2 := ⟨by decide +kernel, mw_363, mw_5, mw_364⟩
theorem vf_X6_grow : VF yX6_grow cX6_grow 3 (some .int) 2 RX6 := ⟨by decide +kernel, mw_366, mw_367, mw_2, mw_368⟩
theorem sf_X2_grown : SF yX2_grown cX2_grown 7 (some .long) 2 := ⟨by decide +kernel, mw_370, mw_142, mw_371⟩
theorem vf_X7_grow : VF yX7_grow cX7_grow 3 (some .int) 2 RX7 := ⟨by decide +kernel, mw_373, mw_374, mw_5, mw_375⟩
theorem sf_X7_grown : SF yX7_grown cX7_grown 8 (some .long) 2 := ⟨by decide +kernel, mw_377, mw_5, mw_378⟩
theorem vf_X6_undo : VF yX6_undo cX6_undo 1 (some .int) 0 RX6 := ⟨by decide +kernel, mw_380, mw_381, mw_2, mw_382⟩
theorem vf_X0_size : VF yX0_size cX0_size 1 (some .int) 0 RX0 := ⟨by decide +kernel, mw_384, mw_385, mw_25, mw_386⟩
theorem vf_X0_lastPicture : VF yX0_lastPicture cX0_lastPicture 1 (some .int) 0 RX0 := ⟨by decide +kernel, mw_388, mw_389, mw_25, mw_390⟩
theorem vf_X0_lastBefore : VF yX0_lastBefore cX0_lastBefore 1 (some .long) 0 RX0 := ⟨by decide +kernel, mw_392, mw_393, mw_25, mw_394⟩
theorem vf_X0_dropLast : VF yX0_dropLast cX0_dropLast 1 none 0 RX0 := ⟨by decide +kernel, mw_396, mw_397, mw_25, mw_398⟩
theorem vf_X7_undo : VF yX7_undo cX7_undo 2 (some .int) 0 RX7 := ⟨by decide +kernel, mw_400, mw_401, mw_5, mw_402⟩
theorem vf_X6_black : VF yX6_black cX6_black 2 (some .long) 1 RX6 := ⟨by decide +kernel, mw_404, mw_405, mw_2, mw_406⟩
theorem vf_X7_black : VF yX7_black cX7_black 2 (some .long) 1 RX7 := ⟨by decide +kernel, mw_408, mw_409, mw_5, mw_410⟩
theorem vf_X6_look : VF yX6_look cX6_look 5 (some .int) 2 RX6 := ⟨by decide +kernel, mw_412, mw_413, mw_2, mw_414⟩
theorem vf_X5_leastLength : VF yX5_leastLength cX5_leastLength 4 (some .int) 1 RX5 := ⟨by decide +kernel, mw_416, mw_417, mw_33, mw_418⟩
theorem vf_X5_step : VF yX5_step cX5_step 3 none 1 RX5 := ⟨by decide +kernel, mw_422, mw_423, mw_33, mw_424⟩
theorem sf_X2_sign : SF yX2_sign cX2_sign 6 (some .int) 2 := ⟨by decide +kernel, mw_427, mw_142, mw_428⟩
theorem sf_X2_parts : SF yX2_parts cX2_parts 5 (some .int) 1 := ⟨by decide +kernel, mw_432, mw_142, mw_433⟩
theorem sf_X2_partOf : SF yX2_partOf cX2_partOf 9 (some .long) 2 := ⟨by decide +kernel, mw_435, mw_142, mw_436⟩
theorem sf_X2_leftOf : SF yX2_leftOf cX2_leftOf 2 (some .long) 1 := ⟨by decide +kernel, mw_438, mw_142, mw_439⟩
theorem sf_X2_rightOf : SF yX2_rightOf cX2_rightOf 2 (some .long) 1 := ⟨by decide +kernel, mw_442, mw_142, mw_443⟩
theorem sf_X2_rim : SF yX2_rim cX2_rim 2 (some .int) 1 := ⟨by decide +kernel, mw_446, mw_142, mw_447⟩
theorem sf_X2_blocks : SF yX2_blocks cX2_blocks 9 (some .int) 1 := ⟨by decide +kernel, mw_449, mw_142, mw_450⟩
theorem vf_X7_look : VF yX7_look cX7_look 3 (some .int) 2 RX7 := ⟨by decide +kernel, mw_453, mw_454, mw_5, mw_455⟩
theorem vf_X7_findWord : VF yX7_findWord cX7_findWord 4 none 1 RX7 := ⟨by decide +kernel, mw_458, mw_459, mw_5, mw_460⟩
theorem vf_X7_leafOf : VF yX7_leafOf cX7_leafOf 5 (some .int) 1 RX7 := ⟨by decide +kernel, mw_462, mw_463, mw_5, mw_464⟩
theorem sf_X7_maskOf : SF yX7_maskOf cX7_maskOf 2 (some .long) 2 := ⟨by decide +kernel, mw_466, mw_5, mw_467⟩
theorem vf_X7_tellCells : VF yX7_tellCells cX7_tellCells 5 none 1 RX7 := ⟨by decide +kernel, mw_469, mw_470, mw_5, mw_471⟩
theorem sf_X7_partsOf : SF yX7_partsOf cX7_partsOf 9 (some .int) 1 := ⟨by decide +kernel, mw_473, mw_5, mw_474⟩
theorem sf_X7_rimOf : SF yX7_rimOf cX7_rimOf 6 (some .int) 1 := ⟨by decide +kernel, mw_478, mw_5, mw_479⟩
theorem sf_X7_blocksOf : SF yX7_blocksOf cX7_blocksOf 10 (some .int) 1 := ⟨by decide +kernel, mw_481, mw_5, mw_482⟩
theorem vf_X6_letter : VF yX6_letter cX6_letter 3 (some .int) 2 RX6 := ⟨by decide +kernel, mw_484, mw_485, mw_2, mw_486⟩
theorem vf_X5_leastLetter : VF yX5_leastLetter cX5_leastLetter 5 (some .int) 2 RX5 := ⟨by decide +kernel, mw_488, mw_489, mw_33, mw_490⟩
theorem vf_X7_letter : VF yX7_letter cX7_letter 3 (some .int) 2 RX7 := ⟨by decide +kernel, mw_492, mw_493, mw_5, mw_494⟩
theorem vf_X6_at : VF yX6_at cX6_at 6 (some .int) 3 RX6 := ⟨by decide +kernel, mw_496, mw_497, mw_2, mw_498⟩
theorem sf_X6_isCell : SF yX6_isCell cX6_isCell 1 (some .boolean) 1 := ⟨by decide +kernel, mw_500, mw_2, mw_501⟩
theorem sf_X2_depthAt : SF yX2_depthAt cX2_depthAt 4 (some .int) 2 := ⟨by decide +kernel, mw_504, mw_142, mw_505⟩
theorem vf_X7_at : VF yX7_at cX7_at 4 (some .int) 3 RX7 := ⟨by decide +kernel, mw_510, mw_511, mw_5, mw_512⟩
theorem vf_X6_alike : VF yX6_alike cX6_alike 3 (some .int) 2 RX6 := ⟨by decide +kernel, mw_515, mw_516, mw_2, mw_517⟩
theorem sf_X2_waysAlike : SF yX2_waysAlike cX2_waysAlike 6 (some .int) 2 := ⟨by decide +kernel, mw_519, mw_142, mw_520⟩
theorem sf_X2_unlike : SF yX2_unlike cX2_unlike 5 (some .int) 3 := ⟨by decide +kernel, mw_522, mw_142, mw_523⟩
theorem sf_X2_byWay : SF yX2_byWay cX2_byWay 6 (some .long) 2 := ⟨by decide +kernel, mw_525, mw_142, mw_526⟩
theorem vf_X7_alike : VF yX7_alike cX7_alike 3 (some .int) 2 RX7 := ⟨by decide +kernel, mw_530, mw_531, mw_5, mw_532⟩
theorem sf_X7_waysOf : SF yX7_waysOf cX7_waysOf 6 (some .int) 2 := ⟨by decide +kernel, mw_534, mw_5, mw_535⟩
theorem sf_X7_byWay : SF yX7_byWay cX7_byWay 6 (some .long) 2 := ⟨by decide +kernel, mw_537, mw_5, mw_538⟩
theorem vf_X6_near : VF yX6_near cX6_near 5 (some .int) 3 RX6 := ⟨by decide +kernel, mw_540, mw_541, mw_2, mw_542⟩
theorem sf_X2_nearestWay : SF yX2_nearestWay cX2_nearestWay 8 (some .int) 2 := ⟨by decide +kernel, mw_544, mw_142, mw_545⟩
theorem vf_X7_near : VF yX7_near cX7_near 8 (some .int) 3 RX7 := ⟨by decide +kernel, mw_548, mw_549, mw_5, mw_550⟩
theorem vf_X6_judge : VF yX6_judge cX6_judge 6 (some .int) 2 RX6 := ⟨by decide +kernel, mw_552, mw_553, mw_2, mw_554⟩
theorem vf_X6_readsDoings : VF yX6_readsDoings cX6_readsDoings 7 (some .boolean) 2 RX6 := ⟨by decide +kernel, mw_556, mw_557, mw_2, mw_558⟩
theorem vf_X1_copyFrom : VF yX1_copyFrom cX1_copyFrom 3 none 1 RX1 := ⟨by decide +kernel, mw_565, mw_566, mw_15, mw_567⟩
theorem vf_X1_does : VF yX1_does cX1_does 4 (some .boolean) 3 RX1 := ⟨by decide +kernel, mw_571, mw_572, mw_15, mw_573⟩
theorem vf_X1_combines : VF yX1_combines cX1_combines 4 (some .boolean) 3 RX1 := ⟨by decide +kernel, mw_575, mw_576, mw_15, mw_577⟩
theorem vf_X1_moves : VF yX1_moves cX1_moves 5 (some .boolean) 2 RX1 := ⟨by decide +kernel, mw_580, mw_581, mw_15, mw_582⟩
theorem vf_X1_scales : VF yX1_scales cX1_scales 6 (some .boolean) 3 RX1 := ⟨by decide +kernel, mw_586, mw_587, mw_15, mw_588⟩
theorem vf_X7_judge : VF yX7_judge cX7_judge 6 (some .int) 2 RX7 := ⟨by decide +kernel, mw_594, mw_595, mw_5, mw_596⟩
theorem sf_X7_thousandTo : SF yX7_thousandTo cX7_thousandTo 4 (some .long) 1 := ⟨by decide +kernel, mw_600, mw_5, mw_601⟩
theorem vf_X7_layTrial : VF yX7_layTrial cX7_layTrial 2 none 0 RX7 := ⟨by decide +kernel, mw_603, mw_604, mw_5, mw_605⟩
theorem vf_X7_tryThing : VF yX7_tryThing cX7_tryThing 7 (some .boolean) 3 RX7 := ⟨by decide +kernel, mw_607, mw_608, mw_5, mw_609⟩
theorem vf_X6_see : VF yX6_see cX6_see 3 (some .int) 2 RX6 := ⟨by decide +kernel, mw_611, mw_612, mw_2, mw_613⟩
theorem vf_X3_add : VF yX3_add cX3_add 3 (some .boolean) 2 RX3 := ⟨by decide +kernel, mw_615, mw_616, mw_29, mw_617⟩
theorem vf_X3_size : VF yX3_size cX3_size 1 (some .int) 0 RX3 := ⟨by decide +kernel, mw_619, mw_620, mw_29, mw_621⟩
theorem vf_X7_see : VF yX7_see cX7_see 3 (some .int) 2 RX7 := ⟨by decide +kernel, mw_623, mw_624, mw_5, mw_625⟩
theorem vf_X6_unsee : VF yX6_unsee cX6_unsee 2 (some .int) 0 RX6 := ⟨by decide +kernel, mw_628, mw_629, mw_2, mw_630⟩
theorem vf_X3_clear : VF yX3_clear cX3_clear 1 none 0 RX3 := ⟨by decide +kernel, mw_632, mw_633, mw_29, mw_634⟩
theorem vf_X7_unsee : VF yX7_unsee cX7_unsee 2 (some .int) 0 RX7 := ⟨by decide +kernel, mw_636, mw_637, mw_5, mw_638⟩
theorem vf_X6_leaves : VF yX6_leaves cX6_leaves 2 (some .int) 1 RX6 := ⟨by decide +kernel, mw_640, mw_641, mw_2, mw_642⟩
theorem vf_X3_fits : VF yX3_fits cX3_fits 5 (some .int) 0 RX3 := ⟨by decide +kernel, mw_644, mw_645, mw_29, mw_646⟩
theorem vf_X3_isSo : VF yX3_isSo cX3_isSo 5 (some .boolean) 2 RX3 := ⟨by decide +kernel, mw_649, mw_650, mw_29, mw_651⟩
theorem sf_X2_quarterCells : SF yX2_quarterCells cX2_quarterCells 1 (some .long) 1 := ⟨by decide +kernel, mw_653, mw_142, mw_654⟩
theorem vf_X3_firstFit : VF yX3_firstFit cX3_firstFit 4 (some .int) 0 RX3 := ⟨by decide +kernel, mw_658, mw_659, mw_29, mw_660⟩
theorem vf_X3_firstFigure : VF yX3_firstFigure cX3_firstFigure 3 (some .int) 1 RX3 := ⟨by decide +kernel, mw_662, mw_663, mw_29, mw_664⟩
theorem vf_X7_leaves : VF yX7_leaves cX7_leaves 5 (some .int) 1 RX7 := ⟨by decide +kernel, mw_666, mw_667, mw_5, mw_668⟩
theorem vf_X7_mayBe : VF yX7_mayBe cX7_mayBe 8 (some .boolean) 1 RX7 := ⟨by decide +kernel, mw_670, mw_671, mw_5, mw_672⟩
theorem sf_X7_leafLetter : SF yX7_leafLetter cX7_leafLetter 1 (some .int) 1 := ⟨by decide +kernel, mw_674, mw_5, mw_675⟩
theorem sf_X7_figuresOf : SF yX7_figuresOf cX7_figuresOf 1 (some .int) 1 := ⟨by decide +kernel, mw_677, mw_5, mw_678⟩
theorem vf_X6_share : VF yX6_share cX6_share 5 (some .int) 2 RX6 := ⟨by decide +kernel, mw_680, mw_681, mw_2, mw_682⟩
theorem vf_X1_blackIn : VF yX1_blackIn cX1_blackIn 4 (some .int) 1 RX1 := ⟨by decide +kernel, mw_684, mw_685, mw_15, mw_686⟩
theorem sf_X6_sixthsOfCell : SF yX6_sixthsOfCell cX6_sixthsOfCell 1 (some .int) 1 := ⟨by decide +kernel, mw_689, mw_2, mw_690⟩
theorem sf_X6_told : SF yX6_told cX6_told 5 (some .int) 3 := ⟨by decide +kernel, mw_692, mw_2, mw_693⟩
theorem sf_X6_commonDivisor : SF yX6_commonDivisor cX6_commonDivisor 6 (some .int) 2 := ⟨by decide +kernel, mw_695, mw_2, mw_696⟩
theorem vf_X7_share : VF yX7_share cX7_share 6 (some .int) 2 RX7 := ⟨by decide +kernel, mw_698, mw_699, mw_5, mw_700⟩
theorem vf_X7_areaBy : VF yX7_areaBy cX7_areaBy 5 (some .int) 1 RX7 := ⟨by decide +kernel, mw_702, mw_703, mw_5, mw_704⟩
theorem sf_X7_common : SF yX7_common cX7_common 5 (some .int) 2 := ⟨by decide +kernel, mw_706, mw_5, mw_707⟩
theorem vf_X6_rests : VF yX6_rests cX6_rests 7 (some .int) 3 RX6 := ⟨by decide +kernel, mw_709, mw_710, mw_2, mw_711⟩
theorem vf_X6_isRest : VF yX6_isRest cX6_isRest 15 (some .boolean) 4 RX6 := ⟨by decide +kernel, mw_713, mw_714, mw_2, mw_715⟩
theorem sf_X6_gain : SF yX6_gain cX6_gain 6 (some .int) 3 := ⟨by decide +kernel, mw_718, mw_2, mw_719⟩
theorem vf_X7_rests : VF yX7_rests cX7_rests 7 (some .int) 3 RX7 := ⟨by decide +kernel, mw_721, mw_722, mw_5, mw_723⟩
theorem vf_X7_isRest : VF yX7_isRest cX7_isRest 5 (some .boolean) 4 RX7 := ⟨by decide +kernel, mw_725, mw_726, mw_5, mw_727⟩
theorem vf_X7_gain : VF yX7_gain cX7_gain 9 (some .int) 4 RX7 := ⟨by decide +kernel, mw_729, mw_730, mw_5, mw_731⟩
theorem vf_X6_fades : VF yX6_fades cX6_fades 7 (some .int) 4 RX6 := ⟨by decide +kernel, mw_733, mw_734, mw_2, mw_735⟩
theorem sf_X6_areaLeft : SF yX6_areaLeft cX6_areaLeft 5 (some .int) 2 := ⟨by decide +kernel, mw_737, mw_2, mw_738⟩
theorem sf_X6_chanceOf : SF yX6_chanceOf cX6_chanceOf 4 (some .int) 2 := ⟨by decide +kernel, mw_741, mw_2, mw_742⟩
theorem vf_X7_fades : VF yX7_fades cX7_fades 12 (some .int) 4 RX7 := ⟨by decide +kernel, mw_744, mw_745, mw_5, mw_746⟩
theorem vf_X6_seed : VF yX6_seed cX6_seed 5 (some .long) 1 RX6 := ⟨by decide +kernel, mw_750, mw_751, mw_2, mw_752⟩
theorem vf_X7_seed : VF yX7_seed cX7_seed 5 (some .long) 1 RX7 := ⟨by decide +kernel, mw_754, mw_755, mw_5, mw_756⟩
theorem vf_X6_years : VF yX6_years cX6_years 4 (some .int) 1 RX6 := ⟨by decide +kernel, mw_759, mw_760, mw_2, mw_761⟩
theorem vf_X6_passYear : VF yX6_passYear cX6_passYear 2 none 1 RX6 := ⟨by decide +kernel, mw_766, mw_767, mw_2, mw_768⟩
theorem vf_X1_area : VF yX1_area cX1_area 3 (some .int) 0 RX1 := ⟨by decide +kernel, mw_770, mw_771, mw_15, mw_772⟩
theorem vf_X7_years : VF yX7_years cX7_years 5 (some .int) 1 RX7 := ⟨by decide +kernel, mw_775, mw_776, mw_5, mw_777⟩
theorem vf_X7_areaOf : VF yX7_areaOf cX7_areaOf 3 (some .int) 1 RX7 := ⟨by decide +kernel, mw_783, mw_784, mw_5, mw_785⟩
theorem vf_X6_keep : VF yX6_keep cX6_keep 3 (some .int) 1 RX6 := ⟨by decide +kernel, mw_787, mw_788, mw_2, mw_789⟩
theorem vf_X7_keep : VF yX7_keep cX7_keep 3 (some .int) 1 RX7 := ⟨by decide +kernel, mw_791, mw_792, mw_5, mw_793⟩
theorem vf_X6_again : VF yX6_again cX6_again 3 (some .int) 1 RX6 := ⟨by decide +kernel, mw_795, mw_796, mw_2, mw_797⟩
theorem vf_X0_clear : VF yX0_clear cX0_clear 1 none 0 RX0 := ⟨by decide +kernel, mw_799, mw_800, mw_25, mw_801⟩
theorem vf_X7_again : VF yX7_again cX7_again 3 (some .int) 1 RX7 := ⟨by decide +kernel, mw_803, mw_804, mw_5, mw_805⟩
theorem vf_X6_count : VF yX6_count cX6_count 2 (some .int) 1 RX6 := ⟨by decide +kernel, mw_807, mw_808, mw_2, mw_809⟩
theorem vf_X7_count : VF yX7_count cX7_count 2 (some .int) 1 RX7 := ⟨by decide +kernel, mw_811, mw_812, mw_5, mw_813⟩
theorem nt_of {b : Bool} (h : b = false) : ¬ b = true := by rw [h]; decide
theorem sw_out {x : Int32} {lo hi : Int} (h : ∀ k : Int, lo ≤ k → k ≤ hi → ¬ x = Int32.ofInt k) : x.toInt < lo ∨ hi < x.toInt := by
  by_cases h1 : x.toInt < lo
  · exact Or.inl h1
  · by_cases h2 : hi < x.toInt
    · exact Or.inr h2
    · exact absurd (Int32.ofInt_toInt x).symm (h x.toInt (by omega) (by omega))
theorem ne_toInt {x : Int32} {k : Nat} (h : ¬ x = OfNat.ofNat k) (hk : (OfNat.ofNat k : Int32).toInt = (k : Int) := by decide) : ¬ x.toInt = (k : Int) := fun q => h (by
  have h2 := congrArg Int32.ofInt (q.trans hk.symm)
  rw [Int32.ofInt_toInt, Int32.ofInt_toInt] at h2
  exact h2)
theorem ne_toInt2 {x : Int32} {k : Nat} (h : ¬ x = OfNat.ofNat k) (hk : (OfNat.ofNat k : Int32).toInt = (k : Int) := by decide) : ¬ (k : Int) = x.toInt := fun q => ne_toInt h hk q.symm
theorem nI_dec {n : Nat} (h : 0 < n) : nI n + (-1) = nI (n - 1) := by
  obtain ⟨k, rfl⟩ : ∃ k, n = k + 1 := ⟨n - 1, by omega⟩
  exact pk_m1 k
theorem vp_nar_b2i (b : Bool) : vp_nar .boolean (b2i b) = b2i b := by cases b <;> rfl
def jushr (x : Int64) (k : Nat) : Int64 := (x.toUInt64 >>> ((nI k).toInt64.toUInt64 &&& Int64.toUInt64 63)).toInt64
def jshl (x : Int64) (k : Nat) : Int64 := x <<< ((nI k).toInt64 &&& 63)
section NewG
variable {p : Program} {l : Launch} {e : Env} {R : Room} {s : State} {m : MethodId} {args : Array Value} {below : List Frame} {meth : Method} {c : Code} {H : Heap} {locs : List Loc} {cells slots : Nat} {Q : State → Prop}
variable {cc : ByteArray} {pc : Nat} {ls : Array Slot} {rest : List Value} {D : va_G} {cl : List vw_C} {A : Nat → Prop} {tys : List (ClassId × FieldType)} {ws : va_W} {H0 : Heap}
theorem va_newG {t0 : Nat} (hexec : p.tables.exec = Jvm.exec) (hb : c.code = cc) {atype : ArrayType} (harr : (Cond.arrayClass (newarray.typeOf atype)).before args s = true) {ty : FieldType} (hty : newarray.typeOf atype = ty) (hK : va_K D cl tys s) {cA' : ClassId} (ht : tys[t0]? = some (cA', ty)) (hP : va_P D cl ws H) (hD : va_D A ws) (hS : va_S A H0 H locs) (hA : ∀ q, H0.size ≤ q → A q)
    {n : Int32} {N' : Nat} {a0 : vp_A} (ha : ∀ cA : ClassId, vp_cell cA a0 = arrV cA N' (fun _ => defaultValue ty)) (hn : ¬ n < 0) (hN : n.toNatClampNeg = N') (hbytes : N' * componentBytes ty ≤ 536870912) (hcells : cells + 1 ≤ R.cells) (hslots : slots + N' ≤ R.slots) (hdg : decode cc pc = .ok (.newarray atype, 2))
    (kk : ∀ (q : Nat) (H1 : Heap), va_P D cl (ws ++ [(q, .inl (cA', a0))]) H1 → va_D A (ws ++ [(q, .inl (cA', a0))]) → va_S A H0 H1 locs → W p l e R s m args below meth c H1 locs (cells + 1) (slots + N') Q (F0 m (pc + 2) ls (.ref q :: rest))) : W p l e R s m args below meth c H locs cells slots Q (F0 m pc ls (.int n :: rest)) := by
  refine va_newa hexec hb harr hty hK hP hD hS hA ha hn hN hbytes hcells hslots hdg (fun q cA H1 hK1 hP1 hD1 hS1 => ?_)
  have e : cA = cA' := by
    have h1 := (hK1.2 tys.length (cA, ty) (by simp)).2
    have h2 := (hK.2 t0 _ ht).2
    subst hty
    cases atype <;> exact Option.some.inj (h1.symm.trans h2)
  subst e
  exact kk q H1 hP1 hD1 hS1
theorem va_newQ {t0 : Nat} (hexec : p.tables.exec = Jvm.exec) (hb : c.code = cc) {own C : String} {index : Nat} (hown : s.vm.findClass own = some m.cls) (hclink : (Cond.classLink own index C).before args s = true) (hover : va_AO C s) (hK : va_K D cl tys s) {cA' : ClassId} (ht : tys[t0]? = some (cA', .object C)) (hP : va_P D cl ws H) (hD : va_D A ws) (hS : va_S A H0 H locs) (hA : ∀ q, H0.size ≤ q → A q)
    {n : Int32} {N' : Nat} (hn : ¬ n < 0) (hN : n.toNatClampNeg = N') (hbytes : N' * 4 ≤ 536870912) (hcells : cells + 1 ≤ R.cells) (hslots : slots + N' ≤ R.slots) (hdg : decode cc pc = .ok (.anewarray index, 3))
    (kk : ∀ (q : Nat) (H1 : Heap), va_P D cl (ws ++ [(q, .inl (cA', N', .inr (.inr (.inr (.inr (fun _ => none))))))]) H1 → va_D A (ws ++ [(q, .inl (cA', N', .inr (.inr (.inr (.inr (fun _ => none))))))]) → va_S A H0 H1 locs → W p l e R s m args below meth c H1 locs (cells + 1) (slots + N') Q (F0 m (pc + 3) ls (.ref q :: rest))) : W p l e R s m args below meth c H locs cells slots Q (F0 m pc ls (.int n :: rest)) := by
  refine va_newq hexec hb hown hclink hover hK hP hD hS hA hn hN hbytes hcells hslots hdg (fun q cA H1 hK1 hP1 hD1 hS1 => ?_)
  have e : cA = cA' := by
    obtain ⟨_, _, _, _, _, h1⟩ := (hK1.2 tys.length (cA, .object C) (by simp)).2
    obtain ⟨_, _, _, _, _, h2⟩ := (hK.2 t0 _ ht).2
    exact Option.some.inj (h1.symm.trans h2)
  subst e
  exact kk q H1 hP1 hD1 hS1
end NewG
end
section
/-! Bits of longs. -/
def bt (x : Int64) (k : Nat) : Bool := x.toBitVec.getLsbD k
theorem bt_ext {x y : Int64} (h : ∀ k, k < 64 → bt x k = bt y k) : x = y := Int64.toBitVec_inj.mp (BitVec.eq_of_getLsbD_eq (fun i hi => h i hi))
theorem bt_big {x : Int64} {k : Nat} (h : 64 ≤ k) : bt x k = false := BitVec.getLsbD_of_ge _ _ h
theorem bt_and (x y : Int64) (k : Nat) : bt (x &&& y) k = (bt x k && bt y k) := by simp [bt]
theorem bt_or (x y : Int64) (k : Nat) : bt (x ||| y) k = (bt x k || bt y k) := by simp [bt]
theorem bt_xor (x y : Int64) (k : Nat) : bt (x ^^^ y) k = (bt x k ^^ bt y k) := by simp [bt]
theorem bt_0 (k : Nat) : bt 0 k = false := by simp [bt]
theorem bt_m1 {k : Nat} (h : k < 64) : bt (-1) k = true := by
  have : ∀ j : Fin 64, bt (-1) j.val = true := by decide +kernel
  exact this ⟨k, h⟩
theorem bt_not (x : Int64) {k : Nat} (h : k < 64) : bt (x ^^^ (-1)) k = !bt x k := by rw [bt_xor, bt_m1 h]; cases bt x k <;> rfl
theorem su_k {k : Nat} (h : k < 64) : (((nI k).toInt64.toUInt64 &&& Int64.toUInt64 63).toBitVec % 64).toNat = k := by
  have : ∀ j : Fin 64, (((nI j.val).toInt64.toUInt64 &&& Int64.toUInt64 63).toBitVec % 64).toNat = j.val := by decide +kernel
  exact this ⟨k, h⟩
theorem ss_k {k : Nat} (h : k < 64) : (((nI k).toInt64 &&& 63).toBitVec.smod 64).toNat = k := by
  have : ∀ j : Fin 64, (((nI j.val).toInt64 &&& 63).toBitVec.smod 64).toNat = j.val := by decide +kernel
  exact this ⟨k, h⟩
theorem bt_ushr (x : Int64) {k : Nat} (h : k < 64) (j : Nat) : bt (jushr x k) j = bt x (k + j) := by
  show ((x.toUInt64 >>> ((nI k).toInt64.toUInt64 &&& Int64.toUInt64 63)).toInt64).toBitVec.getLsbD j = _
  rw [show ((x.toUInt64 >>> ((nI k).toInt64.toUInt64 &&& Int64.toUInt64 63)).toInt64).toBitVec = x.toBitVec >>> (((nI k).toInt64.toUInt64 &&& Int64.toUInt64 63).toBitVec % 64) from rfl, BitVec.ushiftRight_eq', su_k h, BitVec.getLsbD_ushiftRight]
  rfl
theorem bt_shl (x : Int64) {k : Nat} (h : k < 64) {j : Nat} (hj : j < 64) : bt (jshl x k) j = (decide (k ≤ j) && bt x (j - k)) := by
  show (x <<< ((nI k).toInt64 &&& 63)).toBitVec.getLsbD j = _
  rw [show (x <<< ((nI k).toInt64 &&& 63)).toBitVec = x.toBitVec <<< (((nI k).toInt64 &&& 63).toBitVec.smod 64) from rfl, BitVec.shiftLeft_eq', ss_k h, BitVec.getLsbD_shiftLeft]
  simp only [hj, decide_true, Bool.true_and, bt]
  by_cases q : j < k
  · simp [q, Nat.not_le.mpr q]
  · simp [q, Nat.le_of_not_lt q]
def sh (k : Nat) : Int64 := jshl 1 k
theorem bt_1 (k : Nat) : bt 1 k = decide (k = 0) := by
  by_cases h : k < 64
  · have : ∀ j : Fin 64, bt 1 j.val = decide (j.val = 0) := by decide +kernel
    exact this ⟨k, h⟩
  · rw [bt_big (by omega)]; exact (decide_eq_false (by omega)).symm
theorem bt_sh {k j : Nat} (h : k < 64) (hj : j < 64) : bt (sh k) j = decide (j = k) := by
  unfold sh
  rw [bt_shl 1 h hj, bt_1]
  by_cases q : j = k
  · subst q; simp
  · by_cases r : k ≤ j
    · simp [q, r]; omega
    · simp [q, r]
theorem bit1 (x : Int64) {k : Nat} (h : k < 64) : jushr x k &&& 1 = if bt x k then 1 else 0 := by
  apply bt_ext
  intro j hj
  rw [bt_and, bt_ushr x h, bt_1]
  by_cases q : j = 0
  · subst q
    cases hx : bt x k
    · simp [hx, bt_0]
    · simp [hx, bt_1]
  · simp only [q, decide_false, Bool.and_false]
    cases bt x k
    · simp [bt_0]
    · simp [bt_1, q]
theorem bit1_iff (x : Int64) {k : Nat} (h : k < 64) : (jushr x k &&& 1 = 1) ↔ bt x k = true := by
  rw [bit1 x h]; cases bt x k <;> simp
end
section
/-! Shapes: the small methods. -/
def isLeafB (c : Int32) : Bool := decide (c = 98) || decide (c = 119) || decide (c = 103) || decide (c = 115)
def CHEQ : Int64 := -6172840429334713771
def STRI : Int64 := 71777214294589695
def patS (c : Int32) : Int64 := if c = 98 then -1 else if c = 103 then CHEQ else if c = 115 then STRI else 0
def signS (v sq : Int64) : Int32 := if v &&& sq = sq then 98 else if v &&& sq = 0 then 119 else if v &&& sq = CHEQ &&& sq then 103 else if v &&& sq = STRI &&& sq then 115 else 113
def cmbS (k : Int32) (a b : Int64) : Int64 := if k = 1 then a ||| b else if k = 2 then a &&& b else if k = 3 then a &&& (b ^^^ (-1)) else a
def wi (d : Nat) : Nat := 8 / 2 ^ d - 1
theorem wi_eq {d : Nat} (h : d < 4) : ((8 : Int32) >>> (nI d &&& 31)) - 1 = nI (wi d) := by
  have : ∀ j : Fin 4, ((8 : Int32) >>> (nI j.val &&& 31)) - 1 = nI (wi j.val) := by decide +kernel
  exact this ⟨d, h⟩
def cor (c d : Nat) : Nat := (nI c &&& (nI (8 * wi d + wi d) ^^^ (-1))).toNatClampNeg
theorem cor_eq {c d : Nat} (hc : c < 64) (hd : d < 4) : (nI c &&& (nI (8 * wi d + wi d) ^^^ (-1))) = nI (cor c d) := by
  have : ∀ (j : Fin 4) (i : Fin 64), (nI i.val &&& (nI (8 * wi j.val + wi j.val) ^^^ (-1))) = nI (cor i.val j.val) := by decide +kernel
  exact this ⟨d, hd⟩ ⟨c, hc⟩
theorem cor_lt {c d : Nat} (hc : c < 64) (hd : d < 4) : cor c d < 64 := by
  have : ∀ (j : Fin 4) (i : Fin 64), cor i.val j.val < 64 := by decide +kernel
  exact this ⟨d, hd⟩ ⟨c, hc⟩
def sqS (c d : Nat) : Int64 := jshl (corn d) (cor c d)
def qcn (q : Nat) : Nat := 4 * (q % 2) + 32 * (q / 2)
def qcS (q : Nat) : Int64 := jshl 252645135 (qcn q)
def leS (v : Int64) : Int64 := jushr (v &&& (-72340172838076674)) 1
def riS (v : Int64) : Int64 := jshl (v &&& 9187201950435737471) 1
def b1_ (x : Int64) : Int64 := x - (jushr x 1 &&& 6148914691236517205)
def b2_ (x : Int64) : Int64 := (x &&& 3689348814741910323) + (jushr x 2 &&& 3689348814741910323)
def b3_ (x : Int64) : Int64 := (x + jushr x 4) &&& 1085102592571150095
def b4_ (x : Int64) : Int64 := x + jushr x 8
def b5_ (x : Int64) : Int64 := x + jushr x 16
def b6_ (x : Int64) : Int64 := x + jushr x 32
def bcS (v : Int64) : Int32 := (b6_ (b5_ (b4_ (b3_ (b2_ (b1_ v)))))).toInt32 &&& 127
set_option maxHeartbeats 4000000 in
set_option maxRecDepth 100000 in
theorem c_X2_isBlack (l : Launch) (g : GG) (H : Heap) (v : Int64) (k : Nat) (hk : k < 64) : Met l yX2_isBlack (Cond.code yX2_isBlack cX2_isBlack 3 (some .boolean) :: wsL_law) ({ frames := 0, cells := 0, slots := 0, locals := 0 }) (PR g [.long v, .int (nI k)] H) (QRi (b2i (bt v k)) H) 0 0 NoA := by
  refine Met.R (by decide) (Nat.le_of_ble_eq_true rfl) rfl ?_
  intro p e s m below meth c hx hb hr hml hw hown hlocks hkn hH ls hl
  subst hH
  have hl : lv_has ls 3 [(0, .long v), (2, .int (nI k))] := hl
  have hS : va_S NoA s.heap s.heap [] := va_S.rf
  refine lv_lload_n hx hb dX2_isBlack_0 rfl (lv_at hl 0 rfl) ?_
  refine lv_iload_n hx hb dX2_isBlack_1 rfl (lv_at hl 1 rfl) ?_
  refine lv_lushr (v := (jushr v k)) hx hb dX2_isBlack_2 rfl ?_
  refine lv_lconst (v := 1) hx hb dX2_isBlack_3 rfl ?_
  refine lv_land hx hb dX2_isBlack_4 ?_
  refine lv_lconst (v := 1) hx hb dX2_isBlack_5 rfl ?_
  refine lc_ne (tgt := 14) hx hb dX2_isBlack_6 dX2_isBlack_7 (by decide) (fun c_1 => ?_) (fun c_1 => ?_)
  · skip
    refine lv_iconst (v := 0) hx hb dX2_isBlack_14 (by decide) ?_
    exact eR_z hx hb hr hlocks (by simp [b2i, (bit1_iff v hk).symm, c_1]) dX2_isBlack_15
  · skip
    refine lv_iconst (v := 1) hx hb dX2_isBlack_10 (by decide) ?_
    refine lv_goto (tgt := 15) hx hb dX2_isBlack_11 (by decide) ?_
    exact eR_z hx hb hr hlocks (by simp [b2i, (bit1_iff v hk).symm, c_1]) dX2_isBlack_15
set_option maxHeartbeats 4000000 in
set_option maxRecDepth 100000 in
theorem c_X2_bit (l : Launch) (g : GG) (H : Heap) (x : Nat) (y : Nat)  : Met l yX2_bit (Cond.code yX2_bit cX2_bit 2 (some .long) :: wsL_law) ({ frames := 0, cells := 0, slots := 0, locals := 0 }) (PR g [.int (nI x), .int (nI y)] H) (QRl (sh (8 * y + x)) H) 0 0 NoA := by
  refine Met.R (by decide) (Nat.le_of_ble_eq_true rfl) rfl ?_
  intro p e s m below meth c hx hb hr hml hw hown hlocks hkn hH ls hl
  subst hH
  have hl : lv_has ls 2 [(0, .int (nI x)), (1, .int (nI y))] := hl
  have hS : va_S NoA s.heap s.heap [] := va_S.rf
  refine lv_lconst (v := 1) hx hb dX2_bit_0 rfl ?_
  refine lv_bipush (v := 8) hx hb dX2_bit_1 (by decide) ?_
  refine lv_iload_n hx hb dX2_bit_3 rfl (lv_at hl 1 rfl) ?_
  refine lv_imul hx hb dX2_bit_4 ?_
  refine lv_eqi (pk_mul 8 y) ?_
  refine lv_iload_n hx hb dX2_bit_5 rfl (lv_at hl 0 rfl) ?_
  refine lv_iadd hx hb dX2_bit_6 ?_
  refine lv_eqi (nI_add (8 * y) x) ?_
  refine lv_lshl (v := (jshl 1 (8 * y + x))) hx hb dX2_bit_7 rfl ?_
  exact eR_l hx hb hr hlocks (rfl) dX2_bit_8
set_option maxHeartbeats 4000000 in
set_option maxRecDepth 100000 in
theorem c_X2_lowestRow (l : Launch) (g : GG) (H : Heap) (v : Int64)  : Met l yX2_lowestRow (Cond.code yX2_lowestRow cX2_lowestRow 2 (some .int) :: wsL_law) ({ frames := 0, cells := 0, slots := 0, locals := 0 }) (PR g [.long v] H) (QRi ((v &&& 255).toInt32) H) 0 0 NoA := by
  refine Met.R (by decide) (Nat.le_of_ble_eq_true rfl) rfl ?_
  intro p e s m below meth c hx hb hr hml hw hown hlocks hkn hH ls hl
  subst hH
  have hl : lv_has ls 2 [(0, .long v)] := hl
  have hS : va_S NoA s.heap s.heap [] := va_S.rf
  refine lv_lload_n hx hb dX2_lowestRow_0 rfl (lv_at hl 0 rfl) ?_
  refine lv_ldc2 hx hb hown (hw _ mw_313) dX2_lowestRow_1 ?_
  refine lv_land hx hb dX2_lowestRow_4 ?_
  refine lv_l2i hx hb dX2_lowestRow_5 rfl ?_
  exact eR_i hx hb hr hlocks (rfl) dX2_lowestRow_6
set_option maxHeartbeats 4000000 in
set_option maxRecDepth 100000 in
theorem c_X2_isLeaf (l : Launch) (g : GG) (H : Heap) (c0 : Int32)  : Met l yX2_isLeaf (Cond.code yX2_isLeaf cX2_isLeaf 1 (some .boolean) :: wsL_law) ({ frames := 0, cells := 0, slots := 0, locals := 0 }) (PR g [.int c0] H) (QRi (b2i (isLeafB c0)) H) 0 0 NoA := by
  refine Met.R (by decide) (Nat.le_of_ble_eq_true rfl) rfl ?_
  intro p e s m below meth c hx hb hr hml hw hown hlocks hkn hH ls hl
  subst hH
  have hl : lv_has ls 1 [(0, .int c0)] := hl
  have hS : va_S NoA s.heap s.heap [] := va_S.rf
  refine lv_iload_n hx hb dX2_isLeaf_0 rfl (lv_at hl 0 rfl) ?_
  refine lv_bipush (v := 98) hx hb dX2_isLeaf_1 (by decide) ?_
  refine lv_icmp_eq (tgt := 24) hx hb dX2_isLeaf_3 (by decide) (fun c_1 => ?_) (fun c_1 => ?_)
  · skip
    refine lv_iconst (v := 1) hx hb dX2_isLeaf_24 (by decide) ?_
    refine lv_goto (tgt := 29) hx hb dX2_isLeaf_25 (by decide) ?_
    exact eR_z hx hb hr hlocks (by simp [isLeafB, b2i, c_1]) dX2_isLeaf_29
  · skip
    refine lv_iload_n hx hb dX2_isLeaf_6 rfl (lv_at hl 0 rfl) ?_
    refine lv_bipush (v := 119) hx hb dX2_isLeaf_7 (by decide) ?_
    refine lv_icmp_eq (tgt := 24) hx hb dX2_isLeaf_9 (by decide) (fun c_2 => ?_) (fun c_2 => ?_)
    · skip
      refine lv_iconst (v := 1) hx hb dX2_isLeaf_24 (by decide) ?_
      refine lv_goto (tgt := 29) hx hb dX2_isLeaf_25 (by decide) ?_
      exact eR_z hx hb hr hlocks (by simp [isLeafB, b2i, c_1, c_2]) dX2_isLeaf_29
    · skip
      refine lv_iload_n hx hb dX2_isLeaf_12 rfl (lv_at hl 0 rfl) ?_
      refine lv_bipush (v := 103) hx hb dX2_isLeaf_13 (by decide) ?_
      refine lv_icmp_eq (tgt := 24) hx hb dX2_isLeaf_15 (by decide) (fun c_3 => ?_) (fun c_3 => ?_)
      · skip
        refine lv_iconst (v := 1) hx hb dX2_isLeaf_24 (by decide) ?_
        refine lv_goto (tgt := 29) hx hb dX2_isLeaf_25 (by decide) ?_
        exact eR_z hx hb hr hlocks (by simp [isLeafB, b2i, c_1, c_2, c_3]) dX2_isLeaf_29
      · skip
        refine lv_iload_n hx hb dX2_isLeaf_18 rfl (lv_at hl 0 rfl) ?_
        refine lv_bipush (v := 115) hx hb dX2_isLeaf_19 (by decide) ?_
        refine lv_icmp_ne (tgt := 28) hx hb dX2_isLeaf_21 (by decide) (fun c_4 => ?_) (fun c_4 => ?_)
        · skip
          refine lv_iconst (v := 0) hx hb dX2_isLeaf_28 (by decide) ?_
          exact eR_z hx hb hr hlocks (by simp [isLeafB, b2i, c_1, c_2, c_3, c_4]) dX2_isLeaf_29
        · skip
          refine lv_iconst (v := 1) hx hb dX2_isLeaf_24 (by decide) ?_
          refine lv_goto (tgt := 29) hx hb dX2_isLeaf_25 (by decide) ?_
          exact eR_z hx hb hr hlocks (by simp [isLeafB, b2i, c_1, c_2, c_3, c_4]) dX2_isLeaf_29
set_option maxHeartbeats 4000000 in
set_option maxRecDepth 100000 in
theorem c_X2_pattern (l : Launch) (g : GG) (H : Heap) (c0 : Int32)  : Met l yX2_pattern (Cond.code yX2_pattern cX2_pattern 1 (some .long) :: wsL_law) ({ frames := 0, cells := 0, slots := 0, locals := 0 }) (PR g [.int c0] H) (QRl (patS c0) H) 0 0 NoA := by
  refine Met.R (by decide) (Nat.le_of_ble_eq_true rfl) rfl ?_
  intro p e s m below meth c hx hb hr hml hw hown hlocks hkn hH ls hl
  subst hH
  have hl : lv_has ls 1 [(0, .int c0)] := hl
  have hS : va_S NoA s.heap s.heap [] := va_S.rf
  refine lv_iload_n hx hb dX2_pattern_0 rfl (lv_at hl 0 rfl) ?_
  by_cases c_1 : c0 = 98
  · skip
    refine lv_lookup (off := 35) (tgt := 36) hx hb dX2_pattern_1 (by decide) (by rw [c_1]; decide) (by decide) ?_
    refine lv_ldc2 hx hb hown (hw _ mw_159) dX2_pattern_36 ?_
    exact eR_l hx hb hr hlocks (by unfold patS CHEQ STRI; rw [if_pos c_1]) dX2_pattern_39
  · skip
    by_cases c_2 : c0 = 103
    · skip
      refine lv_lookup (off := 39) (tgt := 40) hx hb dX2_pattern_1 (by decide) (by rw [c_2]; decide) (by decide) ?_
      refine lv_ldc2 hx hb hown (hw _ mw_160) dX2_pattern_40 ?_
      exact eR_l hx hb hr hlocks (by unfold patS CHEQ STRI; rw [if_neg c_1, if_pos c_2]) dX2_pattern_43
    · skip
      by_cases c_3 : c0 = 115
      · skip
        refine lv_lookup (off := 43) (tgt := 44) hx hb dX2_pattern_1 (by decide) (by rw [c_3]; decide) (by decide) ?_
        refine lv_ldc2 hx hb hown (hw _ mw_161) dX2_pattern_44 ?_
        exact eR_l hx hb hr hlocks (by unfold patS CHEQ STRI; rw [if_neg c_1, if_neg c_2, if_pos c_3]) dX2_pattern_47
      · skip
        refine lv_lookup (off := 47) (tgt := 48) hx hb dX2_pattern_1 (by decide) (by simp [Op.lookupswitch.offset_cons, Op.lookupswitch.offset_nil]; rw [if_neg (show ¬ (98 : Int) = c0.toInt from ne_toInt2 c_1), if_neg (show ¬ (103 : Int) = c0.toInt from ne_toInt2 c_2), if_neg (show ¬ (115 : Int) = c0.toInt from ne_toInt2 c_3)]) (by decide) ?_
        refine lv_lconst (v := 0) hx hb dX2_pattern_48 rfl ?_
        exact eR_l hx hb hr hlocks (by unfold patS CHEQ STRI; rw [if_neg c_1, if_neg c_2, if_neg c_3]) dX2_pattern_49
set_option maxHeartbeats 4000000 in
set_option maxRecDepth 100000 in
theorem c_X2_quarterCorner (l : Launch) (g : GG) (H : Heap) (q : Nat) (hq : q < 4) : Met l yX2_quarterCorner (Cond.code yX2_quarterCorner cX2_quarterCorner 1 (some .int) :: wsL_law) ({ frames := 0, cells := 0, slots := 0, locals := 0 }) (PR g [.int (nI q)] H) (QRi (nI (qcn q)) H) 0 0 NoA := by
  refine Met.R (by decide) (Nat.le_of_ble_eq_true rfl) rfl ?_
  intro p e s m below meth c hx hb hr hml hw hown hlocks hkn hH ls hl
  subst hH
  have hl : lv_has ls 1 [(0, .int (nI q))] := hl
  have hS : va_S NoA s.heap s.heap [] := va_S.rf
  refine lv_iconst (v := 4) hx hb dX2_quarterCorner_0 (by decide) ?_
  refine lv_iload_n hx hb dX2_quarterCorner_1 rfl (lv_at hl 0 rfl) ?_
  refine lv_iconst (v := 2) hx hb dX2_quarterCorner_2 (by decide) ?_
  refine lv_irem hx hb dX2_quarterCorner_3 (by decide) ?_
  refine lv_eqi (pk_rem (a := q) (d := 2) (by omega) (by omega) (by omega)) ?_
  refine lv_imul hx hb dX2_quarterCorner_4 ?_
  refine lv_eqi (pk_mul 4 (q % 2)) ?_
  refine lv_bipush (v := 32) hx hb dX2_quarterCorner_5 (by decide) ?_
  refine lv_iload_n hx hb dX2_quarterCorner_7 rfl (lv_at hl 0 rfl) ?_
  refine lv_iconst (v := 2) hx hb dX2_quarterCorner_8 (by decide) ?_
  refine lv_idiv hx hb dX2_quarterCorner_9 (by decide) ?_
  refine lv_eqi (pk_div (a := q) (d := 2) (by omega) (by omega) (by omega)) ?_
  refine lv_imul hx hb dX2_quarterCorner_10 ?_
  refine lv_eqi (pk_mul 32 (q / 2)) ?_
  refine lv_iadd hx hb dX2_quarterCorner_11 ?_
  refine lv_eqi (nI_add (4 * (q % 2)) (32 * (q / 2))) ?_
  exact eR_i hx hb hr hlocks (rfl) dX2_quarterCorner_12
set_option maxHeartbeats 4000000 in
set_option maxRecDepth 100000 in
theorem c_X2_fourCells (l : Launch) (g : GG) (H : Heap) (x : Nat) (y : Nat)  : Met l yX2_fourCells (Cond.code yX2_fourCells cX2_fourCells 2 (some .long) :: wsL_law) ({ frames := 0, cells := 0, slots := 0, locals := 0 }) (PR g [.int (nI x), .int (nI y)] H) (QRl (jshl 771 (16 * y + 2 * x)) H) 0 0 NoA := by
  refine Met.R (by decide) (Nat.le_of_ble_eq_true rfl) rfl ?_
  intro p e s m below meth c hx hb hr hml hw hown hlocks hkn hH ls hl
  subst hH
  have hl : lv_has ls 2 [(0, .int (nI x)), (1, .int (nI y))] := hl
  have hS : va_S NoA s.heap s.heap [] := va_S.rf
  refine lv_ldc2 hx hb hown (hw _ mw_352) dX2_fourCells_0 ?_
  refine lv_bipush (v := 16) hx hb dX2_fourCells_3 (by decide) ?_
  refine lv_iload_n hx hb dX2_fourCells_5 rfl (lv_at hl 1 rfl) ?_
  refine lv_imul hx hb dX2_fourCells_6 ?_
  refine lv_eqi (pk_mul 16 y) ?_
  refine lv_iconst (v := 2) hx hb dX2_fourCells_7 (by decide) ?_
  refine lv_iload_n hx hb dX2_fourCells_8 rfl (lv_at hl 0 rfl) ?_
  refine lv_imul hx hb dX2_fourCells_9 ?_
  refine lv_eqi (pk_mul 2 x) ?_
  refine lv_iadd hx hb dX2_fourCells_10 ?_
  refine lv_eqi (nI_add (16 * y) (2 * x)) ?_
  refine lv_lshl (v := (jshl 771 (16 * y + (2 * x)))) hx hb dX2_fourCells_11 rfl ?_
  exact eR_l hx hb hr hlocks (rfl) dX2_fourCells_12
set_option maxHeartbeats 4000000 in
set_option maxRecDepth 100000 in
theorem c_X2_sign (l : Launch) (g : GG) (H : Heap) (v : Int64) (q : Int64)  : Met l yX2_sign (Cond.code yX2_sign cX2_sign 6 (some .int) :: wsL_law) ({ frames := 0, cells := 0, slots := 0, locals := 0 }) (PR g [.long v, .long q] H) (QRi (signS v q) H) 0 0 NoA := by
  refine Met.R (by decide) (Nat.le_of_ble_eq_true rfl) rfl ?_
  intro p e s m below meth c hx hb hr hml hw hown hlocks hkn hH ls hl
  subst hH
  have hl : lv_has ls 6 [(0, .long v), (2, .long q)] := hl
  have hS : va_S NoA s.heap s.heap [] := va_S.rf
  refine lv_lload_n hx hb dX2_sign_0 rfl (lv_at hl 0 rfl) ?_
  refine lv_lload_n hx hb dX2_sign_1 rfl (lv_at hl 1 rfl) ?_
  refine lv_land hx hb dX2_sign_2 ?_
  refine lv_lstore (lv' := [(4, .long (v &&& q)), (0, .long v), (2, .long q)]) hx hb dX2_sign_3 hl (by decide) rfl (fun ls hl => ?_)
  refine lv_lload hx hb dX2_sign_5 (lv_at hl 0 rfl) ?_
  refine lv_lload_n hx hb dX2_sign_7 rfl (lv_at hl 2 rfl) ?_
  refine lc_ne (tgt := 15) hx hb dX2_sign_8 dX2_sign_9 (by decide) (fun c_1 => ?_) (fun c_1 => ?_)
  · skip
    refine lv_lload hx hb dX2_sign_15 (lv_at hl 0 rfl) ?_
    refine lv_lconst (v := 0) hx hb dX2_sign_17 rfl ?_
    refine lc_ne (tgt := 25) hx hb dX2_sign_18 dX2_sign_19 (by decide) (fun c_2 => ?_) (fun c_2 => ?_)
    · skip
      refine lv_lload hx hb dX2_sign_25 (lv_at hl 0 rfl) ?_
      refine lv_ldc2 hx hb hown (hw _ mw_160) dX2_sign_27 ?_
      refine lv_lload_n hx hb dX2_sign_30 rfl (lv_at hl 2 rfl) ?_
      refine lv_land hx hb dX2_sign_31 ?_
      refine lc_ne (tgt := 39) hx hb dX2_sign_32 dX2_sign_33 (by decide) (fun c_3 => ?_) (fun c_3 => ?_)
      · skip
        refine lv_lload hx hb dX2_sign_39 (lv_at hl 0 rfl) ?_
        refine lv_ldc2 hx hb hown (hw _ mw_161) dX2_sign_41 ?_
        refine lv_lload_n hx hb dX2_sign_44 rfl (lv_at hl 2 rfl) ?_
        refine lv_land hx hb dX2_sign_45 ?_
        refine lc_ne (tgt := 55) hx hb dX2_sign_46 dX2_sign_47 (by decide) (fun c_4 => ?_) (fun c_4 => ?_)
        · skip
          refine lv_bipush (v := 113) hx hb dX2_sign_55 (by decide) ?_
          exact eR_i hx hb hr hlocks (by unfold signS CHEQ STRI; rw [if_neg c_1, if_neg c_2, if_neg c_3, if_neg c_4]) dX2_sign_57
        · skip
          refine lv_bipush (v := 115) hx hb dX2_sign_50 (by decide) ?_
          refine lv_goto (tgt := 57) hx hb dX2_sign_52 (by decide) ?_
          exact eR_i hx hb hr hlocks (by unfold signS CHEQ STRI; rw [if_neg c_1, if_neg c_2, if_neg c_3, if_pos c_4]) dX2_sign_57
      · skip
        refine lv_bipush (v := 103) hx hb dX2_sign_36 (by decide) ?_
        exact eR_i hx hb hr hlocks (by unfold signS CHEQ STRI; rw [if_neg c_1, if_neg c_2, if_pos c_3]) dX2_sign_38
    · skip
      refine lv_bipush (v := 119) hx hb dX2_sign_22 (by decide) ?_
      exact eR_i hx hb hr hlocks (by unfold signS CHEQ STRI; rw [if_neg c_1, if_pos c_2]) dX2_sign_24
  · skip
    refine lv_bipush (v := 98) hx hb dX2_sign_12 (by decide) ?_
    exact eR_i hx hb hr hlocks (by unfold signS CHEQ STRI; rw [if_pos c_1]) dX2_sign_14
set_option maxHeartbeats 4000000 in
set_option maxRecDepth 100000 in
theorem c_X2_combined (l : Launch) (g : GG) (H : Heap) (k : Int32) (a : Int64) (b : Int64)  : Met l yX2_combined (Cond.code yX2_combined cX2_combined 5 (some .long) :: wsL_law) ({ frames := 0, cells := 0, slots := 0, locals := 0 }) (PR g [.int k, .long a, .long b] H) (QRl (cmbS k a b) H) 0 0 NoA := by
  refine Met.R (by decide) (Nat.le_of_ble_eq_true rfl) rfl ?_
  intro p e s m below meth c hx hb hr hml hw hown hlocks hkn hH ls hl
  subst hH
  have hl : lv_has ls 5 [(0, .int k), (1, .long a), (3, .long b)] := hl
  have hS : va_S NoA s.heap s.heap [] := va_S.rf
  refine lv_iload_n hx hb dX2_combined_0 rfl (lv_at hl 0 rfl) ?_
  by_cases c_1 : k = 1
  · skip
    refine lv_tableIn (off := 27) (tgt := 28) hx hb dX2_combined_1 (by rw [c_1]; decide) (by rw [c_1]; decide) (by rw [c_1]; rfl) (by decide) ?_
    refine lv_lload_n hx hb dX2_combined_28 rfl (lv_at hl 1 rfl) ?_
    refine lv_lload_n hx hb dX2_combined_29 rfl (lv_at hl 2 rfl) ?_
    refine lv_lor hx hb dX2_combined_30 ?_
    exact eR_l hx hb hr hlocks (by unfold cmbS; rw [if_pos c_1]) dX2_combined_31
  · skip
    by_cases c_2 : k = 2
    · skip
      refine lv_tableIn (off := 31) (tgt := 32) hx hb dX2_combined_1 (by rw [c_2]; decide) (by rw [c_2]; decide) (by rw [c_2]; rfl) (by decide) ?_
      refine lv_lload_n hx hb dX2_combined_32 rfl (lv_at hl 1 rfl) ?_
      refine lv_lload_n hx hb dX2_combined_33 rfl (lv_at hl 2 rfl) ?_
      refine lv_land hx hb dX2_combined_34 ?_
      exact eR_l hx hb hr hlocks (by unfold cmbS; rw [if_neg c_1, if_pos c_2]) dX2_combined_35
    · skip
      by_cases c_3 : k = 3
      · skip
        refine lv_tableIn (off := 35) (tgt := 36) hx hb dX2_combined_1 (by rw [c_3]; decide) (by rw [c_3]; decide) (by rw [c_3]; rfl) (by decide) ?_
        refine lv_lload_n hx hb dX2_combined_36 rfl (lv_at hl 1 rfl) ?_
        refine lv_lload_n hx hb dX2_combined_37 rfl (lv_at hl 2 rfl) ?_
        refine lv_ldc2 hx hb hown (hw _ mw_159) dX2_combined_38 ?_
        refine lv_lxor hx hb dX2_combined_41 ?_
        refine lv_land hx hb dX2_combined_42 ?_
        exact eR_l hx hb hr hlocks (by unfold cmbS; rw [if_neg c_1, if_neg c_2, if_pos c_3]) dX2_combined_43
      · skip
        refine lv_tableOut (tgt := 44) hx hb dX2_combined_1 (sw_out (lo := 1) (hi := 3) (fun k h1 h2 => by have hk : k = 1 ∨ k = 2 ∨ k = 3 := (by omega); rcases hk with rfl | rfl | rfl <;> assumption)) (by decide) ?_
        refine lv_lload_n hx hb dX2_combined_44 rfl (lv_at hl 1 rfl) ?_
        exact eR_l hx hb hr hlocks (by unfold cmbS; rw [if_neg c_1, if_neg c_2, if_neg c_3]) dX2_combined_45
set_option maxHeartbeats 4000000 in
set_option maxRecDepth 100000 in
theorem c_X2_leftOf (l : Launch) (g : GG) (H : Heap) (v : Int64)  : Met l yX2_leftOf (Cond.code yX2_leftOf cX2_leftOf 2 (some .long) :: wsL_law) ({ frames := 0, cells := 0, slots := 0, locals := 0 }) (PR g [.long v] H) (QRl (leS v) H) 0 0 NoA := by
  refine Met.R (by decide) (Nat.le_of_ble_eq_true rfl) rfl ?_
  intro p e s m below meth c hx hb hr hml hw hown hlocks hkn hH ls hl
  subst hH
  have hl : lv_has ls 2 [(0, .long v)] := hl
  have hS : va_S NoA s.heap s.heap [] := va_S.rf
  refine lv_lload_n hx hb dX2_leftOf_0 rfl (lv_at hl 0 rfl) ?_
  refine lv_ldc2 hx hb hown (hw _ mw_440) dX2_leftOf_1 ?_
  refine lv_land hx hb dX2_leftOf_4 ?_
  refine lv_iconst (v := 1) hx hb dX2_leftOf_5 (by decide) ?_
  refine lv_lushr (v := (jushr (v &&& (-72340172838076674)) 1)) hx hb dX2_leftOf_6 rfl ?_
  exact eR_l hx hb hr hlocks (rfl) dX2_leftOf_7
set_option maxHeartbeats 4000000 in
set_option maxRecDepth 100000 in
theorem c_X2_rightOf (l : Launch) (g : GG) (H : Heap) (v : Int64)  : Met l yX2_rightOf (Cond.code yX2_rightOf cX2_rightOf 2 (some .long) :: wsL_law) ({ frames := 0, cells := 0, slots := 0, locals := 0 }) (PR g [.long v] H) (QRl (riS v) H) 0 0 NoA := by
  refine Met.R (by decide) (Nat.le_of_ble_eq_true rfl) rfl ?_
  intro p e s m below meth c hx hb hr hml hw hown hlocks hkn hH ls hl
  subst hH
  have hl : lv_has ls 2 [(0, .long v)] := hl
  have hS : va_S NoA s.heap s.heap [] := va_S.rf
  refine lv_lload_n hx hb dX2_rightOf_0 rfl (lv_at hl 0 rfl) ?_
  refine lv_ldc2 hx hb hown (hw _ mw_444) dX2_rightOf_1 ?_
  refine lv_land hx hb dX2_rightOf_4 ?_
  refine lv_iconst (v := 1) hx hb dX2_rightOf_5 (by decide) ?_
  refine lv_lshl (v := (jshl (v &&& 9187201950435737471) 1)) hx hb dX2_rightOf_6 rfl ?_
  exact eR_l hx hb hr hlocks (rfl) dX2_rightOf_7
set_option maxHeartbeats 4000000 in
set_option maxRecDepth 100000 in
theorem c_X2_squareOf (l : Launch) (g : GG) (H : Heap) (k : Nat) (d : Nat) (hk : k < 64) (hd : d < 4) : Met l yX2_squareOf (Cond.code yX2_squareOf cX2_squareOf 4 (some .long) :: wsL_law) ({ frames := 0, cells := 0, slots := 0, locals := 0 }) (PR g [.int (nI k), .int (nI d)] H) (QRl (sqS k d) H) 0 0 NoA := by
  refine Met.R (by decide) (Nat.le_of_ble_eq_true rfl) rfl ?_
  intro p e s m below meth c hx hb hr hml hw hown hlocks hkn hH ls hl
  subst hH
  have hl : lv_has ls 4 [(0, .int (nI k)), (1, .int (nI d))] := hl
  have hS : va_S NoA s.heap s.heap [] := va_S.rf
  refine lv_iload_n hx hb dX2_squareOf_0 rfl (lv_at hl 1 rfl) ?_
  refine lv_if_lt (tgt := 9) hx hb dX2_squareOf_1 (by decide) (fun c_1 => ?_) (fun c_1 => ?_)
  · skip
    exact absurd c_1 (nI_pos (by omega))
  · skip
    refine lv_iload_n hx hb dX2_squareOf_4 rfl (lv_at hl 1 rfl) ?_
    refine lv_iconst (v := 3) hx hb dX2_squareOf_5 (by decide) ?_
    refine ic_le (a := d) (d := 3) (tgt := 11) hx hb dX2_squareOf_6 (by decide) rfl rfl (by omega) (by omega) (fun c_2 => ?_) (fun c_2 => ?_)
    · skip
      refine lv_bipush (v := 8) hx hb dX2_squareOf_11 (by decide) ?_
      refine lv_iload_n hx hb dX2_squareOf_13 rfl (lv_at hl 1 rfl) ?_
      refine lv_ishr hx hb dX2_squareOf_14 ?_
      refine lv_iconst (v := 1) hx hb dX2_squareOf_15 (by decide) ?_
      refine lv_isub hx hb dX2_squareOf_16 ?_
      refine lv_eqi (show _ = (nI (wi d)) from wi_eq hd) ?_
      refine lv_istore_n (lv' := [(2, .int (nI (wi d))), (0, .int (nI k)), (1, .int (nI d))]) hx hb dX2_squareOf_17 rfl hl (by decide) rfl (fun ls hl => ?_)
      refine lv_iload_n hx hb dX2_squareOf_18 rfl (lv_at hl 1 rfl) ?_
      refine lv_bipush (v := 8) hx hb dX2_squareOf_19 (by decide) ?_
      refine lv_iload_n hx hb dX2_squareOf_21 rfl (lv_at hl 0 rfl) ?_
      refine lv_imul hx hb dX2_squareOf_22 ?_
      refine lv_eqi (pk_mul 8 (wi d)) ?_
      refine lv_iload_n hx hb dX2_squareOf_23 rfl (lv_at hl 0 rfl) ?_
      refine lv_iadd hx hb dX2_squareOf_24 ?_
      refine lv_eqi (nI_add (8 * (wi d)) (wi d)) ?_
      refine lv_iconst (v := (-1)) hx hb dX2_squareOf_25 (by decide) ?_
      refine lv_ixor hx hb dX2_squareOf_26 ?_
      refine lv_iand hx hb dX2_squareOf_27 ?_
      refine lv_eqi (show _ = (nI (cor k d)) from cor_eq hk hd) ?_
      refine lv_istore_n (lv' := [(3, .int (nI (cor k d))), (2, .int (nI (wi d))), (0, .int (nI k)), (1, .int (nI d))]) hx hb dX2_squareOf_28 rfl hl (by decide) rfl (fun ls hl => ?_)
      refine va_gets hx hb hkn.2.2.2.1.1 hS hown (hw _ mw_155) (fun _ h => h) dX2_squareOf_29 ?_
      refine lv_iload_n hx hb dX2_squareOf_32 rfl (lv_at hl 3 rfl) ?_
      refine va_tl (v := .long (corn d)) hx hb hkn.2.2.2.1.2 hS (vp_in_nI (n := d) (by omega) (by decide)) (by rw [nI_clamp (by omega)]; rfl) dX2_squareOf_33 ?_
      refine lv_iload_n hx hb dX2_squareOf_34 rfl (lv_at hl 0 rfl) ?_
      refine lv_lshl (v := (jshl (corn d) (cor k d))) hx hb dX2_squareOf_35 rfl ?_
      exact eR_l hx hb hr hlocks (rfl) dX2_squareOf_36
    · skip
      exact absurd c_2 (by omega)
set_option maxHeartbeats 4000000 in
set_option maxRecDepth 100000 in
theorem c_X2_quarterCells (l : Launch) (g : GG) (H : Heap) (q : Nat) (hq : q < 4) : Met l yX2_quarterCells (Cond.code yX2_quarterCells cX2_quarterCells 1 (some .long) :: wsL_law) ({ frames := 1, cells := 0, slots := 0, locals := 20 }) (PR g [.int (nI q)] H) (QRl (qcS q) H) 0 0 NoA := by
  refine Met.R (by decide) (Nat.le_of_ble_eq_true rfl) rfl ?_
  intro p e s m below meth c hx hb hr hml hw hown hlocks hkn hH ls hl
  subst hH
  have hl : lv_has ls 1 [(0, .int (nI q))] := hl
  have hS : va_S NoA s.heap s.heap [] := va_S.rf
  refine va_gets hx hb hkn.2.2.2.1.1 hS hown (hw _ mw_155) (fun _ h => h) dX2_quarterCells_0 ?_
  refine lv_iconst (v := 1) hx hb dX2_quarterCells_3 (by decide) ?_
  refine va_tl (v := .long (corn 1)) hx hb hkn.2.2.2.1.2 hS (vp_in_nI (n := 1) (by omega) (by decide)) (rfl) dX2_quarterCells_4 ?_
  refine lv_iload_n hx hb dX2_quarterCells_5 rfl (lv_at hl 0 rfl) ?_
  refine cS_i (As := [.int (nI q)]) (rest := [.long (corn 1)]) hx hb hml hown hw hkn hS hl (c_X2_quarterCorner l g _ q (by omega)) sf_X2_quarterCorner mw_354 ⟨(Nat.le_of_ble_eq_true rfl), (Nat.le_of_ble_eq_true rfl)⟩ rfl rfl rfl rfl (Nat.le_of_ble_eq_true rfl) dX2_quarterCells_6 ⟨(Nat.le_of_ble_eq_true rfl), (Nat.le_of_ble_eq_true rfl)⟩ ?_
  refine lv_lshl (v := (jshl (corn 1) (qcn q))) hx hb dX2_quarterCells_9 rfl ?_
  exact eR_l hx hb hr hlocks (rfl) dX2_quarterCells_10
set_option maxHeartbeats 4000000 in
set_option maxRecDepth 100000 in
theorem c_J13_bitCount_95d88 (l : Launch) (g : GG) (H : Heap) (v : Int64)  : Met l yJ13_bitCount_95d88 (Cond.code yJ13_bitCount_95d88 cJ13_bitCount_95d88 2 (some .int) :: wsL_law) ({ frames := 0, cells := 0, slots := 0, locals := 0 }) (PR g [.long v] H) (QRi (bcS v) H) 0 0 NoA := by
  refine Met.R (by decide) (Nat.le_of_ble_eq_true rfl) rfl ?_
  intro p e s m below meth c hx hb hr hml hw hown hlocks hkn hH ls hl
  subst hH
  have hl : lv_has ls 2 [(0, .long v)] := hl
  have hS : va_S NoA s.heap s.heap [] := va_S.rf
  refine lv_lload_n hx hb dJ13_bitCount_95d88_0 rfl (lv_at hl 0 rfl) ?_
  refine lv_lload_n hx hb dJ13_bitCount_95d88_1 rfl (lv_at hl 0 rfl) ?_
  refine lv_iconst (v := 1) hx hb dJ13_bitCount_95d88_2 (by decide) ?_
  refine lv_lushr (v := (jushr v 1)) hx hb dJ13_bitCount_95d88_3 rfl ?_
  refine lv_ldc2 hx hb hown (hw _ mw_238) dJ13_bitCount_95d88_4 ?_
  refine lv_land hx hb dJ13_bitCount_95d88_7 ?_
  refine lv_lsub hx hb dJ13_bitCount_95d88_8 ?_
  refine lv_eql (show _ = (b1_ v) from rfl) ?_
  refine lv_lstore_n (lv' := [(0, .long (b1_ v))]) hx hb dJ13_bitCount_95d88_9 rfl hl (by decide) rfl (fun ls hl => ?_)
  refine lv_lload_n hx hb dJ13_bitCount_95d88_10 rfl (lv_at hl 0 rfl) ?_
  refine lv_ldc2 hx hb hown (hw _ mw_239) dJ13_bitCount_95d88_11 ?_
  refine lv_land hx hb dJ13_bitCount_95d88_14 ?_
  refine lv_lload_n hx hb dJ13_bitCount_95d88_15 rfl (lv_at hl 0 rfl) ?_
  refine lv_iconst (v := 2) hx hb dJ13_bitCount_95d88_16 (by decide) ?_
  refine lv_lushr (v := (jushr (b1_ v) 2)) hx hb dJ13_bitCount_95d88_17 rfl ?_
  refine lv_ldc2 hx hb hown (hw _ mw_239) dJ13_bitCount_95d88_18 ?_
  refine lv_land hx hb dJ13_bitCount_95d88_21 ?_
  refine lv_ladd hx hb dJ13_bitCount_95d88_22 ?_
  refine lv_eql (show _ = (b2_ (b1_ v)) from rfl) ?_
  refine lv_lstore_n (lv' := [(0, .long (b2_ (b1_ v)))]) hx hb dJ13_bitCount_95d88_23 rfl hl (by decide) rfl (fun ls hl => ?_)
  refine lv_lload_n hx hb dJ13_bitCount_95d88_24 rfl (lv_at hl 0 rfl) ?_
  refine lv_lload_n hx hb dJ13_bitCount_95d88_25 rfl (lv_at hl 0 rfl) ?_
  refine lv_iconst (v := 4) hx hb dJ13_bitCount_95d88_26 (by decide) ?_
  refine lv_lushr (v := (jushr (b2_ (b1_ v)) 4)) hx hb dJ13_bitCount_95d88_27 rfl ?_
  refine lv_ladd hx hb dJ13_bitCount_95d88_28 ?_
  refine lv_ldc2 hx hb hown (hw _ mw_240) dJ13_bitCount_95d88_29 ?_
  refine lv_land hx hb dJ13_bitCount_95d88_32 ?_
  refine lv_eql (show _ = (b3_ (b2_ (b1_ v))) from rfl) ?_
  refine lv_lstore_n (lv' := [(0, .long (b3_ (b2_ (b1_ v))))]) hx hb dJ13_bitCount_95d88_33 rfl hl (by decide) rfl (fun ls hl => ?_)
  refine lv_lload_n hx hb dJ13_bitCount_95d88_34 rfl (lv_at hl 0 rfl) ?_
  refine lv_lload_n hx hb dJ13_bitCount_95d88_35 rfl (lv_at hl 0 rfl) ?_
  refine lv_bipush (v := 8) hx hb dJ13_bitCount_95d88_36 (by decide) ?_
  refine lv_lushr (v := (jushr (b3_ (b2_ (b1_ v))) 8)) hx hb dJ13_bitCount_95d88_38 rfl ?_
  refine lv_ladd hx hb dJ13_bitCount_95d88_39 ?_
  refine lv_eql (show _ = (b4_ (b3_ (b2_ (b1_ v)))) from rfl) ?_
  refine lv_lstore_n (lv' := [(0, .long (b4_ (b3_ (b2_ (b1_ v)))))]) hx hb dJ13_bitCount_95d88_40 rfl hl (by decide) rfl (fun ls hl => ?_)
  refine lv_lload_n hx hb dJ13_bitCount_95d88_41 rfl (lv_at hl 0 rfl) ?_
  refine lv_lload_n hx hb dJ13_bitCount_95d88_42 rfl (lv_at hl 0 rfl) ?_
  refine lv_bipush (v := 16) hx hb dJ13_bitCount_95d88_43 (by decide) ?_
  refine lv_lushr (v := (jushr (b4_ (b3_ (b2_ (b1_ v)))) 16)) hx hb dJ13_bitCount_95d88_45 rfl ?_
  refine lv_ladd hx hb dJ13_bitCount_95d88_46 ?_
  refine lv_eql (show _ = (b5_ (b4_ (b3_ (b2_ (b1_ v))))) from rfl) ?_
  refine lv_lstore_n (lv' := [(0, .long (b5_ (b4_ (b3_ (b2_ (b1_ v))))))]) hx hb dJ13_bitCount_95d88_47 rfl hl (by decide) rfl (fun ls hl => ?_)
  refine lv_lload_n hx hb dJ13_bitCount_95d88_48 rfl (lv_at hl 0 rfl) ?_
  refine lv_lload_n hx hb dJ13_bitCount_95d88_49 rfl (lv_at hl 0 rfl) ?_
  refine lv_bipush (v := 32) hx hb dJ13_bitCount_95d88_50 (by decide) ?_
  refine lv_lushr (v := (jushr (b5_ (b4_ (b3_ (b2_ (b1_ v))))) 32)) hx hb dJ13_bitCount_95d88_52 rfl ?_
  refine lv_ladd hx hb dJ13_bitCount_95d88_53 ?_
  refine lv_eql (show _ = (b6_ (b5_ (b4_ (b3_ (b2_ (b1_ v)))))) from rfl) ?_
  refine lv_lstore_n (lv' := [(0, .long (b6_ (b5_ (b4_ (b3_ (b2_ (b1_ v)))))))]) hx hb dJ13_bitCount_95d88_54 rfl hl (by decide) rfl (fun ls hl => ?_)
  refine lv_lload_n hx hb dJ13_bitCount_95d88_55 rfl (lv_at hl 0 rfl) ?_
  refine lv_l2i hx hb dJ13_bitCount_95d88_56 rfl ?_
  refine lv_bipush (v := 127) hx hb dJ13_bitCount_95d88_57 (by decide) ?_
  refine lv_iand hx hb dJ13_bitCount_95d88_59 ?_
  exact eR_i hx hb hr hlocks (rfl) dJ13_bitCount_95d88_60
end
section
def fb_ct (p : Nat → Bool) : Nat → Nat
  | 0 => 0
  | n + 1 => fb_ct p n + (if p n then 1 else 0)
theorem fb_ct_succ (p : Nat → Bool) (n : Nat) : fb_ct p (n + 1) = fb_ct p n + (if p n then 1 else 0) := rfl
theorem fb_ct_le (p : Nat → Bool) : ∀ n, fb_ct p n ≤ n
  | 0 => Nat.le_refl _
  | n + 1 => by
    have h := fb_ct_le p n
    rw [fb_ct_succ]
    split <;> omega
theorem fb_ct_step (p : Nat → Bool) (m : Nat) : ∀ n, fb_ct p m ≤ fb_ct p (m + n)
  | 0 => Nat.le_refl _
  | n + 1 => by
    have h := fb_ct_step p m n
    show fb_ct p m ≤ fb_ct p (m + n + 1)
    rw [fb_ct_succ]
    omega
theorem fb_ct_mono (p : Nat → Bool) {m n : Nat} (h : m ≤ n) : fb_ct p m ≤ fb_ct p n := by
  have := fb_ct_step p m (n - m)
  rwa [Nat.add_sub_cancel' h] at this
theorem fb_ct_cong {p q : Nat → Bool} : ∀ {n : Nat}, (∀ k, k < n → p k = q k) → fb_ct p n = fb_ct q n
  | 0, _ => rfl
  | n + 1, h => by
    rw [fb_ct_succ, fb_ct_succ, fb_ct_cong (fun k hk => h k (by omega)), h n (by omega)]
/-- one place changed -/
theorem fb_ct_out (p : Nat → Bool) (b : Bool) {i n : Nat} (h : n ≤ i) : fb_ct (fun k => if k = i then b else p k) n = fb_ct p n :=
  fb_ct_cong fun k hk => if_neg (by omega)
theorem fb_ct_upd (p : Nat → Bool) (b : Bool) {i : Nat} : ∀ {n : Nat}, i < n → fb_ct (fun k => if k = i then b else p k) n + (if p i then 1 else 0) = fb_ct p n + (if b then 1 else 0)
  | 0, h => absurd h (Nat.not_lt_zero i)
  | n + 1, h => by
    rw [fb_ct_succ, fb_ct_succ]
    rcases Nat.lt_or_ge i n with q | q
    · have := fb_ct_upd p b q
      have e : (if n = i then b else p n) = p n := if_neg (by omega)
      rw [e]
      omega
    · have e : i = n := by omega
      subst e
      rw [fb_ct_out p b (Nat.le_refl _)]
      simp only [if_true]
      omega
theorem fb_ct_sub {p q : Nat → Bool} : ∀ {n : Nat}, (∀ k, k < n → p k = true → q k = true) → fb_ct p n ≤ fb_ct q n
  | 0, _ => Nat.le_refl _
  | n + 1, h => by
    have h1 := fb_ct_sub (n := n) (p := p) (q := q) (fun k hk => h k (by omega))
    have h2 := h n (by omega)
    rw [fb_ct_succ, fb_ct_succ]
    cases hp : p n <;> cases hq : q n <;> simp_all <;> omega
theorem fb_ct_or {p q : Nat → Bool} : ∀ {n : Nat}, (∀ k, k < n → ¬ (p k = true ∧ q k = true)) → fb_ct (fun k => p k || q k) n = fb_ct p n + fb_ct q n
  | 0, _ => rfl
  | n + 1, h => by
    have h1 := fb_ct_or (n := n) (p := p) (q := q) (fun k hk => h k (by omega))
    have h2 := h n (by omega)
    rw [fb_ct_succ, fb_ct_succ, fb_ct_succ, h1]
    cases hp : p n <;> cases hq : q n <;> simp_all <;> omega
theorem fb_ct_not (p : Nat → Bool) : ∀ n, fb_ct p n + fb_ct (fun k => !p k) n = n
  | 0 => rfl
  | n + 1 => by
    have h := fb_ct_not p n
    rw [fb_ct_succ, fb_ct_succ]
    cases p n <;> simp <;> omega
theorem fb_ct_split (p : Nat → Bool) (m : Nat) : ∀ n, fb_ct p (m + n) = fb_ct p m + fb_ct (fun k => p (m + k)) n
  | 0 => rfl
  | n + 1 => by
    have h := fb_ct_split p m n
    show fb_ct p (m + n + 1) = _
    rw [fb_ct_succ, fb_ct_succ, h, Nat.add_assoc]
theorem fb_ct_zero {p : Nat → Bool} : ∀ {n : Nat}, fb_ct p n = 0 ↔ ∀ k, k < n → p k = false
  | 0 => ⟨fun _ k hk => absurd hk (Nat.not_lt_zero k), fun _ => rfl⟩
  | n + 1 => by
    have h := fb_ct_zero (p := p) (n := n)
    rw [fb_ct_succ]
    constructor
    · intro e k hk
      have e1 : fb_ct p n = 0 := by omega
      rcases Nat.lt_or_ge k n with q | q
      · exact h.mp e1 k q
      · have ek : k = n := by omega
        subst ek
        cases hp : p k
        · rfl
        · simp [hp] at e
    · intro a
      rw [h.mpr (fun k hk => a k (by omega)), a n (by omega)]
      rfl
theorem fb_ct_pos {p : Nat → Bool} {n : Nat} : 0 < fb_ct p n ↔ ∃ k, k < n ∧ p k = true := by
  constructor
  · intro h
    refine Classical.byContradiction fun hx => ?_
    have := fb_ct_zero.mpr (fun k hk => by
      cases hp : p k
      · rfl
      · exact absurd ⟨k, hk, hp⟩ hx : ∀ k, k < n → p k = false)
    omega
  · rintro ⟨k, hk, hp⟩
    rcases Nat.eq_zero_or_pos (fb_ct p n) with e | e
    · have := fb_ct_zero.mp e k hk
      rw [this] at hp
      cases hp
    · exact e
theorem fb_ct_all {p : Nat → Bool} {n : Nat} : fb_ct p n = n ↔ ∀ k, k < n → p k = true := by
  have h := fb_ct_not p n
  constructor
  · intro e k hk
    have z : fb_ct (fun k => !p k) n = 0 := by omega
    have := fb_ct_zero.mp z k hk
    cases hp : p k
    · simp [hp] at this
    · rfl
  · intro a
    have z : fb_ct (fun k => !p k) n = 0 := fb_ct_zero.mpr (fun k hk => by simp [a k hk])
    omega
/-- the k-th place with the property -/
theorem fb_ct_kth {p : Nat → Bool} {k : Nat} : ∀ {n : Nat}, k < fb_ct p n → ∃ i, i < n ∧ p i = true ∧ fb_ct p i = k
  | 0, h => absurd h (Nat.not_lt_zero k)
  | n + 1, h => by
    rcases Nat.lt_or_ge k (fb_ct p n) with q | q
    · obtain ⟨i, h1, h2⟩ := fb_ct_kth q
      exact ⟨i, by omega, h2⟩
    · rw [fb_ct_succ] at h
      cases hp : p n
      · simp [hp] at h; omega
      · simp [hp] at h
        exact ⟨n, by omega, hp, by omega⟩
theorem fb_ct_kth_one {p : Nat → Bool} {i j : Nat} (hi : p i = true) (hj : p j = true) (e : fb_ct p i = fb_ct p j) : i = j := by
  have key : ∀ a b : Nat, a < b → p a = true → fb_ct p a < fb_ct p b := by
    intro a b hab ha
    have h := fb_ct_mono p (show a + 1 ≤ b from hab)
    rw [fb_ct_succ, ha] at h
    simp at h
    omega
  rcases Nat.lt_trichotomy i j with q | q | q
  · have := key i j q hi; omega
  · exact q
  · have := key j i q hj; omega
/-! ===== sums over a range: one place changed, parts, bounds ===== -/
def fb_sm (f : Nat → Nat) : Nat → Nat
  | 0 => 0
  | n + 1 => fb_sm f n + f n
theorem fb_sm_succ (f : Nat → Nat) (n : Nat) : fb_sm f (n + 1) = fb_sm f n + f n := rfl
theorem fb_sm_cong {f g : Nat → Nat} : ∀ {n : Nat}, (∀ k, k < n → f k = g k) → fb_sm f n = fb_sm g n
  | 0, _ => rfl
  | n + 1, h => by rw [fb_sm_succ, fb_sm_succ, fb_sm_cong (fun k hk => h k (by omega)), h n (by omega)]
theorem fb_sm_out (f : Nat → Nat) (v : Nat) {i n : Nat} (h : n ≤ i) : fb_sm (fun k => if k = i then v else f k) n = fb_sm f n :=
  fb_sm_cong fun k hk => if_neg (by omega)
theorem fb_sm_upd (f : Nat → Nat) (v : Nat) {i : Nat} : ∀ {n : Nat}, i < n → fb_sm (fun k => if k = i then v else f k) n + f i = fb_sm f n + v
  | 0, h => absurd h (Nat.not_lt_zero i)
  | n + 1, h => by
    rw [fb_sm_succ, fb_sm_succ]
    rcases Nat.lt_or_ge i n with q | q
    · have := fb_sm_upd f v q
      have e : (if n = i then v else f n) = f n := if_neg (by omega)
      rw [e]
      omega
    · have e : i = n := by omega
      subst e
      rw [fb_sm_out f v (Nat.le_refl _)]
      simp only [if_true]
      omega
theorem fb_sm_add (f g : Nat → Nat) : ∀ n, fb_sm (fun k => f k + g k) n = fb_sm f n + fb_sm g n
  | 0 => rfl
  | n + 1 => by
    have h := fb_sm_add f g n
    rw [fb_sm_succ, fb_sm_succ, fb_sm_succ, h]
    omega
theorem fb_sm_le {f g : Nat → Nat} : ∀ {n : Nat}, (∀ k, k < n → f k ≤ g k) → fb_sm f n ≤ fb_sm g n
  | 0, _ => Nat.le_refl _
  | n + 1, h => by
    have h1 := fb_sm_le (n := n) (f := f) (g := g) (fun k hk => h k (by omega))
    have h2 := h n (by omega)
    rw [fb_sm_succ, fb_sm_succ]
    omega
theorem fb_sm_const (c : Nat) : ∀ n, fb_sm (fun _ => c) n = n * c
  | 0 => by rw [Nat.zero_mul]; rfl
  | n + 1 => by rw [fb_sm_succ, fb_sm_const c n, Nat.succ_mul]
theorem fb_sm_bound {f : Nat → Nat} {c n : Nat} (h : ∀ k, k < n → f k ≤ c) : fb_sm f n ≤ n * c := by
  rw [← fb_sm_const c n]
  exact fb_sm_le h
theorem fb_sm_mono (f : Nat → Nat) (m : Nat) : ∀ n, fb_sm f m ≤ fb_sm f (m + n)
  | 0 => Nat.le_refl _
  | n + 1 => by
    have h := fb_sm_mono f m n
    show fb_sm f m ≤ fb_sm f (m + n + 1)
    rw [fb_sm_succ]
    omega
theorem fb_sm_part (f : Nat → Nat) {i n : Nat} (h : i < n) : fb_sm f i + f i ≤ fb_sm f n := by
  have := fb_sm_mono f (i + 1) (n - (i + 1))
  rw [fb_sm_succ, show i + 1 + (n - (i + 1)) = n by omega] at this
  exact this
theorem fb_sm_split (f : Nat → Nat) (m : Nat) : ∀ n, fb_sm f (m + n) = fb_sm f m + fb_sm (fun k => f (m + k)) n
  | 0 => rfl
  | n + 1 => by
    have h := fb_sm_split f m n
    show fb_sm f (m + n + 1) = _
    rw [fb_sm_succ, fb_sm_succ, h, Nat.add_assoc]
theorem fb_sm_zero {f : Nat → Nat} {n : Nat} (h : fb_sm f n = 0) : ∀ k, k < n → f k = 0 := fun k hk => by
  have := fb_sm_part f hk
  omega
theorem fa_lt (a b : Int32) : a < b ↔ a.toInt < b.toInt := Int32.lt_iff_toInt_lt
theorem fa_le (a b : Int32) : a ≤ b ↔ a.toInt ≤ b.toInt := Int32.le_iff_toInt_le
theorem fa_eq (a b : Int32) : a = b ↔ a.toInt = b.toInt := Int32.toInt_inj.symm
theorem fa_lt64 (a b : Int64) : a < b ↔ a.toInt < b.toInt := Int64.lt_iff_toInt_lt
theorem fa_le64 (a b : Int64) : a ≤ b ↔ a.toInt ≤ b.toInt := Int64.le_iff_toInt_le
theorem fa_eq64 (a b : Int64) : a = b ↔ a.toInt = b.toInt := Int64.toInt_inj.symm
/-- a comparison of two ints taken as longs -/
theorem fa_wide_lt (a b : Int32) : a.toInt64 < b.toInt64 ↔ a < b := by rw [fa_lt64, fa_lt, Int32.toInt_toInt64, Int32.toInt_toInt64]
theorem fa_wide_le (a b : Int32) : a.toInt64 ≤ b.toInt64 ↔ a ≤ b := by rw [fa_le64, fa_le, Int32.toInt_toInt64, Int32.toInt_toInt64]
theorem fa_wide_eq (a b : Int32) : a.toInt64 = b.toInt64 ↔ a = b := by rw [fa_eq64, fa_eq, Int32.toInt_toInt64, Int32.toInt_toInt64]
end
section
/-! Long.bitCount counts the bits: byte by byte. -/
def Nu (v : Int64) : Nat := v.toBitVec.toNat
theorem Nu_lt (v : Int64) : Nu v < 18446744073709551616 := v.toBitVec.isLt
theorem Nu_and (a b : Int64) : Nu (a &&& b) = Nu a &&& Nu b := by show (a &&& b).toBitVec.toNat = _; rw [Int64.toBitVec_and, BitVec.toNat_and]; rfl
theorem Nu_add {a b : Int64} (h : Nu a + Nu b < 18446744073709551616) : Nu (a + b) = Nu a + Nu b := by
  show (a + b).toBitVec.toNat = _
  rw [Int64.toBitVec_add, BitVec.toNat_add]
  exact Nat.mod_eq_of_lt h
theorem Nu_sub {a b : Int64} (h : Nu b ≤ Nu a) : Nu (a - b) = Nu a - Nu b := by
  show (a - b).toBitVec.toNat = _
  rw [Int64.toBitVec_sub, BitVec.toNat_sub_of_le h]
  rfl
theorem Nu_shr (a : Int64) {k : Nat} (h : k < 64) : Nu (jushr a k) = Nu a / 2 ^ k := by
  show (a.toBitVec >>> (((nI k).toInt64.toUInt64 &&& Int64.toUInt64 63).toBitVec % 64)).toNat = _
  rw [BitVec.ushiftRight_eq', su_k h, BitVec.toNat_ushiftRight, Nat.shiftRight_eq_div_pow]
  rfl
def mk8 (c : Nat) : Nat → Nat
  | 0 => 0
  | n + 1 => c + 256 * mk8 c n
theorem and_sp {a b r s : Nat} (ha : a < 256) (hb : b < 256) : (a + 256 * r) &&& (b + 256 * s) = (a &&& b) + 256 * (r &&& s) := by
  have hab : a &&& b < 2 ^ 8 := Nat.and_lt_two_pow a hb
  apply Nat.eq_of_testBit_eq
  intro i
  rw [Nat.testBit_and, show a + 256 * r = 2 ^ 8 * r + a by omega, show b + 256 * s = 2 ^ 8 * s + b by omega, show (a &&& b) + 256 * (r &&& s) = 2 ^ 8 * (r &&& s) + (a &&& b) by omega]
  rw [Nat.testBit_two_pow_mul_add _ (show a < 2 ^ 8 from ha), Nat.testBit_two_pow_mul_add _ (show b < 2 ^ 8 from hb), Nat.testBit_two_pow_mul_add _ hab]
  by_cases h : i < 8
  · simp [h, Nat.testBit_and]
  · simp [h, Nat.testBit_and]
def f1_ (n x : Nat) : Nat := x - (x / 2 &&& mk8 85 n)
def f2_ (n x : Nat) : Nat := (x &&& mk8 51 n) + (x / 4 &&& mk8 51 n)
def f3_ (n x : Nat) : Nat := (x + x / 16) &&& mk8 15 n
theorem f1_st {n a r : Nat} (ha : a < 256) : f1_ (n + 1) (a + 256 * r) = (a - (a / 2 &&& 85)) + 256 * f1_ n r := by
  unfold f1_
  have h1 : (a / 2 + 128 * (r % 2)) &&& 85 = a / 2 &&& 85 := by
    have : ∀ (i : Fin 256) (t : Fin 2), (i.val / 2 + 128 * t.val) &&& 85 = i.val / 2 &&& 85 := by decide +kernel
    exact this ⟨a, ha⟩ ⟨r % 2, by omega⟩
  rw [show (a + 256 * r) / 2 = (a / 2 + 128 * (r % 2)) + 256 * (r / 2) by omega, show mk8 85 (n + 1) = 85 + 256 * mk8 85 n from rfl, and_sp (by omega) (by decide), h1]
  have h2 : a / 2 &&& 85 ≤ a / 2 := Nat.and_le_left
  have h3 : r / 2 &&& mk8 85 n ≤ r / 2 := Nat.and_le_left
  omega
theorem f2_st {n a r : Nat} (ha : a < 256) : f2_ (n + 1) (a + 256 * r) = ((a &&& 51) + (a / 4 &&& 51)) + 256 * f2_ n r := by
  unfold f2_
  have h1 : (a / 4 + 64 * (r % 4)) &&& 51 = a / 4 &&& 51 := by
    have : ∀ (i : Fin 256) (t : Fin 4), (i.val / 4 + 64 * t.val) &&& 51 = i.val / 4 &&& 51 := by decide +kernel
    exact this ⟨a, ha⟩ ⟨r % 4, by omega⟩
  rw [show (a + 256 * r) / 4 = (a / 4 + 64 * (r % 4)) + 256 * (r / 4) by omega, show mk8 51 (n + 1) = 51 + 256 * mk8 51 n from rfl, and_sp ha (by decide), and_sp (by omega) (by decide), h1]
  omega
theorem f3_st {n a r : Nat} (ha : a ≤ 68) (hr : r % 16 ≤ 4) : f3_ (n + 1) (a + 256 * r) = ((a + a / 16) &&& 15) + 256 * f3_ n r := by
  unfold f3_
  have h1 : (a + a / 16 + 16 * (r % 16)) &&& 15 = (a + a / 16) &&& 15 := by
    have : ∀ (i : Fin 69) (t : Fin 5), (i.val + i.val / 16 + 16 * t.val) &&& 15 = (i.val + i.val / 16) &&& 15 := by decide +kernel
    exact this ⟨a, by omega⟩ ⟨r % 16, by omega⟩
  rw [show (a + 256 * r) + (a + 256 * r) / 16 = (a + a / 16 + 16 * (r % 16)) + 256 * (r + r / 16) by omega, show mk8 15 (n + 1) = 15 + 256 * mk8 15 n from rfl, and_sp (by omega) (by decide), h1]
def pop8 (b : Nat) : Nat := fb_ct (fun j => b.testBit j) 8
def cntB : Nat → Nat → Nat
  | 0, _ => 0
  | n + 1, x => pop8 (x % 256) + 256 * cntB n (x / 256)
theorem swar : ∀ n x, x < 256 ^ n → f3_ n (f2_ n (f1_ n x)) = cntB n x ∧ f2_ n (f1_ n x) % 16 ≤ 4 := by
  intro n
  induction n with
  | zero =>
    intro x hx
    have : x = 0 := by simpa using hx
    subst this
    exact ⟨rfl, by decide⟩
  | succ n ih =>
    intro x hx
    have hx2 : x / 256 < 256 ^ n := Nat.div_lt_of_lt_mul (by rw [Nat.pow_succ, Nat.mul_comm] at hx; exact hx)
    obtain ⟨h1, h2⟩ := ih (x / 256) hx2
    have hb : x % 256 < 256 := Nat.mod_lt _ (by decide)
    have hfin : ∀ i : Fin 256, i.val - (i.val / 2 &&& 85) < 256 ∧ ((i.val - (i.val / 2 &&& 85)) &&& 51) + ((i.val - (i.val / 2 &&& 85)) / 4 &&& 51) ≤ 68 ∧ (((i.val - (i.val / 2 &&& 85)) &&& 51) + ((i.val - (i.val / 2 &&& 85)) / 4 &&& 51)) % 16 ≤ 4 ∧ ((((i.val - (i.val / 2 &&& 85)) &&& 51) + ((i.val - (i.val / 2 &&& 85)) / 4 &&& 51)) + (((i.val - (i.val / 2 &&& 85)) &&& 51) + ((i.val - (i.val / 2 &&& 85)) / 4 &&& 51)) / 16) &&& 15 = pop8 i.val := by decide +kernel
    obtain ⟨k1, k2, k3, k4⟩ := hfin ⟨x % 256, hb⟩
    have hx3 : x = x % 256 + 256 * (x / 256) := by omega
    have e1 : f1_ (n + 1) x = (x % 256 - (x % 256 / 2 &&& 85)) + 256 * f1_ n (x / 256) := by
      conv => lhs; rw [hx3]
      exact f1_st hb
    rw [e1, f2_st k1]
    refine ⟨?_, ?_⟩
    · rw [f3_st k2 h2, h1, k4]; rfl
    · exact (show ∀ X Y : Nat, X % 16 ≤ 4 → (X + 256 * Y) % 16 ≤ 4 from fun X Y h => by omega) _ _ k3
theorem b3_nat (v : Int64) : Nu (b3_ (b2_ (b1_ v))) = cntB 8 (Nu v) := by
  have hc1 : Nu 6148914691236517205 = mk8 85 8 := by decide +kernel
  have hc2 : Nu 3689348814741910323 = mk8 51 8 := by decide +kernel
  have hc3 : Nu 1085102592571150095 = mk8 15 8 := by decide +kernel
  have hm : mk8 51 8 = 3689348814741910323 := by decide +kernel
  have e1 : Nu (b1_ v) = f1_ 8 (Nu v) := by
    unfold b1_ f1_
    have h1 : Nu (jushr v 1 &&& 6148914691236517205) = Nu v / 2 &&& mk8 85 8 := by rw [Nu_and, Nu_shr v (by decide), hc1]
    have h2 : Nu v / 2 &&& mk8 85 8 ≤ Nu v / 2 := Nat.and_le_left
    rw [Nu_sub (by rw [h1]; omega), h1]
  have e2 : Nu (b2_ (b1_ v)) = f2_ 8 (f1_ 8 (Nu v)) := by
    unfold b2_ f2_
    have h1 : Nu (b1_ v &&& 3689348814741910323) = f1_ 8 (Nu v) &&& mk8 51 8 := by rw [Nu_and, hc2, e1]
    have h2 : Nu (jushr (b1_ v) 2 &&& 3689348814741910323) = f1_ 8 (Nu v) / 4 &&& mk8 51 8 := by rw [Nu_and, Nu_shr _ (by decide), hc2, e1]
    have h3 : f1_ 8 (Nu v) &&& mk8 51 8 ≤ mk8 51 8 := Nat.and_le_right
    have h4 : f1_ 8 (Nu v) / 4 &&& mk8 51 8 ≤ mk8 51 8 := Nat.and_le_right
    rw [Nu_add (by rw [h1, h2]; omega), h1, h2]
  have hb : f2_ 8 (f1_ 8 (Nu v)) ≤ 2 * 3689348814741910323 := by
    have h3 : f1_ 8 (Nu v) &&& mk8 51 8 ≤ mk8 51 8 := Nat.and_le_right
    have h4 : f1_ 8 (Nu v) / 4 &&& mk8 51 8 ≤ mk8 51 8 := Nat.and_le_right
    unfold f2_; omega
  have e3 : Nu (b3_ (b2_ (b1_ v))) = f3_ 8 (f2_ 8 (f1_ 8 (Nu v))) := by
    unfold b3_ f3_
    rw [Nu_and, hc3, Nu_add (by rw [Nu_shr _ (by decide), e2]; omega), Nu_shr _ (by decide), e2]
  rw [e3]
  exact (swar 8 (Nu v) (Nat.lt_of_lt_of_le (Nu_lt v) (by decide))).1
theorem pop8_le (b : Nat) : pop8 b ≤ 8 := fb_ct_le _ _
theorem and127 (x : Int64) : x.toInt32 &&& 127 = nI (Nu x % 128) := by
  rw [pk_and x.toInt32 (m := 127) 7 (by decide)]
  congr 1
  have h : x.toInt32.toBitVec.toNat = Nu x % 2 ^ 32 := by
    show (x.toBitVec.signExtend 32).toNat = _
    rw [show x.toBitVec.signExtend 32 = x.toBitVec.setWidth 32 from BitVec.signExtend_eq_setWidth_of_le _ (by decide), BitVec.toNat_setWidth]
    rfl
  rw [h]
  omega
theorem dv1 {a r : Nat} (ha : a < 256) : (a + 256 * r) / 256 = r := by omega
theorem dv2 {a b r : Nat} (ha : a < 256) (hb : b < 256) : (a + 256 * (b + 256 * r)) / 65536 = r := by omega
theorem dv4 {a b c d r : Nat} (ha : a < 256) (hb : b < 256) (hc : c < 256) (hd : d < 256) : (a + 256 * (b + 256 * (c + 256 * (d + 256 * r)))) / 4294967296 = r := by
  rw [show 4294967296 = 65536 * 65536 from rfl, ← Nat.div_div_eq_div_mul, dv2 ha hb, dv2 hc hd]
theorem ad2 (a b x y : Nat) : (a + 256 * x) + (b + 256 * y) = (a + b) + 256 * (x + y) := by omega
theorem bn2 {a r m : Nat} (ha : a ≤ 64) (hr : r ≤ m) : a + 256 * r ≤ 64 + 256 * m := by omega
theorem bn8 {a0 a1 a2 a3 a4 a5 a6 a7 : Nat} (h0 : a0 ≤ 64) (h1 : a1 ≤ 64) (h2 : a2 ≤ 64) (h3 : a3 ≤ 64) (h4 : a4 ≤ 64) (h5 : a5 ≤ 64) (h6 : a6 ≤ 64) (h7 : a7 ≤ 64) : a0 + 256 * (a1 + 256 * (a2 + 256 * (a3 + 256 * (a4 + 256 * (a5 + 256 * (a6 + 256 * a7)))))) < 18446744073709551616 :=
  Nat.lt_of_le_of_lt (bn2 h0 (bn2 h1 (bn2 h2 (bn2 h3 (bn2 h4 (bn2 h5 (bn2 h6 h7))))))) (by decide)
theorem md1 {a r : Nat} (ha : a < 128) : (a + 256 * r) % 128 = a := by omega
theorem fin_sum {y : Int64} {e0 e1 e2 e3 e4 e5 e6 e7 : Nat} (h : Nu y = e0 + 256 * (e1 + 256 * (e2 + 256 * (e3 + 256 * (e4 + 256 * (e5 + 256 * (e6 + 256 * e7))))))) (p0 : e0 ≤ 8) (p1 : e1 ≤ 8) (p2 : e2 ≤ 8) (p3 : e3 ≤ 8) (p4 : e4 ≤ 8) (p5 : e5 ≤ 8) (p6 : e6 ≤ 8) (p7 : e7 ≤ 8) : (b6_ (b5_ (b4_ y))).toInt32 &&& 127 = nI (e0 + e1 + e2 + e3 + e4 + e5 + e6 + e7) := by
  have q3 : Nu (jushr y 8) = e1 + 256 * (e2 + 256 * (e3 + 256 * (e4 + 256 * (e5 + 256 * (e6 + 256 * (e7 + 256 * 0)))))) := by rw [Nu_shr y (by decide), h]; exact dv1 (by omega)
  have s3 : Nu y + Nu (jushr y 8) = (e0 + e1) + 256 * ((e1 + e2) + 256 * ((e2 + e3) + 256 * ((e3 + e4) + 256 * ((e4 + e5) + 256 * ((e5 + e6) + 256 * ((e6 + e7) + 256 * e7)))))) := by
    rw [q3, h, ad2, ad2, ad2, ad2, ad2, ad2, ad2, Nat.add_zero]
  have g4 : Nu (b4_ y) = (e0 + e1) + 256 * ((e1 + e2) + 256 * ((e2 + e3) + 256 * ((e3 + e4) + 256 * ((e4 + e5) + 256 * ((e5 + e6) + 256 * ((e6 + e7) + 256 * e7)))))) := by
    unfold b4_
    rw [Nu_add (by rw [s3]; exact bn8 (by omega) (by omega) (by omega) (by omega) (by omega) (by omega) (by omega) (by omega)), s3]
  have q4 : Nu (jushr (b4_ y) 16) = (e2 + e3) + 256 * ((e3 + e4) + 256 * ((e4 + e5) + 256 * ((e5 + e6) + 256 * ((e6 + e7) + 256 * (e7 + 256 * (0 + 256 * 0)))))) := by rw [Nu_shr _ (by decide), g4]; exact dv2 (by omega) (by omega)
  have s4 : Nu (b4_ y) + Nu (jushr (b4_ y) 16) = ((e0 + e1) + (e2 + e3)) + 256 * (((e1 + e2) + (e3 + e4)) + 256 * (((e2 + e3) + (e4 + e5)) + 256 * (((e3 + e4) + (e5 + e6)) + 256 * (((e4 + e5) + (e6 + e7)) + 256 * (((e5 + e6) + e7) + 256 * (((e6 + e7) + 0) + 256 * (e7 + 0))))))) := by
    rw [q4, g4, ad2, ad2, ad2, ad2, ad2, ad2, ad2]
  have g5 : Nu (b5_ (b4_ y)) = ((e0 + e1) + (e2 + e3)) + 256 * (((e1 + e2) + (e3 + e4)) + 256 * (((e2 + e3) + (e4 + e5)) + 256 * (((e3 + e4) + (e5 + e6)) + 256 * (((e4 + e5) + (e6 + e7)) + 256 * (((e5 + e6) + e7) + 256 * (((e6 + e7) + 0) + 256 * (e7 + 0))))))) := by
    unfold b5_
    rw [Nu_add (by rw [s4]; exact bn8 (by omega) (by omega) (by omega) (by omega) (by omega) (by omega) (by omega) (by omega)), s4]
  have q5 : Nu (jushr (b5_ (b4_ y)) 32) = ((e4 + e5) + (e6 + e7)) + 256 * (((e5 + e6) + e7) + 256 * (((e6 + e7) + 0) + 256 * ((e7 + 0) + 256 * (0 + 256 * (0 + 256 * (0 + 256 * 0)))))) := by rw [Nu_shr _ (by decide), g5]; exact dv4 (by omega) (by omega) (by omega) (by omega)
  have s5 : Nu (b5_ (b4_ y)) + Nu (jushr (b5_ (b4_ y)) 32) = (((e0 + e1) + (e2 + e3)) + ((e4 + e5) + (e6 + e7))) + 256 * ((((e1 + e2) + (e3 + e4)) + ((e5 + e6) + e7)) + 256 * ((((e2 + e3) + (e4 + e5)) + ((e6 + e7) + 0)) + 256 * ((((e3 + e4) + (e5 + e6)) + (e7 + 0)) + 256 * ((((e4 + e5) + (e6 + e7)) + 0) + 256 * ((((e5 + e6) + e7) + 0) + 256 * ((((e6 + e7) + 0) + 0) + 256 * ((e7 + 0) + 0))))))) := by
    rw [q5, g5, ad2, ad2, ad2, ad2, ad2, ad2, ad2]
  have g6 : Nu (b6_ (b5_ (b4_ y))) % 128 = e0 + e1 + e2 + e3 + e4 + e5 + e6 + e7 := by
    unfold b6_
    rw [Nu_add (by rw [s5]; exact bn8 (by omega) (by omega) (by omega) (by omega) (by omega) (by omega) (by omega) (by omega)), s5, md1 (by omega)]
    omega
  rw [and127, g6]
theorem byte_ct (v : Int64) {i p : Nat} (hp : p = 2 ^ (8 * i)) : fb_ct (fun j => bt v (8 * i + j)) 8 = pop8 (Nu v / p % 256) := by
  subst hp
  apply fb_ct_cong
  intro j hj
  show v.toBitVec.getLsbD (8 * i + j) = _
  rw [show (256 : Nat) = 2 ^ 8 from rfl, Nat.testBit_mod_two_pow, Nat.testBit_div_two_pow]
  simp only [hj, decide_true, Bool.true_and]
  rw [Nat.add_comm]
  rfl
theorem pcn8 (v : Int64) : fb_ct (bt v) 64 = pop8 (Nu v % 256) + pop8 (Nu v / 256 % 256) + pop8 (Nu v / 65536 % 256) + pop8 (Nu v / 16777216 % 256) + pop8 (Nu v / 4294967296 % 256) + pop8 (Nu v / 1099511627776 % 256) + pop8 (Nu v / 281474976710656 % 256) + pop8 (Nu v / 72057594037927936 % 256) := by
  have b0 := byte_ct v (i := 0) (p := 1) (by decide)
  have b1 := byte_ct v (i := 1) (p := 256) (by decide)
  have b2 := byte_ct v (i := 2) (p := 65536) (by decide)
  have b3 := byte_ct v (i := 3) (p := 16777216) (by decide)
  have b4 := byte_ct v (i := 4) (p := 4294967296) (by decide)
  have b5 := byte_ct v (i := 5) (p := 1099511627776) (by decide)
  have b6 := byte_ct v (i := 6) (p := 281474976710656) (by decide)
  have b7 := byte_ct v (i := 7) (p := 72057594037927936) (by decide)
  rw [← b1, ← b2, ← b3, ← b4, ← b5, ← b6, ← b7, ← Nat.div_one (Nu v), ← b0]
  rw [show (64 : Nat) = 8 + (8 + (8 + (8 + (8 + (8 + (8 + 8)))))) from rfl, fb_ct_split, fb_ct_split, fb_ct_split, fb_ct_split, fb_ct_split, fb_ct_split, fb_ct_split]
  simp only [Nat.mul_zero, Nat.zero_add, ← Nat.add_assoc]
theorem bcN_eq (v : Int64) : bcS v = nI (fb_ct (bt v) 64) := by
  have h := b3_nat v
  have hx : cntB 8 (Nu v) = pop8 (Nu v % 256) + 256 * (pop8 (Nu v / 256 % 256) + 256 * (pop8 (Nu v / 65536 % 256) + 256 * (pop8 (Nu v / 16777216 % 256) + 256 * (pop8 (Nu v / 4294967296 % 256) + 256 * (pop8 (Nu v / 1099511627776 % 256) + 256 * (pop8 (Nu v / 281474976710656 % 256) + 256 * pop8 (Nu v / 72057594037927936 % 256))))))) := by
    simp only [cntB, Nat.div_div_eq_div_mul]
    rfl
  rw [hx] at h
  unfold bcS
  rw [fin_sum h (pop8_le _) (pop8_le _) (pop8_le _) (pop8_le _) (pop8_le _) (pop8_le _) (pop8_le _) (pop8_le _), pcn8]
end
