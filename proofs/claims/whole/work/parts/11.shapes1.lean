/-! Shapes: the small methods. -/
def isLeafB (c : Int32) : Bool := decide (c = 98) || decide (c = 119) || decide (c = 103) || decide (c = 115)
def CHEQ : Int64 := -6172840429334713771
def STRI : Int64 := 71777214294589695
def patS (c : Int32) : Int64 := if c = 98 then -1 else if c = 103 then CHEQ else if c = 115 then STRI else 0
def signS (v sq : Int64) : Int32 := if v &&& sq = sq then 98 else if v &&& sq = 0 then 119 else if v &&& sq = CHEQ &&& sq then 103 else if v &&& sq = STRI &&& sq then 115 else 113
def cmbS (k : Int32) (a b : Int64) : Int64 := if k = 1 then a ||| b else if k = 2 then a &&& b else if k = 3 then a &&& (b ^^^ (-1)) else a
def wi (d : Nat) : Nat := 8 / 2 ^ d - 1
theorem wi_eq {d : Nat} (h : d < 4) : ((8 : Int32) >>> (nI d &&& 31)) - 1 = nI (wi d) := by
  have : ∀ j : Fin 4, ((8 : Int32) >>> (nI j.val &&& 31)) - 1 = nI (wi j.val) := by decide +kernel
  exact this ⟨d, h⟩
def cor (c d : Nat) : Nat := (nI c &&& (nI (8 * wi d + wi d) ^^^ (-1))).toNatClampNeg
theorem cor_eq {c d : Nat} (hc : c < 64) (hd : d < 4) : (nI c &&& (nI (8 * wi d + wi d) ^^^ (-1))) = nI (cor c d) := by
  have : ∀ (j : Fin 4) (i : Fin 64), (nI i.val &&& (nI (8 * wi j.val + wi j.val) ^^^ (-1))) = nI (cor i.val j.val) := by decide +kernel
  exact this ⟨d, hd⟩ ⟨c, hc⟩
theorem cor_lt {c d : Nat} (hc : c < 64) (hd : d < 4) : cor c d < 64 := by
  have : ∀ (j : Fin 4) (i : Fin 64), cor i.val j.val < 64 := by decide +kernel
  exact this ⟨d, hd⟩ ⟨c, hc⟩
def sqS (c d : Nat) : Int64 := jshl (corn d) (cor c d)
def qcn (q : Nat) : Nat := 4 * (q % 2) + 32 * (q / 2)
def qcS (q : Nat) : Int64 := jshl 252645135 (qcn q)
def leS (v : Int64) : Int64 := jushr (v &&& (-72340172838076674)) 1
def riS (v : Int64) : Int64 := jshl (v &&& 9187201950435737471) 1
def b1_ (x : Int64) : Int64 := x - (jushr x 1 &&& 6148914691236517205)
def b2_ (x : Int64) : Int64 := (x &&& 3689348814741910323) + (jushr x 2 &&& 3689348814741910323)
def b3_ (x : Int64) : Int64 := (x + jushr x 4) &&& 1085102592571150095
def b4_ (x : Int64) : Int64 := x + jushr x 8
def b5_ (x : Int64) : Int64 := x + jushr x 16
def b6_ (x : Int64) : Int64 := x + jushr x 32
def bcS (v : Int64) : Int32 := (b6_ (b5_ (b4_ (b3_ (b2_ (b1_ v)))))).toInt32 &&& 127
set_option maxHeartbeats 4000000 in
set_option maxRecDepth 100000 in
theorem c_X2_isBlack (l : Launch) (g : GG) (H : Heap) (v : Int64) (k : Nat) (hk : k < 64) : Met l yX2_isBlack (Cond.code yX2_isBlack cX2_isBlack 3 (some .boolean) :: wsL_law) ({ frames := 0, cells := 0, slots := 0, locals := 0 }) (PR g [.long v, .int (nI k)] H) (QRi (b2i (bt v k)) H) 0 0 NoA := by
  refine Met.R (by decide) (Nat.le_of_ble_eq_true rfl) rfl ?_
  intro p e s m below meth c hx hb hr hml hw hown hlocks hkn hH ls hl
  subst hH
  have hl : lv_has ls 3 [(0, .long v), (2, .int (nI k))] := hl
  have hS : va_S NoA s.heap s.heap [] := va_S.rf
  refine lv_lload_n hx hb dX2_isBlack_0 rfl (lv_at hl 0 rfl) ?_
  refine lv_iload_n hx hb dX2_isBlack_1 rfl (lv_at hl 1 rfl) ?_
  refine lv_lushr (v := (jushr v k)) hx hb dX2_isBlack_2 rfl ?_
  refine lv_lconst (v := 1) hx hb dX2_isBlack_3 rfl ?_
  refine lv_land hx hb dX2_isBlack_4 ?_
  refine lv_lconst (v := 1) hx hb dX2_isBlack_5 rfl ?_
  refine lc_ne (tgt := 14) hx hb dX2_isBlack_6 dX2_isBlack_7 (by decide) (fun c_1 => ?_) (fun c_1 => ?_)
  · skip
    refine lv_iconst (v := 0) hx hb dX2_isBlack_14 (by decide) ?_
    exact eR_z hx hb hr hlocks (by simp [b2i, (bit1_iff v hk).symm, c_1]) dX2_isBlack_15
  · skip
    refine lv_iconst (v := 1) hx hb dX2_isBlack_10 (by decide) ?_
    refine lv_goto (tgt := 15) hx hb dX2_isBlack_11 (by decide) ?_
    exact eR_z hx hb hr hlocks (by simp [b2i, (bit1_iff v hk).symm, c_1]) dX2_isBlack_15
set_option maxHeartbeats 4000000 in
set_option maxRecDepth 100000 in
theorem c_X2_bit (l : Launch) (g : GG) (H : Heap) (x : Nat) (y : Nat)  : Met l yX2_bit (Cond.code yX2_bit cX2_bit 2 (some .long) :: wsL_law) ({ frames := 0, cells := 0, slots := 0, locals := 0 }) (PR g [.int (nI x), .int (nI y)] H) (QRl (sh (8 * y + x)) H) 0 0 NoA := by
  refine Met.R (by decide) (Nat.le_of_ble_eq_true rfl) rfl ?_
  intro p e s m below meth c hx hb hr hml hw hown hlocks hkn hH ls hl
  subst hH
  have hl : lv_has ls 2 [(0, .int (nI x)), (1, .int (nI y))] := hl
  have hS : va_S NoA s.heap s.heap [] := va_S.rf
  refine lv_lconst (v := 1) hx hb dX2_bit_0 rfl ?_
  refine lv_bipush (v := 8) hx hb dX2_bit_1 (by decide) ?_
  refine lv_iload_n hx hb dX2_bit_3 rfl (lv_at hl 1 rfl) ?_
  refine lv_imul hx hb dX2_bit_4 ?_
  refine lv_eqi (pk_mul 8 y) ?_
  refine lv_iload_n hx hb dX2_bit_5 rfl (lv_at hl 0 rfl) ?_
  refine lv_iadd hx hb dX2_bit_6 ?_
  refine lv_eqi (nI_add (8 * y) x) ?_
  refine lv_lshl (v := (jshl 1 (8 * y + x))) hx hb dX2_bit_7 rfl ?_
  exact eR_l hx hb hr hlocks (rfl) dX2_bit_8
set_option maxHeartbeats 4000000 in
set_option maxRecDepth 100000 in
theorem c_X2_lowestRow (l : Launch) (g : GG) (H : Heap) (v : Int64)  : Met l yX2_lowestRow (Cond.code yX2_lowestRow cX2_lowestRow 2 (some .int) :: wsL_law) ({ frames := 0, cells := 0, slots := 0, locals := 0 }) (PR g [.long v] H) (QRi ((v &&& 255).toInt32) H) 0 0 NoA := by
  refine Met.R (by decide) (Nat.le_of_ble_eq_true rfl) rfl ?_
  intro p e s m below meth c hx hb hr hml hw hown hlocks hkn hH ls hl
  subst hH
  have hl : lv_has ls 2 [(0, .long v)] := hl
  have hS : va_S NoA s.heap s.heap [] := va_S.rf
  refine lv_lload_n hx hb dX2_lowestRow_0 rfl (lv_at hl 0 rfl) ?_
  refine lv_ldc2 hx hb hown (hw _ mw_313) dX2_lowestRow_1 ?_
  refine lv_land hx hb dX2_lowestRow_4 ?_
  refine lv_l2i hx hb dX2_lowestRow_5 rfl ?_
  exact eR_i hx hb hr hlocks (rfl) dX2_lowestRow_6
set_option maxHeartbeats 4000000 in
set_option maxRecDepth 100000 in
theorem c_X2_isLeaf (l : Launch) (g : GG) (H : Heap) (c0 : Int32)  : Met l yX2_isLeaf (Cond.code yX2_isLeaf cX2_isLeaf 1 (some .boolean) :: wsL_law) ({ frames := 0, cells := 0, slots := 0, locals := 0 }) (PR g [.int c0] H) (QRi (b2i (isLeafB c0)) H) 0 0 NoA := by
  refine Met.R (by decide) (Nat.le_of_ble_eq_true rfl) rfl ?_
  intro p e s m below meth c hx hb hr hml hw hown hlocks hkn hH ls hl
  subst hH
  have hl : lv_has ls 1 [(0, .int c0)] := hl
  have hS : va_S NoA s.heap s.heap [] := va_S.rf
  refine lv_iload_n hx hb dX2_isLeaf_0 rfl (lv_at hl 0 rfl) ?_
  refine lv_bipush (v := 98) hx hb dX2_isLeaf_1 (by decide) ?_
  refine lv_icmp_eq (tgt := 24) hx hb dX2_isLeaf_3 (by decide) (fun c_1 => ?_) (fun c_1 => ?_)
  · skip
    refine lv_iconst (v := 1) hx hb dX2_isLeaf_24 (by decide) ?_
    refine lv_goto (tgt := 29) hx hb dX2_isLeaf_25 (by decide) ?_
    exact eR_z hx hb hr hlocks (by simp [isLeafB, b2i, c_1]) dX2_isLeaf_29
  · skip
    refine lv_iload_n hx hb dX2_isLeaf_6 rfl (lv_at hl 0 rfl) ?_
    refine lv_bipush (v := 119) hx hb dX2_isLeaf_7 (by decide) ?_
    refine lv_icmp_eq (tgt := 24) hx hb dX2_isLeaf_9 (by decide) (fun c_2 => ?_) (fun c_2 => ?_)
    · skip
      refine lv_iconst (v := 1) hx hb dX2_isLeaf_24 (by decide) ?_
      refine lv_goto (tgt := 29) hx hb dX2_isLeaf_25 (by decide) ?_
      exact eR_z hx hb hr hlocks (by simp [isLeafB, b2i, c_1, c_2]) dX2_isLeaf_29
    · skip
      refine lv_iload_n hx hb dX2_isLeaf_12 rfl (lv_at hl 0 rfl) ?_
      refine lv_bipush (v := 103) hx hb dX2_isLeaf_13 (by decide) ?_
      refine lv_icmp_eq (tgt := 24) hx hb dX2_isLeaf_15 (by decide) (fun c_3 => ?_) (fun c_3 => ?_)
      · skip
        refine lv_iconst (v := 1) hx hb dX2_isLeaf_24 (by decide) ?_
        refine lv_goto (tgt := 29) hx hb dX2_isLeaf_25 (by decide) ?_
        exact eR_z hx hb hr hlocks (by simp [isLeafB, b2i, c_1, c_2, c_3]) dX2_isLeaf_29
      · skip
        refine lv_iload_n hx hb dX2_isLeaf_18 rfl (lv_at hl 0 rfl) ?_
        refine lv_bipush (v := 115) hx hb dX2_isLeaf_19 (by decide) ?_
        refine lv_icmp_ne (tgt := 28) hx hb dX2_isLeaf_21 (by decide) (fun c_4 => ?_) (fun c_4 => ?_)
        · skip
          refine lv_iconst (v := 0) hx hb dX2_isLeaf_28 (by decide) ?_
          exact eR_z hx hb hr hlocks (by simp [isLeafB, b2i, c_1, c_2, c_3, c_4]) dX2_isLeaf_29
        · skip
          refine lv_iconst (v := 1) hx hb dX2_isLeaf_24 (by decide) ?_
          refine lv_goto (tgt := 29) hx hb dX2_isLeaf_25 (by decide) ?_
          exact eR_z hx hb hr hlocks (by simp [isLeafB, b2i, c_1, c_2, c_3, c_4]) dX2_isLeaf_29
set_option maxHeartbeats 4000000 in
set_option maxRecDepth 100000 in
theorem c_X2_pattern (l : Launch) (g : GG) (H : Heap) (c0 : Int32)  : Met l yX2_pattern (Cond.code yX2_pattern cX2_pattern 1 (some .long) :: wsL_law) ({ frames := 0, cells := 0, slots := 0, locals := 0 }) (PR g [.int c0] H) (QRl (patS c0) H) 0 0 NoA := by
  refine Met.R (by decide) (Nat.le_of_ble_eq_true rfl) rfl ?_
  intro p e s m below meth c hx hb hr hml hw hown hlocks hkn hH ls hl
  subst hH
  have hl : lv_has ls 1 [(0, .int c0)] := hl
  have hS : va_S NoA s.heap s.heap [] := va_S.rf
  refine lv_iload_n hx hb dX2_pattern_0 rfl (lv_at hl 0 rfl) ?_
  by_cases c_1 : c0 = 98
  · skip
    refine lv_lookup (off := 35) (tgt := 36) hx hb dX2_pattern_1 (by decide) (by rw [c_1]; decide) (by decide) ?_
    refine lv_ldc2 hx hb hown (hw _ mw_159) dX2_pattern_36 ?_
    exact eR_l hx hb hr hlocks (by unfold patS CHEQ STRI; rw [if_pos c_1]) dX2_pattern_39
  · skip
    by_cases c_2 : c0 = 103
    · skip
      refine lv_lookup (off := 39) (tgt := 40) hx hb dX2_pattern_1 (by decide) (by rw [c_2]; decide) (by decide) ?_
      refine lv_ldc2 hx hb hown (hw _ mw_160) dX2_pattern_40 ?_
      exact eR_l hx hb hr hlocks (by unfold patS CHEQ STRI; rw [if_neg c_1, if_pos c_2]) dX2_pattern_43
    · skip
      by_cases c_3 : c0 = 115
      · skip
        refine lv_lookup (off := 43) (tgt := 44) hx hb dX2_pattern_1 (by decide) (by rw [c_3]; decide) (by decide) ?_
        refine lv_ldc2 hx hb hown (hw _ mw_161) dX2_pattern_44 ?_
        exact eR_l hx hb hr hlocks (by unfold patS CHEQ STRI; rw [if_neg c_1, if_neg c_2, if_pos c_3]) dX2_pattern_47
      · skip
        refine lv_lookup (off := 47) (tgt := 48) hx hb dX2_pattern_1 (by decide) (by simp [Op.lookupswitch.offset_cons, Op.lookupswitch.offset_nil]; rw [if_neg (show ¬ (98 : Int) = c0.toInt from ne_toInt2 c_1), if_neg (show ¬ (103 : Int) = c0.toInt from ne_toInt2 c_2), if_neg (show ¬ (115 : Int) = c0.toInt from ne_toInt2 c_3)]) (by decide) ?_
        refine lv_lconst (v := 0) hx hb dX2_pattern_48 rfl ?_
        exact eR_l hx hb hr hlocks (by unfold patS CHEQ STRI; rw [if_neg c_1, if_neg c_2, if_neg c_3]) dX2_pattern_49
set_option maxHeartbeats 4000000 in
set_option maxRecDepth 100000 in
theorem c_X2_quarterCorner (l : Launch) (g : GG) (H : Heap) (q : Nat) (hq : q < 4) : Met l yX2_quarterCorner (Cond.code yX2_quarterCorner cX2_quarterCorner 1 (some .int) :: wsL_law) ({ frames := 0, cells := 0, slots := 0, locals := 0 }) (PR g [.int (nI q)] H) (QRi (nI (qcn q)) H) 0 0 NoA := by
  refine Met.R (by decide) (Nat.le_of_ble_eq_true rfl) rfl ?_
  intro p e s m below meth c hx hb hr hml hw hown hlocks hkn hH ls hl
  subst hH
  have hl : lv_has ls 1 [(0, .int (nI q))] := hl
  have hS : va_S NoA s.heap s.heap [] := va_S.rf
  refine lv_iconst (v := 4) hx hb dX2_quarterCorner_0 (by decide) ?_
  refine lv_iload_n hx hb dX2_quarterCorner_1 rfl (lv_at hl 0 rfl) ?_
  refine lv_iconst (v := 2) hx hb dX2_quarterCorner_2 (by decide) ?_
  refine lv_irem hx hb dX2_quarterCorner_3 (by decide) ?_
  refine lv_eqi (pk_rem (a := q) (d := 2) (by omega) (by omega) (by omega)) ?_
  refine lv_imul hx hb dX2_quarterCorner_4 ?_
  refine lv_eqi (pk_mul 4 (q % 2)) ?_
  refine lv_bipush (v := 32) hx hb dX2_quarterCorner_5 (by decide) ?_
  refine lv_iload_n hx hb dX2_quarterCorner_7 rfl (lv_at hl 0 rfl) ?_
  refine lv_iconst (v := 2) hx hb dX2_quarterCorner_8 (by decide) ?_
  refine lv_idiv hx hb dX2_quarterCorner_9 (by decide) ?_
  refine lv_eqi (pk_div (a := q) (d := 2) (by omega) (by omega) (by omega)) ?_
  refine lv_imul hx hb dX2_quarterCorner_10 ?_
  refine lv_eqi (pk_mul 32 (q / 2)) ?_
  refine lv_iadd hx hb dX2_quarterCorner_11 ?_
  refine lv_eqi (nI_add (4 * (q % 2)) (32 * (q / 2))) ?_
  exact eR_i hx hb hr hlocks (rfl) dX2_quarterCorner_12
set_option maxHeartbeats 4000000 in
set_option maxRecDepth 100000 in
theorem c_X2_fourCells (l : Launch) (g : GG) (H : Heap) (x : Nat) (y : Nat)  : Met l yX2_fourCells (Cond.code yX2_fourCells cX2_fourCells 2 (some .long) :: wsL_law) ({ frames := 0, cells := 0, slots := 0, locals := 0 }) (PR g [.int (nI x), .int (nI y)] H) (QRl (jshl 771 (16 * y + 2 * x)) H) 0 0 NoA := by
  refine Met.R (by decide) (Nat.le_of_ble_eq_true rfl) rfl ?_
  intro p e s m below meth c hx hb hr hml hw hown hlocks hkn hH ls hl
  subst hH
  have hl : lv_has ls 2 [(0, .int (nI x)), (1, .int (nI y))] := hl
  have hS : va_S NoA s.heap s.heap [] := va_S.rf
  refine lv_ldc2 hx hb hown (hw _ mw_352) dX2_fourCells_0 ?_
  refine lv_bipush (v := 16) hx hb dX2_fourCells_3 (by decide) ?_
  refine lv_iload_n hx hb dX2_fourCells_5 rfl (lv_at hl 1 rfl) ?_
  refine lv_imul hx hb dX2_fourCells_6 ?_
  refine lv_eqi (pk_mul 16 y) ?_
  refine lv_iconst (v := 2) hx hb dX2_fourCells_7 (by decide) ?_
  refine lv_iload_n hx hb dX2_fourCells_8 rfl (lv_at hl 0 rfl) ?_
  refine lv_imul hx hb dX2_fourCells_9 ?_
  refine lv_eqi (pk_mul 2 x) ?_
  refine lv_iadd hx hb dX2_fourCells_10 ?_
  refine lv_eqi (nI_add (16 * y) (2 * x)) ?_
  refine lv_lshl (v := (jshl 771 (16 * y + (2 * x)))) hx hb dX2_fourCells_11 rfl ?_
  exact eR_l hx hb hr hlocks (rfl) dX2_fourCells_12
set_option maxHeartbeats 4000000 in
set_option maxRecDepth 100000 in
theorem c_X2_sign (l : Launch) (g : GG) (H : Heap) (v : Int64) (q : Int64)  : Met l yX2_sign (Cond.code yX2_sign cX2_sign 6 (some .int) :: wsL_law) ({ frames := 0, cells := 0, slots := 0, locals := 0 }) (PR g [.long v, .long q] H) (QRi (signS v q) H) 0 0 NoA := by
  refine Met.R (by decide) (Nat.le_of_ble_eq_true rfl) rfl ?_
  intro p e s m below meth c hx hb hr hml hw hown hlocks hkn hH ls hl
  subst hH
  have hl : lv_has ls 6 [(0, .long v), (2, .long q)] := hl
  have hS : va_S NoA s.heap s.heap [] := va_S.rf
  refine lv_lload_n hx hb dX2_sign_0 rfl (lv_at hl 0 rfl) ?_
  refine lv_lload_n hx hb dX2_sign_1 rfl (lv_at hl 1 rfl) ?_
  refine lv_land hx hb dX2_sign_2 ?_
  refine lv_lstore (lv' := [(4, .long (v &&& q)), (0, .long v), (2, .long q)]) hx hb dX2_sign_3 hl (by decide) rfl (fun ls hl => ?_)
  refine lv_lload hx hb dX2_sign_5 (lv_at hl 0 rfl) ?_
  refine lv_lload_n hx hb dX2_sign_7 rfl (lv_at hl 2 rfl) ?_
  refine lc_ne (tgt := 15) hx hb dX2_sign_8 dX2_sign_9 (by decide) (fun c_1 => ?_) (fun c_1 => ?_)
  · skip
    refine lv_lload hx hb dX2_sign_15 (lv_at hl 0 rfl) ?_
    refine lv_lconst (v := 0) hx hb dX2_sign_17 rfl ?_
    refine lc_ne (tgt := 25) hx hb dX2_sign_18 dX2_sign_19 (by decide) (fun c_2 => ?_) (fun c_2 => ?_)
    · skip
      refine lv_lload hx hb dX2_sign_25 (lv_at hl 0 rfl) ?_
      refine lv_ldc2 hx hb hown (hw _ mw_160) dX2_sign_27 ?_
      refine lv_lload_n hx hb dX2_sign_30 rfl (lv_at hl 2 rfl) ?_
      refine lv_land hx hb dX2_sign_31 ?_
      refine lc_ne (tgt := 39) hx hb dX2_sign_32 dX2_sign_33 (by decide) (fun c_3 => ?_) (fun c_3 => ?_)
      · skip
        refine lv_lload hx hb dX2_sign_39 (lv_at hl 0 rfl) ?_
        refine lv_ldc2 hx hb hown (hw _ mw_161) dX2_sign_41 ?_
        refine lv_lload_n hx hb dX2_sign_44 rfl (lv_at hl 2 rfl) ?_
        refine lv_land hx hb dX2_sign_45 ?_
        refine lc_ne (tgt := 55) hx hb dX2_sign_46 dX2_sign_47 (by decide) (fun c_4 => ?_) (fun c_4 => ?_)
        · skip
          refine lv_bipush (v := 113) hx hb dX2_sign_55 (by decide) ?_
          exact eR_i hx hb hr hlocks (by unfold signS CHEQ STRI; rw [if_neg c_1, if_neg c_2, if_neg c_3, if_neg c_4]) dX2_sign_57
        · skip
          refine lv_bipush (v := 115) hx hb dX2_sign_50 (by decide) ?_
          refine lv_goto (tgt := 57) hx hb dX2_sign_52 (by decide) ?_
          exact eR_i hx hb hr hlocks (by unfold signS CHEQ STRI; rw [if_neg c_1, if_neg c_2, if_neg c_3, if_pos c_4]) dX2_sign_57
      · skip
        refine lv_bipush (v := 103) hx hb dX2_sign_36 (by decide) ?_
        exact eR_i hx hb hr hlocks (by unfold signS CHEQ STRI; rw [if_neg c_1, if_neg c_2, if_pos c_3]) dX2_sign_38
    · skip
      refine lv_bipush (v := 119) hx hb dX2_sign_22 (by decide) ?_
      exact eR_i hx hb hr hlocks (by unfold signS CHEQ STRI; rw [if_neg c_1, if_pos c_2]) dX2_sign_24
  · skip
    refine lv_bipush (v := 98) hx hb dX2_sign_12 (by decide) ?_
    exact eR_i hx hb hr hlocks (by unfold signS CHEQ STRI; rw [if_pos c_1]) dX2_sign_14
set_option maxHeartbeats 4000000 in
set_option maxRecDepth 100000 in
theorem c_X2_combined (l : Launch) (g : GG) (H : Heap) (k : Int32) (a : Int64) (b : Int64)  : Met l yX2_combined (Cond.code yX2_combined cX2_combined 5 (some .long) :: wsL_law) ({ frames := 0, cells := 0, slots := 0, locals := 0 }) (PR g [.int k, .long a, .long b] H) (QRl (cmbS k a b) H) 0 0 NoA := by
  refine Met.R (by decide) (Nat.le_of_ble_eq_true rfl) rfl ?_
  intro p e s m below meth c hx hb hr hml hw hown hlocks hkn hH ls hl
  subst hH
  have hl : lv_has ls 5 [(0, .int k), (1, .long a), (3, .long b)] := hl
  have hS : va_S NoA s.heap s.heap [] := va_S.rf
  refine lv_iload_n hx hb dX2_combined_0 rfl (lv_at hl 0 rfl) ?_
  by_cases c_1 : k = 1
  · skip
    refine lv_tableIn (off := 27) (tgt := 28) hx hb dX2_combined_1 (by rw [c_1]; decide) (by rw [c_1]; decide) (by rw [c_1]; rfl) (by decide) ?_
    refine lv_lload_n hx hb dX2_combined_28 rfl (lv_at hl 1 rfl) ?_
    refine lv_lload_n hx hb dX2_combined_29 rfl (lv_at hl 2 rfl) ?_
    refine lv_lor hx hb dX2_combined_30 ?_
    exact eR_l hx hb hr hlocks (by unfold cmbS; rw [if_pos c_1]) dX2_combined_31
  · skip
    by_cases c_2 : k = 2
    · skip
      refine lv_tableIn (off := 31) (tgt := 32) hx hb dX2_combined_1 (by rw [c_2]; decide) (by rw [c_2]; decide) (by rw [c_2]; rfl) (by decide) ?_
      refine lv_lload_n hx hb dX2_combined_32 rfl (lv_at hl 1 rfl) ?_
      refine lv_lload_n hx hb dX2_combined_33 rfl (lv_at hl 2 rfl) ?_
      refine lv_land hx hb dX2_combined_34 ?_
      exact eR_l hx hb hr hlocks (by unfold cmbS; rw [if_neg c_1, if_pos c_2]) dX2_combined_35
    · skip
      by_cases c_3 : k = 3
      · skip
        refine lv_tableIn (off := 35) (tgt := 36) hx hb dX2_combined_1 (by rw [c_3]; decide) (by rw [c_3]; decide) (by rw [c_3]; rfl) (by decide) ?_
        refine lv_lload_n hx hb dX2_combined_36 rfl (lv_at hl 1 rfl) ?_
        refine lv_lload_n hx hb dX2_combined_37 rfl (lv_at hl 2 rfl) ?_
        refine lv_ldc2 hx hb hown (hw _ mw_159) dX2_combined_38 ?_
        refine lv_lxor hx hb dX2_combined_41 ?_
        refine lv_land hx hb dX2_combined_42 ?_
        exact eR_l hx hb hr hlocks (by unfold cmbS; rw [if_neg c_1, if_neg c_2, if_pos c_3]) dX2_combined_43
      · skip
        refine lv_tableOut (tgt := 44) hx hb dX2_combined_1 (sw_out (lo := 1) (hi := 3) (fun k h1 h2 => by have hk : k = 1 ∨ k = 2 ∨ k = 3 := (by omega); rcases hk with rfl | rfl | rfl <;> assumption)) (by decide) ?_
        refine lv_lload_n hx hb dX2_combined_44 rfl (lv_at hl 1 rfl) ?_
        exact eR_l hx hb hr hlocks (by unfold cmbS; rw [if_neg c_1, if_neg c_2, if_neg c_3]) dX2_combined_45
set_option maxHeartbeats 4000000 in
set_option maxRecDepth 100000 in
theorem c_X2_leftOf (l : Launch) (g : GG) (H : Heap) (v : Int64)  : Met l yX2_leftOf (Cond.code yX2_leftOf cX2_leftOf 2 (some .long) :: wsL_law) ({ frames := 0, cells := 0, slots := 0, locals := 0 }) (PR g [.long v] H) (QRl (leS v) H) 0 0 NoA := by
  refine Met.R (by decide) (Nat.le_of_ble_eq_true rfl) rfl ?_
  intro p e s m below meth c hx hb hr hml hw hown hlocks hkn hH ls hl
  subst hH
  have hl : lv_has ls 2 [(0, .long v)] := hl
  have hS : va_S NoA s.heap s.heap [] := va_S.rf
  refine lv_lload_n hx hb dX2_leftOf_0 rfl (lv_at hl 0 rfl) ?_
  refine lv_ldc2 hx hb hown (hw _ mw_440) dX2_leftOf_1 ?_
  refine lv_land hx hb dX2_leftOf_4 ?_
  refine lv_iconst (v := 1) hx hb dX2_leftOf_5 (by decide) ?_
  refine lv_lushr (v := (jushr (v &&& (-72340172838076674)) 1)) hx hb dX2_leftOf_6 rfl ?_
  exact eR_l hx hb hr hlocks (rfl) dX2_leftOf_7
set_option maxHeartbeats 4000000 in
set_option maxRecDepth 100000 in
theorem c_X2_rightOf (l : Launch) (g : GG) (H : Heap) (v : Int64)  : Met l yX2_rightOf (Cond.code yX2_rightOf cX2_rightOf 2 (some .long) :: wsL_law) ({ frames := 0, cells := 0, slots := 0, locals := 0 }) (PR g [.long v] H) (QRl (riS v) H) 0 0 NoA := by
  refine Met.R (by decide) (Nat.le_of_ble_eq_true rfl) rfl ?_
  intro p e s m below meth c hx hb hr hml hw hown hlocks hkn hH ls hl
  subst hH
  have hl : lv_has ls 2 [(0, .long v)] := hl
  have hS : va_S NoA s.heap s.heap [] := va_S.rf
  refine lv_lload_n hx hb dX2_rightOf_0 rfl (lv_at hl 0 rfl) ?_
  refine lv_ldc2 hx hb hown (hw _ mw_444) dX2_rightOf_1 ?_
  refine lv_land hx hb dX2_rightOf_4 ?_
  refine lv_iconst (v := 1) hx hb dX2_rightOf_5 (by decide) ?_
  refine lv_lshl (v := (jshl (v &&& 9187201950435737471) 1)) hx hb dX2_rightOf_6 rfl ?_
  exact eR_l hx hb hr hlocks (rfl) dX2_rightOf_7
set_option maxHeartbeats 4000000 in
set_option maxRecDepth 100000 in
theorem c_X2_squareOf (l : Launch) (g : GG) (H : Heap) (k : Nat) (d : Nat) (hk : k < 64) (hd : d < 4) : Met l yX2_squareOf (Cond.code yX2_squareOf cX2_squareOf 4 (some .long) :: wsL_law) ({ frames := 0, cells := 0, slots := 0, locals := 0 }) (PR g [.int (nI k), .int (nI d)] H) (QRl (sqS k d) H) 0 0 NoA := by
  refine Met.R (by decide) (Nat.le_of_ble_eq_true rfl) rfl ?_
  intro p e s m below meth c hx hb hr hml hw hown hlocks hkn hH ls hl
  subst hH
  have hl : lv_has ls 4 [(0, .int (nI k)), (1, .int (nI d))] := hl
  have hS : va_S NoA s.heap s.heap [] := va_S.rf
  refine lv_iload_n hx hb dX2_squareOf_0 rfl (lv_at hl 1 rfl) ?_
  refine lv_if_lt (tgt := 9) hx hb dX2_squareOf_1 (by decide) (fun c_1 => ?_) (fun c_1 => ?_)
  · skip
    exact absurd c_1 (nI_pos (by omega))
  · skip
    refine lv_iload_n hx hb dX2_squareOf_4 rfl (lv_at hl 1 rfl) ?_
    refine lv_iconst (v := 3) hx hb dX2_squareOf_5 (by decide) ?_
    refine ic_le (a := d) (d := 3) (tgt := 11) hx hb dX2_squareOf_6 (by decide) rfl rfl (by omega) (by omega) (fun c_2 => ?_) (fun c_2 => ?_)
    · skip
      refine lv_bipush (v := 8) hx hb dX2_squareOf_11 (by decide) ?_
      refine lv_iload_n hx hb dX2_squareOf_13 rfl (lv_at hl 1 rfl) ?_
      refine lv_ishr hx hb dX2_squareOf_14 ?_
      refine lv_iconst (v := 1) hx hb dX2_squareOf_15 (by decide) ?_
      refine lv_isub hx hb dX2_squareOf_16 ?_
      refine lv_eqi (show _ = (nI (wi d)) from wi_eq hd) ?_
      refine lv_istore_n (lv' := [(2, .int (nI (wi d))), (0, .int (nI k)), (1, .int (nI d))]) hx hb dX2_squareOf_17 rfl hl (by decide) rfl (fun ls hl => ?_)
      refine lv_iload_n hx hb dX2_squareOf_18 rfl (lv_at hl 1 rfl) ?_
      refine lv_bipush (v := 8) hx hb dX2_squareOf_19 (by decide) ?_
      refine lv_iload_n hx hb dX2_squareOf_21 rfl (lv_at hl 0 rfl) ?_
      refine lv_imul hx hb dX2_squareOf_22 ?_
      refine lv_eqi (pk_mul 8 (wi d)) ?_
      refine lv_iload_n hx hb dX2_squareOf_23 rfl (lv_at hl 0 rfl) ?_
      refine lv_iadd hx hb dX2_squareOf_24 ?_
      refine lv_eqi (nI_add (8 * (wi d)) (wi d)) ?_
      refine lv_iconst (v := (-1)) hx hb dX2_squareOf_25 (by decide) ?_
      refine lv_ixor hx hb dX2_squareOf_26 ?_
      refine lv_iand hx hb dX2_squareOf_27 ?_
      refine lv_eqi (show _ = (nI (cor k d)) from cor_eq hk hd) ?_
      refine lv_istore_n (lv' := [(3, .int (nI (cor k d))), (2, .int (nI (wi d))), (0, .int (nI k)), (1, .int (nI d))]) hx hb dX2_squareOf_28 rfl hl (by decide) rfl (fun ls hl => ?_)
      refine va_gets hx hb hkn.2.2.2.1.1 hS hown (hw _ mw_155) (fun _ h => h) dX2_squareOf_29 ?_
      refine lv_iload_n hx hb dX2_squareOf_32 rfl (lv_at hl 3 rfl) ?_
      refine va_tl (v := .long (corn d)) hx hb hkn.2.2.2.1.2 hS (vp_in_nI (n := d) (by omega) (by decide)) (by rw [nI_clamp (by omega)]; rfl) dX2_squareOf_33 ?_
      refine lv_iload_n hx hb dX2_squareOf_34 rfl (lv_at hl 0 rfl) ?_
      refine lv_lshl (v := (jshl (corn d) (cor k d))) hx hb dX2_squareOf_35 rfl ?_
      exact eR_l hx hb hr hlocks (rfl) dX2_squareOf_36
    · skip
      exact absurd c_2 (by omega)
set_option maxHeartbeats 4000000 in
set_option maxRecDepth 100000 in
theorem c_X2_quarterCells (l : Launch) (g : GG) (H : Heap) (q : Nat) (hq : q < 4) : Met l yX2_quarterCells (Cond.code yX2_quarterCells cX2_quarterCells 1 (some .long) :: wsL_law) ({ frames := 1, cells := 0, slots := 0, locals := 20 }) (PR g [.int (nI q)] H) (QRl (qcS q) H) 0 0 NoA := by
  refine Met.R (by decide) (Nat.le_of_ble_eq_true rfl) rfl ?_
  intro p e s m below meth c hx hb hr hml hw hown hlocks hkn hH ls hl
  subst hH
  have hl : lv_has ls 1 [(0, .int (nI q))] := hl
  have hS : va_S NoA s.heap s.heap [] := va_S.rf
  refine va_gets hx hb hkn.2.2.2.1.1 hS hown (hw _ mw_155) (fun _ h => h) dX2_quarterCells_0 ?_
  refine lv_iconst (v := 1) hx hb dX2_quarterCells_3 (by decide) ?_
  refine va_tl (v := .long (corn 1)) hx hb hkn.2.2.2.1.2 hS (vp_in_nI (n := 1) (by omega) (by decide)) (rfl) dX2_quarterCells_4 ?_
  refine lv_iload_n hx hb dX2_quarterCells_5 rfl (lv_at hl 0 rfl) ?_
  refine cS_i (As := [.int (nI q)]) (rest := [.long (corn 1)]) hx hb hml hown hw hkn hS hl (c_X2_quarterCorner l g _ q (by omega)) sf_X2_quarterCorner mw_354 ⟨(Nat.le_of_ble_eq_true rfl), (Nat.le_of_ble_eq_true rfl)⟩ rfl rfl rfl rfl (Nat.le_of_ble_eq_true rfl) dX2_quarterCells_6 ⟨(Nat.le_of_ble_eq_true rfl), (Nat.le_of_ble_eq_true rfl)⟩ ?_
  refine lv_lshl (v := (jshl (corn 1) (qcn q))) hx hb dX2_quarterCells_9 rfl ?_
  exact eR_l hx hb hr hlocks (rfl) dX2_quarterCells_10
set_option maxHeartbeats 4000000 in
set_option maxRecDepth 100000 in
theorem c_J13_bitCount_95d88 (l : Launch) (g : GG) (H : Heap) (v : Int64)  : Met l yJ13_bitCount_95d88 (Cond.code yJ13_bitCount_95d88 cJ13_bitCount_95d88 2 (some .int) :: wsL_law) ({ frames := 0, cells := 0, slots := 0, locals := 0 }) (PR g [.long v] H) (QRi (bcS v) H) 0 0 NoA := by
  refine Met.R (by decide) (Nat.le_of_ble_eq_true rfl) rfl ?_
  intro p e s m below meth c hx hb hr hml hw hown hlocks hkn hH ls hl
  subst hH
  have hl : lv_has ls 2 [(0, .long v)] := hl
  have hS : va_S NoA s.heap s.heap [] := va_S.rf
  refine lv_lload_n hx hb dJ13_bitCount_95d88_0 rfl (lv_at hl 0 rfl) ?_
  refine lv_lload_n hx hb dJ13_bitCount_95d88_1 rfl (lv_at hl 0 rfl) ?_
  refine lv_iconst (v := 1) hx hb dJ13_bitCount_95d88_2 (by decide) ?_
  refine lv_lushr (v := (jushr v 1)) hx hb dJ13_bitCount_95d88_3 rfl ?_
  refine lv_ldc2 hx hb hown (hw _ mw_238) dJ13_bitCount_95d88_4 ?_
  refine lv_land hx hb dJ13_bitCount_95d88_7 ?_
  refine lv_lsub hx hb dJ13_bitCount_95d88_8 ?_
  refine lv_eql (show _ = (b1_ v) from rfl) ?_
  refine lv_lstore_n (lv' := [(0, .long (b1_ v))]) hx hb dJ13_bitCount_95d88_9 rfl hl (by decide) rfl (fun ls hl => ?_)
  refine lv_lload_n hx hb dJ13_bitCount_95d88_10 rfl (lv_at hl 0 rfl) ?_
  refine lv_ldc2 hx hb hown (hw _ mw_239) dJ13_bitCount_95d88_11 ?_
  refine lv_land hx hb dJ13_bitCount_95d88_14 ?_
  refine lv_lload_n hx hb dJ13_bitCount_95d88_15 rfl (lv_at hl 0 rfl) ?_
  refine lv_iconst (v := 2) hx hb dJ13_bitCount_95d88_16 (by decide) ?_
  refine lv_lushr (v := (jushr (b1_ v) 2)) hx hb dJ13_bitCount_95d88_17 rfl ?_
  refine lv_ldc2 hx hb hown (hw _ mw_239) dJ13_bitCount_95d88_18 ?_
  refine lv_land hx hb dJ13_bitCount_95d88_21 ?_
  refine lv_ladd hx hb dJ13_bitCount_95d88_22 ?_
  refine lv_eql (show _ = (b2_ (b1_ v)) from rfl) ?_
  refine lv_lstore_n (lv' := [(0, .long (b2_ (b1_ v)))]) hx hb dJ13_bitCount_95d88_23 rfl hl (by decide) rfl (fun ls hl => ?_)
  refine lv_lload_n hx hb dJ13_bitCount_95d88_24 rfl (lv_at hl 0 rfl) ?_
  refine lv_lload_n hx hb dJ13_bitCount_95d88_25 rfl (lv_at hl 0 rfl) ?_
  refine lv_iconst (v := 4) hx hb dJ13_bitCount_95d88_26 (by decide) ?_
  refine lv_lushr (v := (jushr (b2_ (b1_ v)) 4)) hx hb dJ13_bitCount_95d88_27 rfl ?_
  refine lv_ladd hx hb dJ13_bitCount_95d88_28 ?_
  refine lv_ldc2 hx hb hown (hw _ mw_240) dJ13_bitCount_95d88_29 ?_
  refine lv_land hx hb dJ13_bitCount_95d88_32 ?_
  refine lv_eql (show _ = (b3_ (b2_ (b1_ v))) from rfl) ?_
  refine lv_lstore_n (lv' := [(0, .long (b3_ (b2_ (b1_ v))))]) hx hb dJ13_bitCount_95d88_33 rfl hl (by decide) rfl (fun ls hl => ?_)
  refine lv_lload_n hx hb dJ13_bitCount_95d88_34 rfl (lv_at hl 0 rfl) ?_
  refine lv_lload_n hx hb dJ13_bitCount_95d88_35 rfl (lv_at hl 0 rfl) ?_
  refine lv_bipush (v := 8) hx hb dJ13_bitCount_95d88_36 (by decide) ?_
  refine lv_lushr (v := (jushr (b3_ (b2_ (b1_ v))) 8)) hx hb dJ13_bitCount_95d88_38 rfl ?_
  refine lv_ladd hx hb dJ13_bitCount_95d88_39 ?_
  refine lv_eql (show _ = (b4_ (b3_ (b2_ (b1_ v)))) from rfl) ?_
  refine lv_lstore_n (lv' := [(0, .long (b4_ (b3_ (b2_ (b1_ v)))))]) hx hb dJ13_bitCount_95d88_40 rfl hl (by decide) rfl (fun ls hl => ?_)
  refine lv_lload_n hx hb dJ13_bitCount_95d88_41 rfl (lv_at hl 0 rfl) ?_
  refine lv_lload_n hx hb dJ13_bitCount_95d88_42 rfl (lv_at hl 0 rfl) ?_
  refine lv_bipush (v := 16) hx hb dJ13_bitCount_95d88_43 (by decide) ?_
  refine lv_lushr (v := (jushr (b4_ (b3_ (b2_ (b1_ v)))) 16)) hx hb dJ13_bitCount_95d88_45 rfl ?_
  refine lv_ladd hx hb dJ13_bitCount_95d88_46 ?_
  refine lv_eql (show _ = (b5_ (b4_ (b3_ (b2_ (b1_ v))))) from rfl) ?_
  refine lv_lstore_n (lv' := [(0, .long (b5_ (b4_ (b3_ (b2_ (b1_ v))))))]) hx hb dJ13_bitCount_95d88_47 rfl hl (by decide) rfl (fun ls hl => ?_)
  refine lv_lload_n hx hb dJ13_bitCount_95d88_48 rfl (lv_at hl 0 rfl) ?_
  refine lv_lload_n hx hb dJ13_bitCount_95d88_49 rfl (lv_at hl 0 rfl) ?_
  refine lv_bipush (v := 32) hx hb dJ13_bitCount_95d88_50 (by decide) ?_
  refine lv_lushr (v := (jushr (b5_ (b4_ (b3_ (b2_ (b1_ v))))) 32)) hx hb dJ13_bitCount_95d88_52 rfl ?_
  refine lv_ladd hx hb dJ13_bitCount_95d88_53 ?_
  refine lv_eql (show _ = (b6_ (b5_ (b4_ (b3_ (b2_ (b1_ v)))))) from rfl) ?_
  refine lv_lstore_n (lv' := [(0, .long (b6_ (b5_ (b4_ (b3_ (b2_ (b1_ v)))))))]) hx hb dJ13_bitCount_95d88_54 rfl hl (by decide) rfl (fun ls hl => ?_)
  refine lv_lload_n hx hb dJ13_bitCount_95d88_55 rfl (lv_at hl 0 rfl) ?_
  refine lv_l2i hx hb dJ13_bitCount_95d88_56 rfl ?_
  refine lv_bipush (v := 127) hx hb dJ13_bitCount_95d88_57 (by decide) ?_
  refine lv_iand hx hb dJ13_bitCount_95d88_59 ?_
  exact eR_i hx hb hr hlocks (rfl) dJ13_bitCount_95d88_60
