/-! The reference: judging, what was seen, shares, chances, slots. -/
theorem b2i_1 {b : Bool} : b2i b = 1 ↔ b = true := by cases b <;> decide
theorem tr_lt (nw : Nat → Int64) (j : Nat) (h : j < 3) : trF (ltF nw) j = nw j := by unfold trF ltF; rw [if_pos ⟨by omega, by omega⟩]; congr 1; omega
theorem lt_live (nw : Nat → Int64) (j : Nat) (h : j < 3) : ltF nw j = nw j := by unfold ltF; rw [if_neg (by omega)]
theorem mg_live (nw t : Nat → Int64) (j : Nat) (h : j < 3) : mgT nw t j = nw j := if_pos h
theorem in1_of {x : Int32} {z : Int32} {N : Nat} (hz : z = nI N) (hN : N < 2 ^ 31) (h : inL x.toInt64 1 z.toInt64 = true) : ∃ j : Nat, 1 ≤ j ∧ j ≤ N ∧ x = nI j := by
  have h2 := of_decide_eq_true h
  have h3 : ¬ x < 1 := fun q => h2.1 ((fa_wide_lt x 1).mpr q)
  have h4 : ¬ z < x := fun q => h2.2 ((fa_wide_lt z x).mpr q)
  have h5 : ¬ x < 0 := fun q => h3 (Int32.lt_of_lt_of_le q (by decide))
  obtain ⟨j, hj, e⟩ := nI_of h5
  refine ⟨j, ?_, ?_, e⟩
  · refine Nat.pos_of_ne_zero fun q => h3 ?_
    rw [e, q]; decide
  · refine Nat.le_of_not_lt fun q => h4 ?_
    rw [e, hz]; exact (nI_ltI hN hj).mpr q
def mJd (nw : Nat → Int64) (x : Int32) (row : Int64) : Int32 := if inL x.toInt64 1 4 = true then (if inL row 0 (thM x.toNatClampNeg - 1) = true then mdG row x.toNatClampNeg x.toNatClampNeg 0 (trF (ltF nw)) else -2) else -2
theorem se_no {x y : Int32} {n : Nat} (h : isCel x = true) (h2 : is01 y = false) : qSe x y n = -2 := by
  unfold is01 at h2
  simp only [Bool.or_eq_false_iff, decide_eq_false_iff_not] at h2
  unfold qSe
  rw [if_pos h, if_neg h2.1, if_neg h2.2]
theorem se_yes {x y : Int32} {n : Nat} (h : isCel x = true) (h2 : is01 y = true) : qSe x y n = if decide (n < 6) = true then nI (saN n) else -4 := by
  unfold is01 at h2
  simp only [Bool.or_eq_true, decide_eq_true_eq] at h2
  unfold qSe
  rw [if_pos h]
  by_cases q : y = 0
  · rw [if_pos q]
  · rw [if_neg q, if_pos (h2.resolve_left q)]
theorem seB_eq (x y : Int32) : qSeB x y = (isCel x && is01 y) := rfl
theorem in0_of {x : Int32} {z : Int32} {N : Nat} (hz : z = nI N) (hN : N < 2 ^ 31) (h : inL x.toInt64 0 z.toInt64 = true) : ∃ j : Nat, j ≤ N ∧ x = nI j := by
  have h2 := of_decide_eq_true h
  have h3 : ¬ x < 0 := fun q => h2.1 ((fa_wide_lt x 0).mpr q)
  have h4 : ¬ z < x := fun q => h2.2 ((fa_wide_lt z x).mpr q)
  obtain ⟨j, hj, e⟩ := nI_of h3
  refine ⟨j, ?_, e⟩
  refine Nat.le_of_not_lt fun q => h4 ?_
  rw [e, hz]; exact (nI_ltI hN hj).mpr q
theorem lv_s {m : Nat → Bool} {k n : Nat} {y : Int32} (h : (n, y) = lvG m k) (hm : m k = true) : (n + 1, if n = 0 then nI (figN k) else y) = lvG m (k + 1) := by
  rw [lvG, ← h, if_pos hm]
theorem lv_n {m : Nat → Bool} {k n : Nat} {y : Int32} (h : (n, y) = lvG m k) (hm : m k = false) : (n, y) = lvG m (k + 1) := by
  rw [lvG, ← h, if_neg (nt_of hm)]
theorem th_sh {x : Nat} {i : Nat} (hi : i < 8) (hx : x < 3) : ((nI i >>> (nI x &&& 31)) &&& 1) = nI (sb i x) := sb_eq (by omega) (by omega)
theorem kp_step {b i : Nat} {nw kp : Nat → Int64} : vp_updL (fun t => if b ≤ t ∧ t < b + i then nw (t - b) else kp t) (b + i) (nw i) = fun t => if b ≤ t ∧ t < b + (i + 1) then nw (t - b) else kp t := rk_step
theorem or_t (i : Nat) : (if i = 0 then (2 : Int32) else if pcn (lN i) = 2 then 2 else 1) = nI (orde i) := by
  unfold orde
  by_cases h : i = 0
  · simp [h]; rfl
  · by_cases h2 : pcn (lN i) = 2
    · simp [h, h2]; rfl
    · simp [h, h2]; rfl
theorem yr_b (x : Int32) : inL x.toInt64 1 30 = qYrB x := in1_in x 30 (z := 30) rfl
theorem ab_7 (nw : Nat → Int64) : abS nw 7 = nw 0 ||| nw 1 ||| nw 2 := by
  show abF nw 7 2 (abF nw 7 1 (abF nw 7 0 0)) = _
  unfold abF
  rw [if_pos (by decide), if_pos (by decide), if_pos (by decide), show (0 : Int64) ||| nw 0 = nw 0 from bt_ext fun k _ => by rw [bt_or, bt_0, Bool.false_or]]
set_option maxHeartbeats 4000000 in
set_option maxRecDepth 100000 in
theorem c_X7_judge (l : Launch) (g : GG) (sz : Nat) (h0 : Nat) (x0 : Int32) (r0 : Int64) (d1 : Nat) (ln : Nat) (rd : Int64) (xd : Int32) (xq : Int32) (d2 : Nat) (an : Nat) (nx : Nat) (d3 : Nat) (d4 : Nat) (d5 : Nat) (d6 : Nat) (xm : Int32) (zn : Nat) (d7 : Nat) (d8 : Nat) (sd : Int64) (d9 : Nat) (d0 : Nat) (nw : Nat → Int64)  : Met l yX7_judge (Cond.code yX7_judge cX7_judge 6 (some .int) :: wsL_law) ({ frames := 6, cells := 0, slots := 0, locals := 150 }) (PM g [.ref h0, .int x0, .long r0] [(h0, .inr (6, [.ref d1, .int (nI ln), .long rd, .int xd, .int xq, .ref d2, .int (nI an), .int (nI nx), .ref d3, .ref d4, .ref d5, .ref d6, .int xm, .int (nI zn), .ref d7, .ref d8, .long sd, .ref d9, .ref d0])), (d2, .inl (gJ g, 6, .inr (.inl nw)))] sz) (QAi g (fun (r : Int32) (u : (Nat → Int64)) => r = mJd nw x0 r0 ∧ (∀ j, j < 3 → u j = nw j)) (fun (u : (Nat → Int64)) => [(h0, .inr (6, [.ref d1, .int (nI ln), .long rd, .int xd, .int xq, .ref d2, .int (nI an), .int (nI nx), .ref d3, .ref d4, .ref d5, .ref d6, .int xm, .int (nI zn), .ref d7, .ref d8, .long sd, .ref d9, .ref d0])), (d2, .inl (gJ g, 6, .inr (.inl u)))]) (va_A [(h0, .inr (6, [.ref d1, .int (nI ln), .long rd, .int xd, .int xq, .ref d2, .int (nI an), .int (nI nx), .ref d3, .ref d4, .ref d5, .ref d6, .int xm, .int (nI zn), .ref d7, .ref d8, .long sd, .ref d9, .ref d0])), (d2, .inl (gJ g, 6, .inr (.inl nw)))] sz)) 0 0 (va_A [(h0, .inr (6, [.ref d1, .int (nI ln), .long rd, .int xd, .int xq, .ref d2, .int (nI an), .int (nI nx), .ref d3, .ref d4, .ref d5, .ref d6, .int xm, .int (nI zn), .ref d7, .ref d8, .long sd, .ref d9, .ref d0])), (d2, .inl (gJ g, 6, .inr (.inl nw)))] sz) := by
  refine Met.M (Qc := fun A => QAi g (fun (r : Int32) (u : (Nat → Int64)) => r = mJd nw x0 r0 ∧ (∀ j, j < 3 → u j = nw j)) (fun (u : (Nat → Int64)) => [(h0, .inr (6, [.ref d1, .int (nI ln), .long rd, .int xd, .int xq, .ref d2, .int (nI an), .int (nI nx), .ref d3, .ref d4, .ref d5, .ref d6, .int xm, .int (nI zn), .ref d7, .ref d8, .long sd, .ref d9, .ref d0])), (d2, .inl (gJ g, 6, .inr (.inl u)))]) A) (by decide) (Nat.le_of_ble_eq_true rfl) rfl ?_
  intro p e s m below meth c hx hb hr hml hw hown hlocks hin A hA hkn hP hD ls hl
  have hl : lv_has ls 6 [(0, .ref h0), (1, .int x0), (2, .long r0)] := hl
  have hS : va_S A s.heap s.heap [] := va_S.rf
  obtain ⟨H, hHe⟩ : ∃ H, H = s.heap := ⟨_, rfl⟩
  obtain ⟨locs, hLe⟩ : ∃ locs : List Loc, locs = [] := ⟨_, rfl⟩
  have hP : va_P g.1 vwCl [(h0, .inr (6, [.ref d1, .int (nI ln), .long rd, .int xd, .int xq, .ref d2, .int (nI an), .int (nI nx), .ref d3, .ref d4, .ref d5, .ref d6, .int xm, .int (nI zn), .ref d7, .ref d8, .long sd, .ref d9, .ref d0])), (d2, .inl (gJ g, 6, .inr (.inl nw)))] H := by rw [hHe]; exact hP
  have hS : va_S A s.heap H locs := by rw [hHe, hLe]; exact hS
  have hgo : W p l e ({ frames := 6, cells := 0, slots := 0, locals := 150 } : Room) s m ([.ref h0, .int x0, .long r0] : List Value).toArray below meth c H locs 0 0 (MQ below (QAi g (fun (r : Int32) (u : (Nat → Int64)) => r = mJd nw x0 r0 ∧ (∀ j, j < 3 → u j = nw j)) (fun (u : (Nat → Int64)) => [(h0, .inr (6, [.ref d1, .int (nI ln), .long rd, .int xd, .int xq, .ref d2, .int (nI an), .int (nI nx), .ref d3, .ref d4, .ref d5, .ref d6, .int xm, .int (nI zn), .ref d7, .ref d8, .long sd, .ref d9, .ref d0])), (d2, .inl (gJ g, 6, .inr (.inl u)))]) A) ([.ref h0, .int x0, .long r0] : List Value).toArray s 0 0 A) (F0 m 0 ls []) := ?_
  · rw [hHe, hLe] at hgo; exact hgo
  clear hHe hLe
  refine lv_iload_n hx hb dX7_judge_0 rfl (lv_at hl 1 rfl) ?_
  refine lv_i2l hx hb dX7_judge_1 rfl ?_
  refine lv_lconst (v := 1) hx hb dX7_judge_2 rfl ?_
  refine lv_ldc2 hx hb hown (hw _ mw_597) dX7_judge_3 ?_
  refine cS_i (As := [.long ((x0).toInt64), .long 1, .long 4]) (rest := []) hx hb hml hown hw hkn hS hl (c_X7_in l g _ ((x0).toInt64) 1 4 ) sf_X7_in mw_101 ⟨(Nat.le_of_ble_eq_true rfl), (Nat.le_of_ble_eq_true rfl)⟩ rfl rfl rfl rfl (Nat.le_of_ble_eq_true rfl) dX7_judge_6 ⟨(Nat.le_of_ble_eq_true rfl), (Nat.le_of_ble_eq_true rfl)⟩ ?_
  refine lv_ifeqB (b := inL ((x0).toInt64) 1 4) (tgt := 26) hx hb dX7_judge_9 (by decide) (fun c_1 => ?_) (fun c_1 => ?_)
  · skip
    refine lv_bipush (v := (-2)) hx hb dX7_judge_26 (by decide) ?_
    exact eM_i (g := g) hx hb hr hlocks nw (⟨by unfold mJd; rw [if_neg (nt_of c_1)], fun _ _ => rfl⟩) (hP.sub [0, 1] rfl) (hD.sub [0, 1] (by decide) rfl) hS dX7_judge_28
  · skip
    obtain ⟨x9, hx1, hx4, ex9⟩ := in1_of (N := 4) (z := 4) rfl (by decide) c_1
    have ec : x0.toNatClampNeg = x9 := by rw [ex9, nI_clamp (by omega)]
    have hj0 : mJd nw x0 r0 = if inL r0 0 (thM x9 - 1) = true then mdG r0 x9 x9 0 (trF (ltF nw)) else -2 := by unfold mJd; rw [if_pos c_1, ec]
    refine lv_lload_n hx hb dX7_judge_12 rfl (lv_at hl 2 rfl) ?_
    refine lv_lconst (v := 0) hx hb dX7_judge_13 rfl ?_
    refine lv_iload_n hx hb dX7_judge_14 rfl (lv_at hl 1 rfl) ?_
    refine lv_eqi (show _ = (nI x9) from ex9) ?_
    refine cS_l (As := [.int (nI x9)]) (rest := [.long 0, .long r0]) hx hb hml hown hw hkn hS hl (c_X7_thousandTo l g _ x9 (by omega)) sf_X7_thousandTo mw_599 ⟨(Nat.le_of_ble_eq_true rfl), (Nat.le_of_ble_eq_true rfl)⟩ rfl rfl rfl rfl (Nat.le_of_ble_eq_true rfl) dX7_judge_15 ⟨(Nat.le_of_ble_eq_true rfl), (Nat.le_of_ble_eq_true rfl)⟩ ?_
    refine lv_lconst (v := 1) hx hb dX7_judge_18 rfl ?_
    refine lv_lsub hx hb dX7_judge_19 ?_
    refine cS_i (As := [.long r0, .long 0, .long ((thM x9) - 1)]) (rest := []) hx hb hml hown hw hkn hS hl (c_X7_in l g _ r0 0 ((thM x9) - 1) ) sf_X7_in mw_101 ⟨(Nat.le_of_ble_eq_true rfl), (Nat.le_of_ble_eq_true rfl)⟩ rfl rfl rfl rfl (Nat.le_of_ble_eq_true rfl) dX7_judge_20 ⟨(Nat.le_of_ble_eq_true rfl), (Nat.le_of_ble_eq_true rfl)⟩ ?_
    refine lv_ifneB (b := inL r0 0 ((thM x9) - 1)) (tgt := 29) hx hb dX7_judge_23 (by decide) (fun c_2 => ?_) (fun c_2 => ?_)
    · skip
      refine lv_aload_n hx hb dX7_judge_29 rfl (lv_at hl 0 rfl) ?_
      refine cVM_v (As := []) (rest := []) (q0 := 0) (wc := [(h0, .inr (6, [.ref d1, .int (nI ln), .long rd, .int xd, .int xq, .ref d2, .int (nI an), .int (nI nx), .ref d3, .ref d4, .ref d5, .ref d6, .int xm, .int (nI zn), .ref d7, .ref d8, .long sd, .ref d9, .ref d0])), (d2, .inl (gJ g, 6, .inr (.inl nw)))]) (wr := []) hx hb hml hown hw hkn hS hl hA hP hD [0, 1] [] rfl rfl (by decide) (by decide) (by decide) (c_X7_layTrial l g _ h0 d1 ln rd xd xq d2 an nx d3 d4 d5 d6 xm zn d7 d8 sd d9 d0 nw ) vf_X7_layTrial mw_602 rfl rfl ⟨(Nat.le_of_ble_eq_true rfl), (Nat.le_of_ble_eq_true rfl)⟩ rfl rfl rfl rfl (Nat.le_of_ble_eq_true rfl) dX7_judge_30 ⟨(Nat.le_of_ble_eq_true rfl), (Nat.le_of_ble_eq_true rfl)⟩ (fun u H locs hq hP hD hS => ?_)
      have hP : va_P g.1 vwCl [(h0, .inr (6, [.ref d1, .int (nI ln), .long rd, .int xd, .int xq, .ref d2, .int (nI an), .int (nI nx), .ref d3, .ref d4, .ref d5, .ref d6, .int xm, .int (nI zn), .ref d7, .ref d8, .long sd, .ref d9, .ref d0])), (d2, .inl (gJ g, 6, .inr (.inl (ltF nw))))] H := hP.sub [0, 1] rfl
      have hD : va_D A [(h0, .inr (6, [.ref d1, .int (nI ln), .long rd, .int xd, .int xq, .ref d2, .int (nI an), .int (nI nx), .ref d3, .ref d4, .ref d5, .ref d6, .int xm, .int (nI zn), .ref d7, .ref d8, .long sd, .ref d9, .ref d0])), (d2, .inl (gJ g, 6, .inr (.inl (ltF nw))))] := hD.sub [0, 1] (by decide) rfl
      refine lv_iconst (v := 0) hx hb dX7_judge_33 (by decide) ?_
      refine lv_istore (lv' := [(4, .int 0), (0, .ref h0), (1, .int x0), (2, .long r0)]) hx hb dX7_judge_34 hl (by decide) rfl (fun ls hl => ?_)
      have lp_36 : ∀ (n_36 : Nat) (i : Nat) (f1 : Nat → Int64), (i ≤ x9) → (∀ j, j < 3 → f1 j = nw j) → (mdG r0 x9 (x9 - i) i (trF f1) = mdG r0 x9 x9 0 (trF (ltF nw))) → x9 < i + n_36 → ∀ (H : Heap) (locs : List Loc), va_P g.1 vwCl [(h0, .inr (6, [.ref d1, .int (nI ln), .long rd, .int xd, .int xq, .ref d2, .int (nI an), .int (nI nx), .ref d3, .ref d4, .ref d5, .ref d6, .int xm, .int (nI zn), .ref d7, .ref d8, .long sd, .ref d9, .ref d0])), (d2, .inl (gJ g, 6, .inr (.inl f1)))] H → va_D A [(h0, .inr (6, [.ref d1, .int (nI ln), .long rd, .int xd, .int xq, .ref d2, .int (nI an), .int (nI nx), .ref d3, .ref d4, .ref d5, .ref d6, .int xm, .int (nI zn), .ref d7, .ref d8, .long sd, .ref d9, .ref d0])), (d2, .inl (gJ g, 6, .inr (.inl f1)))] → va_S A s.heap H locs → ∀ (ls : Array Slot), lv_has ls 6 [(4, .int (nI i)), (0, .ref h0), (1, .int x0), (2, .long r0)] → W p l e ({ frames := 6, cells := 0, slots := 0, locals := 150 } : Room) s m ([.ref h0, .int x0, .long r0] : List Value).toArray below meth c H locs 0 0 (MQ below (QAi g (fun (r : Int32) (u : (Nat → Int64)) => r = mJd nw x0 r0 ∧ (∀ j, j < 3 → u j = nw j)) (fun (u : (Nat → Int64)) => [(h0, .inr (6, [.ref d1, .int (nI ln), .long rd, .int xd, .int xq, .ref d2, .int (nI an), .int (nI nx), .ref d3, .ref d4, .ref d5, .ref d6, .int xm, .int (nI zn), .ref d7, .ref d8, .long sd, .ref d9, .ref d0])), (d2, .inl (gJ g, 6, .inr (.inl u)))]) A) ([.ref h0, .int x0, .long r0] : List Value).toArray s 0 0 A) (F0 m 36 ls []) := by
        intro n_36
        induction n_36 with
        | zero => intro i f1 h_i h_v h_t hfu_36; exact absurd hfu_36 (by omega)
        | succ n_36 ih_36 =>
          intro i f1 h_i h_v h_t hfu_36 H locs hP hD hS ls hl
          have h_s : ∀ k, x9 - i = k + 1 → mdG r0 x9 x9 0 (trF (ltF nw)) = if doB (trF f1) (mdV r0 x9 i / 100) (mdV r0 x9 i / 10 - mdV r0 x9 i / 10 / 10 * 10) (mdV r0 x9 i - mdV r0 x9 i / 10 * 10) = true then mdG r0 x9 k (i + 1) (doF (trF f1) (mdV r0 x9 i / 100) (mdV r0 x9 i / 10 - mdV r0 x9 i / 10 / 10 * 10) (mdV r0 x9 i - mdV r0 x9 i / 10 * 10)) else nI i := fun k hk => by rw [← h_t, hk]; rfl
          refine lv_iload hx hb dX7_judge_36 (lv_at hl 0 rfl) ?_
          refine lv_iload_n hx hb dX7_judge_38 rfl (lv_at hl 2 rfl) ?_
          refine lv_eqi (show _ = (nI x9) from ex9) ?_
          refine ic_ge (a := i) (d := x9) (tgt := 94) hx hb dX7_judge_39 (by decide) rfl rfl (by omega) (by omega) (fun c_4 => ?_) (fun c_4 => ?_)
          · skip
            refine lv_bipush (v := (-9)) hx hb dX7_judge_94 (by decide) ?_
            exact eM_i (g := g) hx hb hr hlocks f1 (⟨by rw [hj0, if_pos c_2, ← h_t, show x9 - i = 0 by omega]; rfl, h_v⟩) (hP.sub [0, 1] rfl) (hD.sub [0, 1] (by decide) rfl) hS dX7_judge_96
          · skip
            refine lv_lload_n hx hb dX7_judge_42 rfl (lv_at hl 3 rfl) ?_
            refine lv_iload_n hx hb dX7_judge_43 rfl (lv_at hl 2 rfl) ?_
            refine lv_eqi (show _ = (nI x9) from ex9) ?_
            refine lv_iconst (v := 1) hx hb dX7_judge_44 (by decide) ?_
            refine lv_isub hx hb dX7_judge_45 ?_
            refine lv_eqi (pk_sub (a := x9) (b := 1) (by omega)) ?_
            refine lv_iload hx hb dX7_judge_46 (lv_at hl 0 rfl) ?_
            refine lv_isub hx hb dX7_judge_48 ?_
            refine lv_eqi (pk_sub (a := x9 - 1) (b := i) (by omega)) ?_
            refine cS_l (As := [.int (nI (x9 - 1 - i))]) (rest := [.long r0]) hx hb hml hown hw hkn hS hl (c_X7_thousandTo l g _ (x9 - 1 - i) (by omega)) sf_X7_thousandTo mw_599 ⟨(Nat.le_of_ble_eq_true rfl), (Nat.le_of_ble_eq_true rfl)⟩ rfl rfl rfl rfl (Nat.le_of_ble_eq_true rfl) dX7_judge_49 ⟨(Nat.le_of_ble_eq_true rfl), (Nat.le_of_ble_eq_true rfl)⟩ ?_
            refine lv_ldiv hx hb dX7_judge_52 (th_ne (by omega)) ?_
            refine lv_ldc2 hx hb hown (hw _ mw_598) dX7_judge_53 ?_
            refine lv_lrem hx hb dX7_judge_56 (by decide) ?_
            refine lv_l2i hx hb dX7_judge_57 rfl ?_
            refine lv_eqi (show _ = (mdV r0 x9 i) from rfl) ?_
            refine lv_istore (lv' := [(5, .int (mdV r0 x9 i)), (4, .int (nI i)), (0, .ref h0), (1, .int x0), (2, .long r0)]) hx hb dX7_judge_58 hl (by decide) rfl (fun ls hl => ?_)
            refine lv_aload_n hx hb dX7_judge_60 rfl (lv_at hl 2 rfl) ?_
            refine lv_iload hx hb dX7_judge_61 (lv_at hl 0 rfl) ?_
            refine lv_bipush (v := 100) hx hb dX7_judge_63 (by decide) ?_
            refine lv_idiv hx hb dX7_judge_65 (by decide) ?_
            refine lv_iload hx hb dX7_judge_66 (lv_at hl 0 rfl) ?_
            refine lv_bipush (v := 10) hx hb dX7_judge_68 (by decide) ?_
            refine lv_idiv hx hb dX7_judge_70 (by decide) ?_
            refine lv_bipush (v := 10) hx hb dX7_judge_71 (by decide) ?_
            refine lv_irem hx hb dX7_judge_73 (by decide) ?_
            refine lv_iload hx hb dX7_judge_74 (lv_at hl 0 rfl) ?_
            refine lv_bipush (v := 10) hx hb dX7_judge_76 (by decide) ?_
            refine lv_irem hx hb dX7_judge_78 (by decide) ?_
            refine cVM_i (As := [.int ((mdV r0 x9 i) / 100), .int (((mdV r0 x9 i) / 10) - ((mdV r0 x9 i) / 10) / 10 * 10), .int ((mdV r0 x9 i) - (mdV r0 x9 i) / 10 * 10)]) (rest := []) (q0 := 0) (wc := [(h0, .inr (6, [.ref d1, .int (nI ln), .long rd, .int xd, .int xq, .ref d2, .int (nI an), .int (nI nx), .ref d3, .ref d4, .ref d5, .ref d6, .int xm, .int (nI zn), .ref d7, .ref d8, .long sd, .ref d9, .ref d0])), (d2, .inl (gJ g, 6, .inr (.inl f1)))]) (wr := []) hx hb hml hown hw hkn hS hl hA hP hD [0, 1] [] rfl rfl (by decide) (by decide) (by decide) (c_X7_tryThing l g _ h0 ((mdV r0 x9 i) / 100) (((mdV r0 x9 i) / 10) - ((mdV r0 x9 i) / 10) / 10 * 10) ((mdV r0 x9 i) - (mdV r0 x9 i) / 10 * 10) d1 ln rd xd xq d2 an nx d3 d4 d5 d6 xm zn d7 d8 sd d9 d0 f1 ) vf_X7_tryThing mw_606 rfl rfl ⟨(Nat.le_of_ble_eq_true rfl), (Nat.le_of_ble_eq_true rfl)⟩ rfl rfl rfl rfl (Nat.le_of_ble_eq_true rfl) dX7_judge_79 ⟨(Nat.le_of_ble_eq_true rfl), (Nat.le_of_ble_eq_true rfl)⟩ (fun r u H locs hq hP hD hS => ?_)
            have hq : r = (b2i (doB (trF f1) ((mdV r0 x9 i) / 100) (((mdV r0 x9 i) / 10) - ((mdV r0 x9 i) / 10) / 10 * 10) ((mdV r0 x9 i) - (mdV r0 x9 i) / 10 * 10))) := hq
            subst hq
            have hP : va_P g.1 vwCl [(h0, .inr (6, [.ref d1, .int (nI ln), .long rd, .int xd, .int xq, .ref d2, .int (nI an), .int (nI nx), .ref d3, .ref d4, .ref d5, .ref d6, .int xm, .int (nI zn), .ref d7, .ref d8, .long sd, .ref d9, .ref d0])), (d2, .inl (gJ g, 6, .inr (.inl (mgT f1 (doF (trF f1) ((mdV r0 x9 i) / 100) (((mdV r0 x9 i) / 10) - ((mdV r0 x9 i) / 10) / 10 * 10) ((mdV r0 x9 i) - (mdV r0 x9 i) / 10 * 10))))))] H := hP.sub [0, 1] rfl
            have hD : va_D A [(h0, .inr (6, [.ref d1, .int (nI ln), .long rd, .int xd, .int xq, .ref d2, .int (nI an), .int (nI nx), .ref d3, .ref d4, .ref d5, .ref d6, .int xm, .int (nI zn), .ref d7, .ref d8, .long sd, .ref d9, .ref d0])), (d2, .inl (gJ g, 6, .inr (.inl (mgT f1 (doF (trF f1) ((mdV r0 x9 i) / 100) (((mdV r0 x9 i) / 10) - ((mdV r0 x9 i) / 10) / 10 * 10) ((mdV r0 x9 i) - (mdV r0 x9 i) / 10 * 10))))))] := hD.sub [0, 1] (by decide) rfl
            refine lv_ifneB (b := doB (trF f1) ((mdV r0 x9 i) / 100) (((mdV r0 x9 i) / 10) - ((mdV r0 x9 i) / 10) / 10 * 10) ((mdV r0 x9 i) - (mdV r0 x9 i) / 10 * 10)) (tgt := 88) hx hb dX7_judge_82 (by decide) (fun c_6 => ?_) (fun c_6 => ?_)
            · skip
              refine lv_iinc (v := (nI (i + 1))) (lv' := [(4, .int (nI (i + 1))), (5, .int (mdV r0 x9 i)), (0, .ref h0), (1, .int x0), (2, .long r0)]) hx hb dX7_judge_88 hl (k := 1) rfl (nI_1 i) (by decide) rfl (fun ls hl => ?_)
              refine lv_goto (tgt := 36) hx hb dX7_judge_91 (by decide) ?_
              exact ih_36 (i + 1) (mgT f1 (doF (trF f1) ((mdV r0 x9 i) / 100) (((mdV r0 x9 i) / 10) - ((mdV r0 x9 i) / 10) / 10 * 10) ((mdV r0 x9 i) - (mdV r0 x9 i) / 10 * 10))) (by omega) (fun j hj => by rw [mg_live _ _ j hj]; exact h_v j hj) (by rw [mgT_tr, h_s (x9 - (i + 1)) (by omega)]; exact (if_pos c_6).symm) (by omega) _ _ hP hD hS ls (lv_sub hl [0, 2, 3, 4] rfl)
            · skip
              refine lv_iload hx hb dX7_judge_85 (lv_at hl 1 rfl) ?_
              exact eM_i (g := g) hx hb hr hlocks (mgT f1 (doF (trF f1) ((mdV r0 x9 i) / 100) (((mdV r0 x9 i) / 10) - ((mdV r0 x9 i) / 10) / 10 * 10) ((mdV r0 x9 i) - (mdV r0 x9 i) / 10 * 10))) (⟨by rw [hj0, if_pos c_2, h_s (x9 - (i + 1)) (by omega), if_neg (nt_of c_6)], fun j hj => by rw [mg_live _ _ j hj]; exact h_v j hj⟩) (hP.sub [0, 1] rfl) (hD.sub [0, 1] (by decide) rfl) hS dX7_judge_87
      exact lp_36 (x9 + 1) 0 (ltF nw) (by omega) (lt_live nw) (rfl) (by omega) _ _ hP hD hS ls (lv_sub hl [0, 1, 2, 3] rfl)
    · skip
      refine lv_bipush (v := (-2)) hx hb dX7_judge_26 (by decide) ?_
      exact eM_i (g := g) hx hb hr hlocks nw (⟨by rw [hj0, if_neg (nt_of c_2)], fun _ _ => rfl⟩) (hP.sub [0, 1] rfl) (hD.sub [0, 1] (by decide) rfl) hS dX7_judge_28
set_option maxHeartbeats 4000000 in
set_option maxRecDepth 100000 in
theorem c_X7_see (l : Launch) (g : GG) (sz : Nat) (h0 : Nat) (x0 : Int32) (y0 : Int32) (d1 : Nat) (ln : Nat) (rd : Int64) (xd : Int32) (xq : Int32) (d2 : Nat) (an : Nat) (nx : Nat) (d3 : Nat) (d4 : Nat) (d5 : Nat) (d6 : Nat) (xm : Int32) (zn : Nat) (d7 : Nat) (d8 : Nat) (sd : Int64) (d9 : Nat) (d0 : Nat) (zc : Nat → Int32) (zb : Nat → Int32) (hzn : zn ≤ 6) : Met l yX7_see (Cond.code yX7_see cX7_see 3 (some .int) :: wsL_law) ({ frames := 1, cells := 0, slots := 0, locals := 25 }) (PM g [.ref h0, .int x0, .int y0] [(h0, .inr (6, [.ref d1, .int (nI ln), .long rd, .int xd, .int xq, .ref d2, .int (nI an), .int (nI nx), .ref d3, .ref d4, .ref d5, .ref d6, .int xm, .int (nI zn), .ref d7, .ref d8, .long sd, .ref d9, .ref d0])), (d7, .inl (gI g, 6, .inl zc)), (d8, .inl (gI g, 6, .inl zb))] sz) (QAi g (fun (r : Int32) (u : Unit) => r = qSe x0 y0 zn) (fun (u : Unit) => [(h0, .inr (6, [.ref d1, .int (nI ln), .long rd, .int xd, .int xq, .ref d2, .int (nI an), .int (nI nx), .ref d3, .ref d4, .ref d5, .ref d6, .int xm, .int (nI (cond (qSeB x0 y0) (saN zn) zn)), .ref d7, .ref d8, .long sd, .ref d9, .ref d0])), (d7, .inl (gI g, 6, .inl (cond (qSeB x0 y0) (saF zn zc x0) zc))), (d8, .inl (gI g, 6, .inl (cond (qSeB x0 y0) (saF zn zb y0) zb)))]) (va_A [(h0, .inr (6, [.ref d1, .int (nI ln), .long rd, .int xd, .int xq, .ref d2, .int (nI an), .int (nI nx), .ref d3, .ref d4, .ref d5, .ref d6, .int xm, .int (nI zn), .ref d7, .ref d8, .long sd, .ref d9, .ref d0])), (d7, .inl (gI g, 6, .inl zc)), (d8, .inl (gI g, 6, .inl zb))] sz)) 0 0 (va_A [(h0, .inr (6, [.ref d1, .int (nI ln), .long rd, .int xd, .int xq, .ref d2, .int (nI an), .int (nI nx), .ref d3, .ref d4, .ref d5, .ref d6, .int xm, .int (nI zn), .ref d7, .ref d8, .long sd, .ref d9, .ref d0])), (d7, .inl (gI g, 6, .inl zc)), (d8, .inl (gI g, 6, .inl zb))] sz) := by
  refine Met.M (Qc := fun A => QAi g (fun (r : Int32) (u : Unit) => r = qSe x0 y0 zn) (fun (u : Unit) => [(h0, .inr (6, [.ref d1, .int (nI ln), .long rd, .int xd, .int xq, .ref d2, .int (nI an), .int (nI nx), .ref d3, .ref d4, .ref d5, .ref d6, .int xm, .int (nI (cond (qSeB x0 y0) (saN zn) zn)), .ref d7, .ref d8, .long sd, .ref d9, .ref d0])), (d7, .inl (gI g, 6, .inl (cond (qSeB x0 y0) (saF zn zc x0) zc))), (d8, .inl (gI g, 6, .inl (cond (qSeB x0 y0) (saF zn zb y0) zb)))]) A) (by decide) (Nat.le_of_ble_eq_true rfl) rfl ?_
  intro p e s m below meth c hx hb hr hml hw hown hlocks hin A hA hkn hP hD ls hl
  have hl : lv_has ls 3 [(0, .ref h0), (1, .int x0), (2, .int y0)] := hl
  have hS : va_S A s.heap s.heap [] := va_S.rf
  obtain ⟨H, hHe⟩ : ∃ H, H = s.heap := ⟨_, rfl⟩
  obtain ⟨locs, hLe⟩ : ∃ locs : List Loc, locs = [] := ⟨_, rfl⟩
  have hP : va_P g.1 vwCl [(h0, .inr (6, [.ref d1, .int (nI ln), .long rd, .int xd, .int xq, .ref d2, .int (nI an), .int (nI nx), .ref d3, .ref d4, .ref d5, .ref d6, .int xm, .int (nI zn), .ref d7, .ref d8, .long sd, .ref d9, .ref d0])), (d7, .inl (gI g, 6, .inl zc)), (d8, .inl (gI g, 6, .inl zb))] H := by rw [hHe]; exact hP
  have hS : va_S A s.heap H locs := by rw [hHe, hLe]; exact hS
  have hgo : W p l e ({ frames := 1, cells := 0, slots := 0, locals := 25 } : Room) s m ([.ref h0, .int x0, .int y0] : List Value).toArray below meth c H locs 0 0 (MQ below (QAi g (fun (r : Int32) (u : Unit) => r = qSe x0 y0 zn) (fun (u : Unit) => [(h0, .inr (6, [.ref d1, .int (nI ln), .long rd, .int xd, .int xq, .ref d2, .int (nI an), .int (nI nx), .ref d3, .ref d4, .ref d5, .ref d6, .int xm, .int (nI (cond (qSeB x0 y0) (saN zn) zn)), .ref d7, .ref d8, .long sd, .ref d9, .ref d0])), (d7, .inl (gI g, 6, .inl (cond (qSeB x0 y0) (saF zn zc x0) zc))), (d8, .inl (gI g, 6, .inl (cond (qSeB x0 y0) (saF zn zb y0) zb)))]) A) ([.ref h0, .int x0, .int y0] : List Value).toArray s 0 0 A) (F0 m 0 ls []) := ?_
  · rw [hHe, hLe] at hgo; exact hgo
  clear hHe hLe
  refine lv_iload_n hx hb dX7_see_0 rfl (lv_at hl 1 rfl) ?_
  refine lv_i2l hx hb dX7_see_1 rfl ?_
  refine lv_lconst (v := 0) hx hb dX7_see_2 rfl ?_
  refine lv_ldc2 hx hb hown (hw _ mw_513) dX7_see_3 ?_
  refine cS_i (As := [.long ((x0).toInt64), .long 0, .long 63]) (rest := []) hx hb hml hown hw hkn hS hl (c_X7_in l g _ ((x0).toInt64) 0 63 ) sf_X7_in mw_101 ⟨(Nat.le_of_ble_eq_true rfl), (Nat.le_of_ble_eq_true rfl)⟩ rfl rfl rfl rfl (Nat.le_of_ble_eq_true rfl) dX7_see_6 ⟨(Nat.le_of_ble_eq_true rfl), (Nat.le_of_ble_eq_true rfl)⟩ ?_
  refine lv_eqi (show _ = b2i (isCel x0) from congrArg b2i (isCel_in x0)) ?_
  refine lv_ifneB (b := isCel x0) (tgt := 14) hx hb dX7_see_9 (by decide) (fun c_1 => ?_) (fun c_1 => ?_)
  · skip
    refine lv_iload_n hx hb dX7_see_14 rfl (lv_at hl 2 rfl) ?_
    refine lv_i2l hx hb dX7_see_15 rfl ?_
    refine lv_lconst (v := 0) hx hb dX7_see_16 rfl ?_
    refine lv_lconst (v := 1) hx hb dX7_see_17 rfl ?_
    refine cS_i (As := [.long ((y0).toInt64), .long 0, .long 1]) (rest := []) hx hb hml hown hw hkn hS hl (c_X7_in l g _ ((y0).toInt64) 0 1 ) sf_X7_in mw_101 ⟨(Nat.le_of_ble_eq_true rfl), (Nat.le_of_ble_eq_true rfl)⟩ rfl rfl rfl rfl (Nat.le_of_ble_eq_true rfl) dX7_see_18 ⟨(Nat.le_of_ble_eq_true rfl), (Nat.le_of_ble_eq_true rfl)⟩ ?_
    refine lv_eqi (show _ = b2i (is01 y0) from congrArg b2i (is01_in y0)) ?_
    refine lv_ifneB (b := is01 y0) (tgt := 27) hx hb dX7_see_21 (by decide) (fun c_2 => ?_) (fun c_2 => ?_)
    · skip
      refine lv_aload_n hx hb dX7_see_27 rfl (lv_at hl 0 rfl) ?_
      refine va_get (D := g.1) (ci := 6) (v := .int (nI zn)) (C := RX7) (T := TX7) (N := 19) hx hb hw inlX7 hown hkn.1 hP 0 rfl rfl 13 (by decide) (hw _ mw_626) (fun _ h9 => h9) rfl dX7_see_28 ?_
      refine lv_bipush (v := 6) hx hb dX7_see_31 (by decide) ?_
      refine ic_ne (a := zn) (d := 6) (tgt := 39) hx hb dX7_see_33 (by decide) rfl rfl (by omega) (by omega) (fun c_3 => ?_) (fun c_3 => ?_)
      · skip
        refine lv_aload_n hx hb dX7_see_39 rfl (lv_at hl 0 rfl) ?_
        refine va_get (D := g.1) (ci := 6) (v := .ref d7) (C := RX7) (T := TX7) (N := 19) hx hb hw inlX7 hown hkn.1 hP 0 rfl rfl 14 (by decide) (hw _ mw_79) (fun _ h9 => h9) rfl dX7_see_40 ?_
        refine lv_aload_n hx hb dX7_see_43 rfl (lv_at hl 0 rfl) ?_
        refine va_get (D := g.1) (ci := 6) (v := .int (nI zn)) (C := RX7) (T := TX7) (N := 19) hx hb hw inlX7 hown hkn.1 hP 0 rfl rfl 13 (by decide) (hw _ mw_626) (fun _ h9 => h9) rfl dX7_see_44 ?_
        refine lv_iload_n hx hb dX7_see_47 rfl (lv_at hl 1 rfl) ?_
        refine va_iast hx hb hkn.1 hP hD hS 1 0 rfl rfl (vp_in_nI (n := zn) (by omega) (by decide)) dX7_see_48 (fun H locs hP hD hS => ?_)
        rw [nI_clamp (n := zn) (by omega)] at hP hD
        have hP : va_P g.1 vwCl [(h0, .inr (6, [.ref d1, .int (nI ln), .long rd, .int xd, .int xq, .ref d2, .int (nI an), .int (nI nx), .ref d3, .ref d4, .ref d5, .ref d6, .int xm, .int (nI zn), .ref d7, .ref d8, .long sd, .ref d9, .ref d0])), (d7, .inl (gI g, 6, .inl (upd zc zn x0))), (d8, .inl (gI g, 6, .inl zb))] H := hP
        have hD : va_D A [(h0, .inr (6, [.ref d1, .int (nI ln), .long rd, .int xd, .int xq, .ref d2, .int (nI an), .int (nI nx), .ref d3, .ref d4, .ref d5, .ref d6, .int xm, .int (nI zn), .ref d7, .ref d8, .long sd, .ref d9, .ref d0])), (d7, .inl (gI g, 6, .inl (upd zc zn x0))), (d8, .inl (gI g, 6, .inl zb))] := hD
        refine lv_aload_n hx hb dX7_see_49 rfl (lv_at hl 0 rfl) ?_
        refine va_get (D := g.1) (ci := 6) (v := .ref d8) (C := RX7) (T := TX7) (N := 19) hx hb hw inlX7 hown hkn.1 hP 0 rfl rfl 15 (by decide) (hw _ mw_80) (fun _ h9 => h9) rfl dX7_see_50 ?_
        refine lv_aload_n hx hb dX7_see_53 rfl (lv_at hl 0 rfl) ?_
        refine va_get (D := g.1) (ci := 6) (v := .int (nI zn)) (C := RX7) (T := TX7) (N := 19) hx hb hw inlX7 hown hkn.1 hP 0 rfl rfl 13 (by decide) (hw _ mw_626) (fun _ h9 => h9) rfl dX7_see_54 ?_
        refine lv_iload_n hx hb dX7_see_57 rfl (lv_at hl 2 rfl) ?_
        refine va_iast hx hb hkn.1 hP hD hS 2 0 rfl rfl (vp_in_nI (n := zn) (by omega) (by decide)) dX7_see_58 (fun H locs hP hD hS => ?_)
        rw [nI_clamp (n := zn) (by omega)] at hP hD
        have hP : va_P g.1 vwCl [(h0, .inr (6, [.ref d1, .int (nI ln), .long rd, .int xd, .int xq, .ref d2, .int (nI an), .int (nI nx), .ref d3, .ref d4, .ref d5, .ref d6, .int xm, .int (nI zn), .ref d7, .ref d8, .long sd, .ref d9, .ref d0])), (d7, .inl (gI g, 6, .inl (upd zc zn x0))), (d8, .inl (gI g, 6, .inl (upd zb zn y0)))] H := hP
        have hD : va_D A [(h0, .inr (6, [.ref d1, .int (nI ln), .long rd, .int xd, .int xq, .ref d2, .int (nI an), .int (nI nx), .ref d3, .ref d4, .ref d5, .ref d6, .int xm, .int (nI zn), .ref d7, .ref d8, .long sd, .ref d9, .ref d0])), (d7, .inl (gI g, 6, .inl (upd zc zn x0))), (d8, .inl (gI g, 6, .inl (upd zb zn y0)))] := hD
        refine lv_aload_n hx hb dX7_see_59 rfl (lv_at hl 0 rfl) ?_
        refine lv_dup hx hb dX7_see_60 rfl ?_
        refine va_get (D := g.1) (ci := 6) (v := .int (nI zn)) (C := RX7) (T := TX7) (N := 19) hx hb hw inlX7 hown hkn.1 hP 0 rfl rfl 13 (by decide) (hw _ mw_626) (fun _ h9 => h9) rfl dX7_see_61 ?_
        refine lv_iconst (v := 1) hx hb dX7_see_64 (by decide) ?_
        refine lv_iadd hx hb dX7_see_65 ?_
        refine lv_eqi (nI_add zn 1) ?_
        refine va_put (D := g.1) (ci := 6) (v := .int (nI (zn + 1))) (ty := .int) (C := RX7) (T := TX7) (N := 19) hx hb hw inlX7 tyX7 tyX7_ok nmX7 hown hkn.1 hP hD hS 0 rfl rfl 13 (by decide) (hw _ mw_626) (fun _ h9 => h9) rfl (by decide +kernel) rfl rfl (Nat.le_of_ble_eq_true rfl) dX7_see_66 (fun H locs hP hD hS => ?_)
        have hP : va_P g.1 vwCl [(h0, .inr (6, [.ref d1, .int (nI ln), .long rd, .int xd, .int xq, .ref d2, .int (nI an), .int (nI nx), .ref d3, .ref d4, .ref d5, .ref d6, .int xm, .int (nI (zn + 1)), .ref d7, .ref d8, .long sd, .ref d9, .ref d0])), (d7, .inl (gI g, 6, .inl (upd zc zn x0))), (d8, .inl (gI g, 6, .inl (upd zb zn y0)))] H := hP
        have hD : va_D A [(h0, .inr (6, [.ref d1, .int (nI ln), .long rd, .int xd, .int xq, .ref d2, .int (nI an), .int (nI nx), .ref d3, .ref d4, .ref d5, .ref d6, .int xm, .int (nI (zn + 1)), .ref d7, .ref d8, .long sd, .ref d9, .ref d0])), (d7, .inl (gI g, 6, .inl (upd zc zn x0))), (d8, .inl (gI g, 6, .inl (upd zb zn y0)))] := hD
        refine lv_aload_n hx hb dX7_see_69 rfl (lv_at hl 0 rfl) ?_
        refine va_get (D := g.1) (ci := 6) (v := .int (nI (zn + 1))) (C := RX7) (T := TX7) (N := 19) hx hb hw inlX7 hown hkn.1 hP 0 rfl rfl 13 (by decide) (hw _ mw_626) (fun _ h9 => h9) rfl dX7_see_70 ?_
        have eb : qSeB x0 y0 = true := by rw [seB_eq, c_1, c_2]; rfl
        have e1 : saN zn = zn + 1 := by unfold saN; exact if_pos (by omega)
        have e2 : saF zn zc x0 = (upd zc zn x0) := by unfold saF; exact if_pos (by omega)
        have e3 : saF zn zb y0 = (upd zb zn y0) := by unfold saF; exact if_pos (by omega)
        exact eM_i (g := g) hx hb hr hlocks () (by rw [se_yes c_1 c_2]; rw [if_pos (decide_eq_true (by omega)), e1]) (show va_P g.1 vwCl [(h0, .inr (6, [.ref d1, .int (nI ln), .long rd, .int xd, .int xq, .ref d2, .int (nI an), .int (nI nx), .ref d3, .ref d4, .ref d5, .ref d6, .int xm, .int (nI (cond (qSeB x0 y0) (saN zn) zn)), .ref d7, .ref d8, .long sd, .ref d9, .ref d0])), (d7, .inl (gI g, 6, .inl (cond (qSeB x0 y0) (saF zn zc x0) zc))), (d8, .inl (gI g, 6, .inl (cond (qSeB x0 y0) (saF zn zb y0) zb)))] H by rw [eb]; show va_P g.1 vwCl [(h0, .inr (6, [.ref d1, .int (nI ln), .long rd, .int xd, .int xq, .ref d2, .int (nI an), .int (nI nx), .ref d3, .ref d4, .ref d5, .ref d6, .int xm, .int (nI (saN zn)), .ref d7, .ref d8, .long sd, .ref d9, .ref d0])), (d7, .inl (gI g, 6, .inl (saF zn zc x0))), (d8, .inl (gI g, 6, .inl (saF zn zb y0)))] H; rw [e1, e2, e3]; exact hP.sub [0, 1, 2] rfl) (show va_D A [(h0, .inr (6, [.ref d1, .int (nI ln), .long rd, .int xd, .int xq, .ref d2, .int (nI an), .int (nI nx), .ref d3, .ref d4, .ref d5, .ref d6, .int xm, .int (nI (cond (qSeB x0 y0) (saN zn) zn)), .ref d7, .ref d8, .long sd, .ref d9, .ref d0])), (d7, .inl (gI g, 6, .inl (cond (qSeB x0 y0) (saF zn zc x0) zc))), (d8, .inl (gI g, 6, .inl (cond (qSeB x0 y0) (saF zn zb y0) zb)))] by rw [eb]; show va_D A [(h0, .inr (6, [.ref d1, .int (nI ln), .long rd, .int xd, .int xq, .ref d2, .int (nI an), .int (nI nx), .ref d3, .ref d4, .ref d5, .ref d6, .int xm, .int (nI (saN zn)), .ref d7, .ref d8, .long sd, .ref d9, .ref d0])), (d7, .inl (gI g, 6, .inl (saF zn zc x0))), (d8, .inl (gI g, 6, .inl (saF zn zb y0)))]; rw [e1, e2, e3]; exact hD.sub [0, 1, 2] (by decide) rfl) hS dX7_see_73
      · skip
        refine lv_bipush (v := (-4)) hx hb dX7_see_36 (by decide) ?_
        have eb : qSeB x0 y0 = true := by rw [seB_eq, c_1, c_2]; rfl
        have e1 : saN zn = zn := by unfold saN; exact if_neg (by omega)
        have e2 : saF zn zc x0 = zc := by unfold saF; exact if_neg (by omega)
        have e3 : saF zn zb y0 = zb := by unfold saF; exact if_neg (by omega)
        exact eM_i (g := g) hx hb hr hlocks () (by rw [se_yes c_1 c_2]; rw [if_neg (by simp; omega)]) (show va_P g.1 vwCl [(h0, .inr (6, [.ref d1, .int (nI ln), .long rd, .int xd, .int xq, .ref d2, .int (nI an), .int (nI nx), .ref d3, .ref d4, .ref d5, .ref d6, .int xm, .int (nI (cond (qSeB x0 y0) (saN zn) zn)), .ref d7, .ref d8, .long sd, .ref d9, .ref d0])), (d7, .inl (gI g, 6, .inl (cond (qSeB x0 y0) (saF zn zc x0) zc))), (d8, .inl (gI g, 6, .inl (cond (qSeB x0 y0) (saF zn zb y0) zb)))] H by rw [eb]; show va_P g.1 vwCl [(h0, .inr (6, [.ref d1, .int (nI ln), .long rd, .int xd, .int xq, .ref d2, .int (nI an), .int (nI nx), .ref d3, .ref d4, .ref d5, .ref d6, .int xm, .int (nI (saN zn)), .ref d7, .ref d8, .long sd, .ref d9, .ref d0])), (d7, .inl (gI g, 6, .inl (saF zn zc x0))), (d8, .inl (gI g, 6, .inl (saF zn zb y0)))] H; rw [e1, e2, e3]; exact hP.sub [0, 1, 2] rfl) (show va_D A [(h0, .inr (6, [.ref d1, .int (nI ln), .long rd, .int xd, .int xq, .ref d2, .int (nI an), .int (nI nx), .ref d3, .ref d4, .ref d5, .ref d6, .int xm, .int (nI (cond (qSeB x0 y0) (saN zn) zn)), .ref d7, .ref d8, .long sd, .ref d9, .ref d0])), (d7, .inl (gI g, 6, .inl (cond (qSeB x0 y0) (saF zn zc x0) zc))), (d8, .inl (gI g, 6, .inl (cond (qSeB x0 y0) (saF zn zb y0) zb)))] by rw [eb]; show va_D A [(h0, .inr (6, [.ref d1, .int (nI ln), .long rd, .int xd, .int xq, .ref d2, .int (nI an), .int (nI nx), .ref d3, .ref d4, .ref d5, .ref d6, .int xm, .int (nI (saN zn)), .ref d7, .ref d8, .long sd, .ref d9, .ref d0])), (d7, .inl (gI g, 6, .inl (saF zn zc x0))), (d8, .inl (gI g, 6, .inl (saF zn zb y0)))]; rw [e1, e2, e3]; exact hD.sub [0, 1, 2] (by decide) rfl) hS dX7_see_38
    · skip
      refine lv_bipush (v := (-2)) hx hb dX7_see_24 (by decide) ?_
      have eb : qSeB x0 y0 = false := by rw [seB_eq, c_1, c_2]; rfl
      exact eM_i (g := g) hx hb hr hlocks () ((se_no c_1 c_2).symm) (show va_P g.1 vwCl [(h0, .inr (6, [.ref d1, .int (nI ln), .long rd, .int xd, .int xq, .ref d2, .int (nI an), .int (nI nx), .ref d3, .ref d4, .ref d5, .ref d6, .int xm, .int (nI (cond (qSeB x0 y0) (saN zn) zn)), .ref d7, .ref d8, .long sd, .ref d9, .ref d0])), (d7, .inl (gI g, 6, .inl (cond (qSeB x0 y0) (saF zn zc x0) zc))), (d8, .inl (gI g, 6, .inl (cond (qSeB x0 y0) (saF zn zb y0) zb)))] H by rw [eb]; exact hP.sub [0, 1, 2] rfl) (show va_D A [(h0, .inr (6, [.ref d1, .int (nI ln), .long rd, .int xd, .int xq, .ref d2, .int (nI an), .int (nI nx), .ref d3, .ref d4, .ref d5, .ref d6, .int xm, .int (nI (cond (qSeB x0 y0) (saN zn) zn)), .ref d7, .ref d8, .long sd, .ref d9, .ref d0])), (d7, .inl (gI g, 6, .inl (cond (qSeB x0 y0) (saF zn zc x0) zc))), (d8, .inl (gI g, 6, .inl (cond (qSeB x0 y0) (saF zn zb y0) zb)))] by rw [eb]; exact hD.sub [0, 1, 2] (by decide) rfl) hS dX7_see_26
  · skip
    refine lv_iconst (v := (-1)) hx hb dX7_see_12 (by decide) ?_
    have eb : qSeB x0 y0 = false := by rw [seB_eq, c_1]; rfl
    exact eM_i (g := g) hx hb hr hlocks () (by unfold qSe; rw [if_neg (nt_of c_1)]) (show va_P g.1 vwCl [(h0, .inr (6, [.ref d1, .int (nI ln), .long rd, .int xd, .int xq, .ref d2, .int (nI an), .int (nI nx), .ref d3, .ref d4, .ref d5, .ref d6, .int xm, .int (nI (cond (qSeB x0 y0) (saN zn) zn)), .ref d7, .ref d8, .long sd, .ref d9, .ref d0])), (d7, .inl (gI g, 6, .inl (cond (qSeB x0 y0) (saF zn zc x0) zc))), (d8, .inl (gI g, 6, .inl (cond (qSeB x0 y0) (saF zn zb y0) zb)))] H by rw [eb]; exact hP.sub [0, 1, 2] rfl) (show va_D A [(h0, .inr (6, [.ref d1, .int (nI ln), .long rd, .int xd, .int xq, .ref d2, .int (nI an), .int (nI nx), .ref d3, .ref d4, .ref d5, .ref d6, .int xm, .int (nI (cond (qSeB x0 y0) (saN zn) zn)), .ref d7, .ref d8, .long sd, .ref d9, .ref d0])), (d7, .inl (gI g, 6, .inl (cond (qSeB x0 y0) (saF zn zc x0) zc))), (d8, .inl (gI g, 6, .inl (cond (qSeB x0 y0) (saF zn zb y0) zb)))] by rw [eb]; exact hD.sub [0, 1, 2] (by decide) rfl) hS dX7_see_13
set_option maxHeartbeats 4000000 in
set_option maxRecDepth 100000 in
theorem c_X7_unsee (l : Launch) (g : GG) (sz : Nat) (h0 : Nat) (d1 : Nat) (ln : Nat) (rd : Int64) (xd : Int32) (xq : Int32) (d2 : Nat) (an : Nat) (nx : Nat) (d3 : Nat) (d4 : Nat) (d5 : Nat) (d6 : Nat) (xm : Int32) (zn : Nat) (d7 : Nat) (d8 : Nat) (sd : Int64) (d9 : Nat) (d0 : Nat)  : Met l yX7_unsee (Cond.code yX7_unsee cX7_unsee 2 (some .int) :: wsL_law) ({ frames := 0, cells := 0, slots := 0, locals := 0 }) (PM g [.ref h0] [(h0, .inr (6, [.ref d1, .int (nI ln), .long rd, .int xd, .int xq, .ref d2, .int (nI an), .int (nI nx), .ref d3, .ref d4, .ref d5, .ref d6, .int xm, .int (nI zn), .ref d7, .ref d8, .long sd, .ref d9, .ref d0]))] sz) (QAi g (fun (r : Int32) (u : Unit) => r = nI zn) (fun (u : Unit) => [(h0, .inr (6, [.ref d1, .int (nI ln), .long rd, .int xd, .int xq, .ref d2, .int (nI an), .int (nI nx), .ref d3, .ref d4, .ref d5, .ref d6, .int xm, .int 0, .ref d7, .ref d8, .long sd, .ref d9, .ref d0]))]) (va_A [(h0, .inr (6, [.ref d1, .int (nI ln), .long rd, .int xd, .int xq, .ref d2, .int (nI an), .int (nI nx), .ref d3, .ref d4, .ref d5, .ref d6, .int xm, .int (nI zn), .ref d7, .ref d8, .long sd, .ref d9, .ref d0]))] sz)) 0 0 (va_A [(h0, .inr (6, [.ref d1, .int (nI ln), .long rd, .int xd, .int xq, .ref d2, .int (nI an), .int (nI nx), .ref d3, .ref d4, .ref d5, .ref d6, .int xm, .int (nI zn), .ref d7, .ref d8, .long sd, .ref d9, .ref d0]))] sz) := by
  refine Met.M (Qc := fun A => QAi g (fun (r : Int32) (u : Unit) => r = nI zn) (fun (u : Unit) => [(h0, .inr (6, [.ref d1, .int (nI ln), .long rd, .int xd, .int xq, .ref d2, .int (nI an), .int (nI nx), .ref d3, .ref d4, .ref d5, .ref d6, .int xm, .int 0, .ref d7, .ref d8, .long sd, .ref d9, .ref d0]))]) A) (by decide) (Nat.le_of_ble_eq_true rfl) rfl ?_
  intro p e s m below meth c hx hb hr hml hw hown hlocks hin A hA hkn hP hD ls hl
  have hl : lv_has ls 2 [(0, .ref h0)] := hl
  have hS : va_S A s.heap s.heap [] := va_S.rf
  obtain ⟨H, hHe⟩ : ∃ H, H = s.heap := ⟨_, rfl⟩
  obtain ⟨locs, hLe⟩ : ∃ locs : List Loc, locs = [] := ⟨_, rfl⟩
  have hP : va_P g.1 vwCl [(h0, .inr (6, [.ref d1, .int (nI ln), .long rd, .int xd, .int xq, .ref d2, .int (nI an), .int (nI nx), .ref d3, .ref d4, .ref d5, .ref d6, .int xm, .int (nI zn), .ref d7, .ref d8, .long sd, .ref d9, .ref d0]))] H := by rw [hHe]; exact hP
  have hS : va_S A s.heap H locs := by rw [hHe, hLe]; exact hS
  have hgo : W p l e ({ frames := 0, cells := 0, slots := 0, locals := 0 } : Room) s m ([.ref h0] : List Value).toArray below meth c H locs 0 0 (MQ below (QAi g (fun (r : Int32) (u : Unit) => r = nI zn) (fun (u : Unit) => [(h0, .inr (6, [.ref d1, .int (nI ln), .long rd, .int xd, .int xq, .ref d2, .int (nI an), .int (nI nx), .ref d3, .ref d4, .ref d5, .ref d6, .int xm, .int 0, .ref d7, .ref d8, .long sd, .ref d9, .ref d0]))]) A) ([.ref h0] : List Value).toArray s 0 0 A) (F0 m 0 ls []) := ?_
  · rw [hHe, hLe] at hgo; exact hgo
  clear hHe hLe
  refine lv_aload_n hx hb dX7_unsee_0 rfl (lv_at hl 0 rfl) ?_
  refine va_get (D := g.1) (ci := 6) (v := .int (nI zn)) (C := RX7) (T := TX7) (N := 19) hx hb hw inlX7 hown hkn.1 hP 0 rfl rfl 13 (by decide) (hw _ mw_626) (fun _ h9 => h9) rfl dX7_unsee_1 ?_
  refine lv_istore_n (lv' := [(1, .int (nI zn)), (0, .ref h0)]) hx hb dX7_unsee_4 rfl hl (by decide) rfl (fun ls hl => ?_)
  refine lv_aload_n hx hb dX7_unsee_5 rfl (lv_at hl 1 rfl) ?_
  refine lv_iconst (v := 0) hx hb dX7_unsee_6 (by decide) ?_
  refine va_put (D := g.1) (ci := 6) (v := .int 0) (ty := .int) (C := RX7) (T := TX7) (N := 19) hx hb hw inlX7 tyX7 tyX7_ok nmX7 hown hkn.1 hP hD hS 0 rfl rfl 13 (by decide) (hw _ mw_626) (fun _ h9 => h9) rfl (by decide +kernel) rfl rfl (Nat.le_of_ble_eq_true rfl) dX7_unsee_7 (fun H locs hP hD hS => ?_)
  have hP : va_P g.1 vwCl [(h0, .inr (6, [.ref d1, .int (nI ln), .long rd, .int xd, .int xq, .ref d2, .int (nI an), .int (nI nx), .ref d3, .ref d4, .ref d5, .ref d6, .int xm, .int 0, .ref d7, .ref d8, .long sd, .ref d9, .ref d0]))] H := hP
  have hD : va_D A [(h0, .inr (6, [.ref d1, .int (nI ln), .long rd, .int xd, .int xq, .ref d2, .int (nI an), .int (nI nx), .ref d3, .ref d4, .ref d5, .ref d6, .int xm, .int 0, .ref d7, .ref d8, .long sd, .ref d9, .ref d0]))] := hD
  refine lv_iload_n hx hb dX7_unsee_10 rfl (lv_at hl 0 rfl) ?_
  exact eM_i (g := g) hx hb hr hlocks () (rfl) (hP.sub [0] rfl) (hD.sub [0] (by decide) rfl) hS dX7_unsee_11
set_option maxHeartbeats 4000000 in
set_option maxRecDepth 100000 in
theorem c_X7_mayBe (l : Launch) (g : GG) (H : Heap) (h0 : Nat) (k : Nat) (d1 : Nat) (ln : Nat) (rd : Int64) (xd : Int32) (xq : Int32) (d2 : Nat) (an : Nat) (nx : Nat) (d3 : Nat) (d4 : Nat) (d5 : Nat) (d6 : Nat) (xm : Int32) (zn : Nat) (d7 : Nat) (d8 : Nat) (sd : Int64) (d9 : Nat) (d0 : Nat) (zc : Nat → Int32) (zb : Nat → Int32) (cf : Nat → Nat) (bz : Nat → Bool) (hzn : zn ≤ 6) (hcf : ∀ j, j < zn → zc j = nI (cf j) ∧ cf j < 64) (hbz : ∀ j, j < zn → zb j = b2i (bz j)) (hk : k < 256) (hP : va_P g.1 vwCl [(h0, .inr (6, [.ref d1, .int (nI ln), .long rd, .int xd, .int xq, .ref d2, .int (nI an), .int (nI nx), .ref d3, .ref d4, .ref d5, .ref d6, .int xm, .int (nI zn), .ref d7, .ref d8, .long sd, .ref d9, .ref d0])), (d7, .inl (gI g, 6, .inl zc)), (d8, .inl (gI g, 6, .inl zb))] H) : Met l yX7_mayBe (Cond.code yX7_mayBe cX7_mayBe 8 (some .boolean) :: wsL_law) ({ frames := 1, cells := 0, slots := 0, locals := 22 }) (PR g [.ref h0, .int (nI k)] H) (QRi (b2i (myB cf bz zn k)) H) 0 0 NoA := by
  refine Met.R (by decide) (Nat.le_of_ble_eq_true rfl) rfl ?_
  intro p e s m below meth c hx hb hr hml hw hown hlocks hkn hH ls hl
  subst hH
  have hl : lv_has ls 8 [(0, .ref h0), (1, .int (nI k))] := hl
  have hS : va_S NoA s.heap s.heap [] := va_S.rf
  refine lv_iconst (v := 1) hx hb dX7_mayBe_0 (by decide) ?_
  refine lv_istore_n (lv' := [(2, .int 1), (0, .ref h0), (1, .int (nI k))]) hx hb dX7_mayBe_1 rfl hl (by decide) rfl (fun ls hl => ?_)
  refine lv_iconst (v := 0) hx hb dX7_mayBe_2 (by decide) ?_
  refine lv_istore_n (lv' := [(3, .int 0), (2, .int 1), (0, .ref h0), (1, .int (nI k))]) hx hb dX7_mayBe_3 rfl hl (by decide) rfl (fun ls hl => ?_)
  have lp_4 : ∀ (n_4 : Nat) (i : Nat) (mm : Bool), (i ≤ zn) → (mm = allB (okM cf bz k) i) → zn < i + n_4 → ∀ (ls : Array Slot), lv_has ls 8 [(3, .int (nI i)), (2, .int (b2i mm)), (0, .ref h0), (1, .int (nI k))] → W p l e ({ frames := 1, cells := 0, slots := 0, locals := 22 } : Room) s m ([.ref h0, .int (nI k)] : List Value).toArray below meth c s.heap [] 0 0 (MQ below (QRi (b2i (myB cf bz zn k)) s.heap) ([.ref h0, .int (nI k)] : List Value).toArray s 0 0 NoA) (F0 m 4 ls []) := by
    intro n_4
    induction n_4 with
    | zero => intro i mm h_i h_m hfu_4; exact absurd hfu_4 (by omega)
    | succ n_4 ih_4 =>
      intro i mm h_i h_m hfu_4 ls hl
      refine lv_iload_n hx hb dX7_mayBe_4 rfl (lv_at hl 0 rfl) ?_
      refine lv_aload_n hx hb dX7_mayBe_5 rfl (lv_at hl 2 rfl) ?_
      refine va_get (D := g.1) (ci := 6) (v := .int (nI zn)) (C := RX7) (T := TX7) (N := 19) hx hb hw inlX7 hown hkn.1 hP 0 rfl rfl 13 (by decide) (hw _ mw_626) (fun _ h9 => h9) rfl dX7_mayBe_6 ?_
      refine ic_ge (a := i) (d := zn) (tgt := 106) hx hb dX7_mayBe_9 (by decide) rfl rfl (by omega) (by omega) (fun c_1 => ?_) (fun c_1 => ?_)
      · skip
        refine lv_iload_n hx hb dX7_mayBe_106 rfl (lv_at hl 1 rfl) ?_
        exact eR_z hx hb hr hlocks (congrArg b2i (by rw [h_m, show i = zn by omega]; rfl)) dX7_mayBe_107
      · skip
        have hc9 := (hcf i (by omega)).2
        refine lv_aload_n hx hb dX7_mayBe_12 rfl (lv_at hl 2 rfl) ?_
        refine va_get (D := g.1) (ci := 6) (v := .ref d7) (C := RX7) (T := TX7) (N := 19) hx hb hw inlX7 hown hkn.1 hP 0 rfl rfl 14 (by decide) (hw _ mw_79) (fun _ h9 => h9) rfl dX7_mayBe_13 ?_
        refine lv_iload_n hx hb dX7_mayBe_16 rfl (lv_at hl 0 rfl) ?_
        refine va_iald hx hb hkn.1 hP 1 0 rfl rfl (vp_in_nI (n := i) (by omega) (by decide)) dX7_mayBe_17 ?_
        refine lv_eqi (show _ = zc i by rw [nI_clamp (n := i) (by omega)]) ?_
        refine lv_eqi (show _ = (nI (cf i)) from (hcf i (by omega)).1) ?_
        refine lv_bipush (v := 8) hx hb dX7_mayBe_18 (by decide) ?_
        refine lv_irem hx hb dX7_mayBe_20 (by decide) ?_
        refine lv_eqi (pk_rem (a := cf i) (d := 8) (by omega) (by omega) (by omega)) ?_
        refine lv_istore (lv' := [(4, .int (nI ((cf i) % 8))), (3, .int (nI i)), (2, .int (b2i mm)), (0, .ref h0), (1, .int (nI k))]) hx hb dX7_mayBe_21 hl (by decide) rfl (fun ls hl => ?_)
        refine lv_aload_n hx hb dX7_mayBe_23 rfl (lv_at hl 3 rfl) ?_
        refine va_get (D := g.1) (ci := 6) (v := .ref d7) (C := RX7) (T := TX7) (N := 19) hx hb hw inlX7 hown hkn.1 hP 0 rfl rfl 14 (by decide) (hw _ mw_79) (fun _ h9 => h9) rfl dX7_mayBe_24 ?_
        refine lv_iload_n hx hb dX7_mayBe_27 rfl (lv_at hl 1 rfl) ?_
        refine va_iald hx hb hkn.1 hP 1 0 rfl rfl (vp_in_nI (n := i) (by omega) (by decide)) dX7_mayBe_28 ?_
        refine lv_eqi (show _ = zc i by rw [nI_clamp (n := i) (by omega)]) ?_
        refine lv_eqi (show _ = (nI (cf i)) from (hcf i (by omega)).1) ?_
        refine lv_bipush (v := 8) hx hb dX7_mayBe_29 (by decide) ?_
        refine lv_idiv hx hb dX7_mayBe_31 (by decide) ?_
        refine lv_eqi (pk_div (a := cf i) (d := 8) (by omega) (by omega) (by omega)) ?_
        refine lv_istore (lv' := [(5, .int (nI ((cf i) / 8))), (4, .int (nI ((cf i) % 8))), (3, .int (nI i)), (2, .int (b2i mm)), (0, .ref h0), (1, .int (nI k))]) hx hb dX7_mayBe_32 hl (by decide) rfl (fun ls hl => ?_)
        refine lv_iload hx hb dX7_mayBe_34 (lv_at hl 1 rfl) ?_
        refine lv_iconst (v := 4) hx hb dX7_mayBe_36 (by decide) ?_
        refine lv_idiv hx hb dX7_mayBe_37 (by decide) ?_
        refine lv_eqi (pk_div (a := (cf i) % 8) (d := 4) (by omega) (by omega) (by omega)) ?_
        refine lv_iconst (v := 2) hx hb dX7_mayBe_38 (by decide) ?_
        refine lv_iload hx hb dX7_mayBe_39 (lv_at hl 0 rfl) ?_
        refine lv_iconst (v := 4) hx hb dX7_mayBe_41 (by decide) ?_
        refine lv_idiv hx hb dX7_mayBe_42 (by decide) ?_
        refine lv_eqi (pk_div (a := (cf i) / 8) (d := 4) (by omega) (by omega) (by omega)) ?_
        refine lv_imul hx hb dX7_mayBe_43 ?_
        refine lv_eqi (pk_mul 2 (((cf i) / 8) / 4)) ?_
        refine lv_iadd hx hb dX7_mayBe_44 ?_
        refine lv_eqi (nI_add (((cf i) % 8) / 4) (2 * (((cf i) / 8) / 4))) ?_
        refine lv_eqi (show _ = (nI (qtN (cf i))) from rfl) ?_
        refine lv_istore (lv' := [(6, .int (nI (qtN (cf i)))), (5, .int (nI ((cf i) / 8))), (4, .int (nI ((cf i) % 8))), (3, .int (nI i)), (2, .int (b2i mm)), (0, .ref h0), (1, .int (nI k))]) hx hb dX7_mayBe_45 hl (by decide) rfl (fun ls hl => ?_)
        refine lv_iload_n hx hb dX7_mayBe_47 rfl (lv_at hl 6 rfl) ?_
        refine lv_bipush (v := 6) hx hb dX7_mayBe_48 (by decide) ?_
        refine lv_iconst (v := 2) hx hb dX7_mayBe_50 (by decide) ?_
        refine lv_iload hx hb dX7_mayBe_51 (lv_at hl 0 rfl) ?_
        refine lv_imul hx hb dX7_mayBe_53 ?_
        refine lv_eqi (pk_mul 2 (qtN (cf i))) ?_
        have hqt : qtN (cf i) < 4 := by unfold qtN; omega
        refine lv_isub hx hb dX7_mayBe_54 ?_
        refine lv_eqi (pk_sub (a := 6) (b := 2 * (qtN (cf i))) (by omega)) ?_
        refine lv_ishr hx hb dX7_mayBe_55 ?_
        refine lv_iconst (v := 3) hx hb dX7_mayBe_56 (by decide) ?_
        refine lv_iand hx hb dX7_mayBe_57 ?_
        refine lv_eqi (show _ = (nI (fgN k (qtN (cf i)))) from fg_eq hk (by unfold qtN; omega)) ?_
        refine lv_istore (lv' := [(7, .int (nI (fgN k (qtN (cf i))))), (6, .int (nI (qtN (cf i)))), (5, .int (nI ((cf i) / 8))), (4, .int (nI ((cf i) % 8))), (3, .int (nI i)), (2, .int (b2i mm)), (0, .ref h0), (1, .int (nI k))]) hx hb dX7_mayBe_58 hl (by decide) rfl (fun ls hl => ?_)
        have hfg := fg_lt k (qtN (cf i))
        refine lv_iload_n hx hb dX7_mayBe_60 rfl (lv_at hl 5 rfl) ?_
        have mg_99 : W p l e ({ frames := 1, cells := 0, slots := 0, locals := 22 } : Room) s m ([.ref h0, .int (nI k)] : List Value).toArray below meth c s.heap [] 0 0 (MQ below (QRi (b2i (myB cf bz zn k)) s.heap) ([.ref h0, .int (nI k)] : List Value).toArray s 0 0 NoA) (F0 m 99 ls (.int (if mm = true then (if (b2i (bz i)) = 1 then (if (b2i (tellB (leafc (fgN k (qtN (cf i)))) ((cf i) % 8) ((cf i) / 8))) = 1 then 1 else 0) else (if (b2i (tellB (leafc (fgN k (qtN (cf i)))) ((cf i) % 8) ((cf i) / 8))) = 0 then 1 else 0)) else 0) :: [])) := by
          refine lv_eqi (show _ = (b2i (mm && okM cf bz k i)) from by unfold okM; cases mm <;> cases bz i <;> cases h9 : tellB (leafc (fgN k (qtN (cf i)))) (cf i % 8) (cf i / 8) <;> simp [h9, b2i]) ?_
          refine lv_istore_n (lv' := [(2, .int (b2i (mm && okM cf bz k i))), (7, .int (nI (fgN k (qtN (cf i))))), (6, .int (nI (qtN (cf i)))), (5, .int (nI ((cf i) / 8))), (4, .int (nI ((cf i) % 8))), (3, .int (nI i)), (0, .ref h0), (1, .int (nI k))]) hx hb dX7_mayBe_99 rfl hl (by decide) rfl (fun ls hl => ?_)
          refine lv_iinc (v := (nI (i + 1))) (lv' := [(3, .int (nI (i + 1))), (2, .int (b2i (mm && okM cf bz k i))), (7, .int (nI (fgN k (qtN (cf i))))), (6, .int (nI (qtN (cf i)))), (5, .int (nI ((cf i) / 8))), (4, .int (nI ((cf i) % 8))), (0, .ref h0), (1, .int (nI k))]) hx hb dX7_mayBe_100 hl (k := 5) rfl (nI_1 i) (by decide) rfl (fun ls hl => ?_)
          refine lv_goto (tgt := 4) hx hb dX7_mayBe_103 (by decide) ?_
          exact ih_4 (i + 1) (mm && okM cf bz k i) (by omega) (by rw [all_s, ← h_m]) (by omega) ls (lv_sub hl [0, 1, 6, 7] rfl)
        refine lv_ifeqB (b := mm) (tgt := 98) hx hb dX7_mayBe_61 (by decide) (fun c_2 => ?_) (fun c_2 => ?_)
        · skip
          refine lv_iconst (v := 0) hx hb dX7_mayBe_98 (by decide) ?_
          exact lv_eqi (by rw [if_neg (nt_of c_2)]) mg_99
        · skip
          refine lv_iload hx hb dX7_mayBe_64 (lv_at hl 0 rfl) ?_
          refine cS_i (As := [.int (nI (fgN k (qtN (cf i))))]) (rest := []) hx hb hml hown hw hkn hS hl (c_X7_leafLetter l g _ (fgN k (qtN (cf i))) (by omega)) sf_X7_leafLetter mw_673 ⟨(Nat.le_of_ble_eq_true rfl), (Nat.le_of_ble_eq_true rfl)⟩ rfl rfl rfl rfl (Nat.le_of_ble_eq_true rfl) dX7_mayBe_66 ⟨(Nat.le_of_ble_eq_true rfl), (Nat.le_of_ble_eq_true rfl)⟩ ?_
          refine lv_iload hx hb dX7_mayBe_69 (lv_at hl 3 rfl) ?_
          refine lv_iload hx hb dX7_mayBe_71 (lv_at hl 2 rfl) ?_
          refine cS_i (As := [.int (leafc (fgN k (qtN (cf i)))), .int (nI ((cf i) % 8)), .int (nI ((cf i) / 8))]) (rest := []) hx hb hml hown hw hkn hS hl (c_X7_tells l g _ (leafc (fgN k (qtN (cf i)))) ((cf i) % 8) ((cf i) / 8) (by omega) (by omega)) sf_X7_tells mw_196 ⟨(Nat.le_of_ble_eq_true rfl), (Nat.le_of_ble_eq_true rfl)⟩ rfl rfl rfl rfl (Nat.le_of_ble_eq_true rfl) dX7_mayBe_73 ⟨(Nat.le_of_ble_eq_true rfl), (Nat.le_of_ble_eq_true rfl)⟩ ?_
          refine lv_aload_n hx hb dX7_mayBe_76 rfl (lv_at hl 6 rfl) ?_
          refine va_get (D := g.1) (ci := 6) (v := .ref d8) (C := RX7) (T := TX7) (N := 19) hx hb hw inlX7 hown hkn.1 hP 0 rfl rfl 15 (by decide) (hw _ mw_80) (fun _ h9 => h9) rfl dX7_mayBe_77 ?_
          refine lv_iload_n hx hb dX7_mayBe_80 rfl (lv_at hl 4 rfl) ?_
          refine va_iald hx hb hkn.1 hP 2 0 rfl rfl (vp_in_nI (n := i) (by omega) (by decide)) dX7_mayBe_81 ?_
          refine lv_eqi (show _ = zb i by rw [nI_clamp (n := i) (by omega)]) ?_
          refine lv_eqi (hbz i (by omega)) ?_
          refine lv_iconst (v := 1) hx hb dX7_mayBe_82 (by decide) ?_
          refine lv_icmp_ne (tgt := 90) hx hb dX7_mayBe_83 (by decide) (fun c_3 => ?_) (fun c_3 => ?_)
          · skip
            refine lv_iconst (v := 0) hx hb dX7_mayBe_90 (by decide) ?_
            refine lv_icmp_ne (tgt := 98) hx hb dX7_mayBe_91 (by decide) (fun c_4 => ?_) (fun c_4 => ?_)
            · skip
              refine lv_iconst (v := 0) hx hb dX7_mayBe_98 (by decide) ?_
              exact lv_eqi (by rw [if_pos c_2, if_neg c_3, if_neg c_4]) mg_99
            · skip
              refine lv_iconst (v := 1) hx hb dX7_mayBe_94 (by decide) ?_
              refine lv_goto (tgt := 99) hx hb dX7_mayBe_95 (by decide) ?_
              exact lv_eqi (by rw [if_pos c_2, if_neg c_3, if_pos c_4]) mg_99
          · skip
            refine lv_iconst (v := 1) hx hb dX7_mayBe_86 (by decide) ?_
            refine lv_goto (tgt := 91) hx hb dX7_mayBe_87 (by decide) ?_
            refine lv_icmp_ne (tgt := 98) hx hb dX7_mayBe_91 (by decide) (fun c_5 => ?_) (fun c_5 => ?_)
            · skip
              refine lv_iconst (v := 0) hx hb dX7_mayBe_98 (by decide) ?_
              exact lv_eqi (by rw [if_pos c_2, if_pos c_3, if_neg c_5]) mg_99
            · skip
              refine lv_iconst (v := 1) hx hb dX7_mayBe_94 (by decide) ?_
              refine lv_goto (tgt := 99) hx hb dX7_mayBe_95 (by decide) ?_
              exact lv_eqi (by rw [if_pos c_2, if_pos c_3, if_pos c_5]) mg_99
  exact lp_4 (zn + 1) 0 true (by omega) (all_0 _) (by omega) ls (lv_sub hl [0, 1, 2, 3] rfl)
set_option maxHeartbeats 4000000 in
set_option maxRecDepth 100000 in
theorem c_X7_leaves (l : Launch) (g : GG) (H : Heap) (h0 : Nat) (x0 : Int32) (d1 : Nat) (ln : Nat) (rd : Int64) (xd : Int32) (xq : Int32) (d2 : Nat) (an : Nat) (nx : Nat) (d3 : Nat) (d4 : Nat) (d5 : Nat) (d6 : Nat) (xm : Int32) (zn : Nat) (d7 : Nat) (d8 : Nat) (sd : Int64) (d9 : Nat) (d0 : Nat) (zc : Nat → Int32) (zb : Nat → Int32) (cf : Nat → Nat) (bz : Nat → Bool) (hzn : zn ≤ 6) (hcf : ∀ j, j < zn → zc j = nI (cf j) ∧ cf j < 64) (hbz : ∀ j, j < zn → zb j = b2i (bz j)) (hP : va_P g.1 vwCl [(h0, .inr (6, [.ref d1, .int (nI ln), .long rd, .int xd, .int xq, .ref d2, .int (nI an), .int (nI nx), .ref d3, .ref d4, .ref d5, .ref d6, .int xm, .int (nI zn), .ref d7, .ref d8, .long sd, .ref d9, .ref d0])), (d7, .inl (gI g, 6, .inl zc)), (d8, .inl (gI g, 6, .inl zb))] H) : Met l yX7_leaves (Cond.code yX7_leaves cX7_leaves 5 (some .int) :: wsL_law) ({ frames := 2, cells := 0, slots := 0, locals := 49 }) (PR g [.ref h0, .int x0] H) (QRi (mLv (myB cf bz zn) x0) H) 0 0 NoA := by
  refine Met.R (by decide) (Nat.le_of_ble_eq_true rfl) rfl ?_
  intro p e s m below meth c hx hb hr hml hw hown hlocks hkn hH ls hl
  subst hH
  have hl : lv_has ls 5 [(0, .ref h0), (1, .int x0)] := hl
  have hS : va_S NoA s.heap s.heap [] := va_S.rf
  refine lv_iload_n hx hb dX7_leaves_0 rfl (lv_at hl 1 rfl) ?_
  refine lv_i2l hx hb dX7_leaves_1 rfl ?_
  refine lv_lconst (v := 0) hx hb dX7_leaves_2 rfl ?_
  refine lv_lconst (v := 1) hx hb dX7_leaves_3 rfl ?_
  refine cS_i (As := [.long ((x0).toInt64), .long 0, .long 1]) (rest := []) hx hb hml hown hw hkn hS hl (c_X7_in l g _ ((x0).toInt64) 0 1 ) sf_X7_in mw_101 ⟨(Nat.le_of_ble_eq_true rfl), (Nat.le_of_ble_eq_true rfl)⟩ rfl rfl rfl rfl (Nat.le_of_ble_eq_true rfl) dX7_leaves_4 ⟨(Nat.le_of_ble_eq_true rfl), (Nat.le_of_ble_eq_true rfl)⟩ ?_
  refine lv_eqi (show _ = b2i (is01 x0) from congrArg b2i (is01_in x0)) ?_
  refine lv_ifneB (b := is01 x0) (tgt := 13) hx hb dX7_leaves_7 (by decide) (fun c_1 => ?_) (fun c_1 => ?_)
  · skip
    refine lv_iconst (v := 0) hx hb dX7_leaves_13 (by decide) ?_
    refine lv_istore_n (lv' := [(2, .int 0), (0, .ref h0), (1, .int x0)]) hx hb dX7_leaves_14 rfl hl (by decide) rfl (fun ls hl => ?_)
    refine lv_bipush (v := (-9)) hx hb dX7_leaves_15 (by decide) ?_
    refine lv_istore_n (lv' := [(3, .int (-9)), (2, .int 0), (0, .ref h0), (1, .int x0)]) hx hb dX7_leaves_17 rfl hl (by decide) rfl (fun ls hl => ?_)
    refine lv_iconst (v := 0) hx hb dX7_leaves_18 (by decide) ?_
    refine lv_istore (lv' := [(4, .int 0), (3, .int (-9)), (2, .int 0), (0, .ref h0), (1, .int x0)]) hx hb dX7_leaves_19 hl (by decide) rfl (fun ls hl => ?_)
    have lp_21 : ∀ (n_21 : Nat) (i : Nat) (n1 : Nat) (y : Int32), (i ≤ 256) → ((n1, y) = lvG (myB cf bz zn) i) → 256 < i + n_21 → ∀ (ls : Array Slot), lv_has ls 5 [(4, .int (nI i)), (3, .int y), (2, .int (nI n1)), (0, .ref h0), (1, .int x0)] → W p l e ({ frames := 2, cells := 0, slots := 0, locals := 49 } : Room) s m ([.ref h0, .int x0] : List Value).toArray below meth c s.heap [] 0 0 (MQ below (QRi (mLv (myB cf bz zn) x0) s.heap) ([.ref h0, .int x0] : List Value).toArray s 0 0 NoA) (F0 m 21 ls []) := by
      intro n_21
      induction n_21 with
      | zero => intro i n1 y h_i h_l hfu_21; exact absurd hfu_21 (by omega)
      | succ n_21 ih_21 =>
        intro i n1 y h_i h_l hfu_21 ls hl
        have hn1 : n1 ≤ 256 := by have h9 := lvG_le (myB cf bz zn) i; rw [← h_l] at h9; exact Nat.le_trans h9 h_i
        refine lv_iload hx hb dX7_leaves_21 (lv_at hl 0 rfl) ?_
        refine lv_sipush (v := 256) hx hb dX7_leaves_23 (by decide) ?_
        refine ic_ge (a := i) (d := 256) (tgt := 61) hx hb dX7_leaves_26 (by decide) rfl rfl (by omega) (by omega) (fun c_2 => ?_) (fun c_2 => ?_)
        · skip
          refine lv_iload_n hx hb dX7_leaves_61 rfl (lv_at hl 4 rfl) ?_
          refine lv_if_ne (tgt := 69) hx hb dX7_leaves_62 (by decide) (fun c_3 => ?_) (fun c_3 => ?_)
          · skip
            refine lv_iload_n hx hb dX7_leaves_69 rfl (lv_at hl 1 rfl) ?_
            exact eR_i hx hb hr hlocks (by unfold mLv; rw [if_pos c_1, ← show i = 256 by omega, ← h_l]; exact (if_neg c_3).symm) dX7_leaves_70
          · skip
            refine lv_iload_n hx hb dX7_leaves_65 rfl (lv_at hl 2 rfl) ?_
            refine lv_goto (tgt := 70) hx hb dX7_leaves_66 (by decide) ?_
            exact eR_i hx hb hr hlocks (by unfold mLv; rw [if_pos c_1, ← show i = 256 by omega, ← h_l]; exact (if_pos c_3).symm) dX7_leaves_70
        · skip
          refine lv_aload_n hx hb dX7_leaves_29 rfl (lv_at hl 3 rfl) ?_
          refine lv_iload hx hb dX7_leaves_30 (lv_at hl 0 rfl) ?_
          refine cV_i (As := [.int (nI i)]) (rest := []) hx hb hml hown hw hkn hS hl (c_X7_mayBe l g _ h0 i d1 ln rd xd xq d2 an nx d3 d4 d5 d6 xm zn d7 d8 sd d9 d0 zc zb cf bz (by omega) (hcf) (hbz) (by omega) (hP.sub [0, 1, 2] rfl)) vf_X7_mayBe mw_669 (va_recv hkn.1 hP (ci := 6) (q0 := 0) rfl rfl) ⟨(Nat.le_of_ble_eq_true rfl), (Nat.le_of_ble_eq_true rfl)⟩ rfl rfl rfl rfl (Nat.le_of_ble_eq_true rfl) dX7_leaves_32 ⟨(Nat.le_of_ble_eq_true rfl), (Nat.le_of_ble_eq_true rfl)⟩ ?_
          refine lv_ifeqB (b := myB cf bz zn i) (tgt := 55) hx hb dX7_leaves_35 (by decide) (fun c_4 => ?_) (fun c_4 => ?_)
          · skip
            refine lv_iinc (v := (nI (i + 1))) (lv' := [(4, .int (nI (i + 1))), (3, .int y), (2, .int (nI n1)), (0, .ref h0), (1, .int x0)]) hx hb dX7_leaves_55 hl (k := 0) rfl (nI_1 i) (by decide) rfl (fun ls hl => ?_)
            refine lv_goto (tgt := 21) hx hb dX7_leaves_58 (by decide) ?_
            exact ih_21 (i + 1) n1 y (by omega) (by first | exact lv_n h_l c_4 | exact lv_s h_l c_4) (by omega) ls (lv_sub hl [0, 1, 2, 3, 4] rfl)
          · skip
            refine lv_iload_n hx hb dX7_leaves_38 rfl (lv_at hl 2 rfl) ?_
            have mg_51 : W p l e ({ frames := 2, cells := 0, slots := 0, locals := 49 } : Room) s m ([.ref h0, .int x0] : List Value).toArray below meth c s.heap [] 0 0 (MQ below (QRi (mLv (myB cf bz zn) x0) s.heap) ([.ref h0, .int x0] : List Value).toArray s 0 0 NoA) (F0 m 51 ls (.int (if n1 = 0 then (nI (figN i)) else y) :: [])) := by
              refine lv_istore_n (lv' := [(3, .int (if n1 = 0 then (nI (figN i)) else y)), (4, .int (nI i)), (2, .int (nI n1)), (0, .ref h0), (1, .int x0)]) hx hb dX7_leaves_51 rfl hl (by decide) rfl (fun ls hl => ?_)
              refine lv_iinc (v := (nI (n1 + 1))) (lv' := [(2, .int (nI (n1 + 1))), (3, .int (if n1 = 0 then (nI (figN i)) else y)), (4, .int (nI i)), (0, .ref h0), (1, .int x0)]) hx hb dX7_leaves_52 hl (k := 2) rfl (nI_1 n1) (by decide) rfl (fun ls hl => ?_)
              refine lv_iinc (v := (nI (i + 1))) (lv' := [(4, .int (nI (i + 1))), (2, .int (nI (n1 + 1))), (3, .int (if n1 = 0 then (nI (figN i)) else y)), (0, .ref h0), (1, .int x0)]) hx hb dX7_leaves_55 hl (k := 2) rfl (nI_1 i) (by decide) rfl (fun ls hl => ?_)
              refine lv_goto (tgt := 21) hx hb dX7_leaves_58 (by decide) ?_
              exact ih_21 (i + 1) (n1 + 1) (if n1 = 0 then (nI (figN i)) else y) (by omega) (by first | exact lv_n h_l c_4 | exact lv_s h_l c_4) (by omega) ls (lv_sub hl [0, 2, 1, 3, 4] rfl)
            refine iz_ne (a := n1) (tgt := 50) hx hb dX7_leaves_39 (by decide) rfl (by omega) (fun c_5 => ?_) (fun c_5 => ?_)
            · skip
              refine lv_iload_n hx hb dX7_leaves_50 rfl (lv_at hl 1 rfl) ?_
              exact lv_eqi (by rw [if_neg (Nat.pos_iff_ne_zero.mp c_5)]) mg_51
            · skip
              refine lv_iload hx hb dX7_leaves_42 (lv_at hl 0 rfl) ?_
              refine cS_i (As := [.int (nI i)]) (rest := []) hx hb hml hown hw hkn hS hl (c_X7_figuresOf l g _ i (by omega)) sf_X7_figuresOf mw_676 ⟨(Nat.le_of_ble_eq_true rfl), (Nat.le_of_ble_eq_true rfl)⟩ rfl rfl rfl rfl (Nat.le_of_ble_eq_true rfl) dX7_leaves_44 ⟨(Nat.le_of_ble_eq_true rfl), (Nat.le_of_ble_eq_true rfl)⟩ ?_
              refine lv_goto (tgt := 51) hx hb dX7_leaves_47 (by decide) ?_
              exact lv_eqi (by rw [if_pos c_5]) mg_51
    exact lp_21 257 0 0 (-9) (by omega) (rfl) (by omega) ls (lv_sub hl [0, 1, 2, 3, 4] rfl)
  · skip
    refine lv_bipush (v := (-2)) hx hb dX7_leaves_10 (by decide) ?_
    exact eR_i hx hb hr hlocks (by unfold mLv; rw [if_neg (nt_of c_1)]) dX7_leaves_12
set_option maxHeartbeats 4000000 in
set_option maxRecDepth 100000 in
theorem c_X7_areaBy (l : Launch) (g : GG) (H : Heap) (h0 : Nat) (k : Nat) (d1 : Nat) (ln : Nat) (rd : Int64) (xd : Int32) (xq : Int32) (d2 : Nat) (an : Nat) (nx : Nat) (d3 : Nat) (d4 : Nat) (d5 : Nat) (d6 : Nat) (xm : Int32) (zn : Nat) (d7 : Nat) (d8 : Nat) (sd : Int64) (d9 : Nat) (d0 : Nat) (nw : Nat → Int64) (hk : k < 8) (hP : va_P g.1 vwCl [(h0, .inr (6, [.ref d1, .int (nI ln), .long rd, .int xd, .int xq, .ref d2, .int (nI an), .int (nI nx), .ref d3, .ref d4, .ref d5, .ref d6, .int xm, .int (nI zn), .ref d7, .ref d8, .long sd, .ref d9, .ref d0])), (d2, .inl (gJ g, 6, .inr (.inl nw)))] H) : Met l yX7_areaBy (Cond.code yX7_areaBy cX7_areaBy 5 (some .int) :: wsL_law) ({ frames := 1, cells := 0, slots := 0, locals := 23 }) (PR g [.ref h0, .int (nI k)] H) (QRi (nI (pcn (abS nw k))) H) 0 0 NoA := by
  refine Met.R (by decide) (Nat.le_of_ble_eq_true rfl) rfl ?_
  intro p e s m below meth c hx hb hr hml hw hown hlocks hkn hH ls hl
  subst hH
  have hl : lv_has ls 5 [(0, .ref h0), (1, .int (nI k))] := hl
  have hS : va_S NoA s.heap s.heap [] := va_S.rf
  refine lv_lconst (v := 0) hx hb dX7_areaBy_0 rfl ?_
  refine lv_lstore_n (lv' := [(2, .long 0), (0, .ref h0), (1, .int (nI k))]) hx hb dX7_areaBy_1 rfl hl (by decide) rfl (fun ls hl => ?_)
  refine lv_iconst (v := 0) hx hb dX7_areaBy_2 (by decide) ?_
  refine lv_istore (lv' := [(4, .int 0), (2, .long 0), (0, .ref h0), (1, .int (nI k))]) hx hb dX7_areaBy_3 hl (by decide) rfl (fun ls hl => ?_)
  have lp_5 : ∀ (n_5 : Nat) (i : Nat) (a : Int64), (i ≤ 3) → (a = it (abF nw k) i 0) → 3 < i + n_5 → ∀ (ls : Array Slot), lv_has ls 5 [(4, .int (nI i)), (2, .long a), (0, .ref h0), (1, .int (nI k))] → W p l e ({ frames := 1, cells := 0, slots := 0, locals := 23 } : Room) s m ([.ref h0, .int (nI k)] : List Value).toArray below meth c s.heap [] 0 0 (MQ below (QRi (nI (pcn (abS nw k))) s.heap) ([.ref h0, .int (nI k)] : List Value).toArray s 0 0 NoA) (F0 m 5 ls []) := by
    intro n_5
    induction n_5 with
    | zero => intro i a h_i h_a hfu_5; exact absurd hfu_5 (by omega)
    | succ n_5 ih_5 =>
      intro i a h_i h_a hfu_5 ls hl
      refine lv_iload hx hb dX7_areaBy_5 (lv_at hl 0 rfl) ?_
      refine lv_iconst (v := 3) hx hb dX7_areaBy_7 (by decide) ?_
      refine ic_ge (a := i) (d := 3) (tgt := 41) hx hb dX7_areaBy_8 (by decide) rfl rfl (by omega) (by omega) (fun c_1 => ?_) (fun c_1 => ?_)
      · skip
        refine lv_lload_n hx hb dX7_areaBy_41 rfl (lv_at hl 1 rfl) ?_
        refine cS_i (As := [.long a]) (rest := []) hx hb hml hown hw hkn hS hl (c_X7_ones l g _ a ) sf_X7_ones mw_254 ⟨(Nat.le_of_ble_eq_true rfl), (Nat.le_of_ble_eq_true rfl)⟩ rfl rfl rfl rfl (Nat.le_of_ble_eq_true rfl) dX7_areaBy_42 ⟨(Nat.le_of_ble_eq_true rfl), (Nat.le_of_ble_eq_true rfl)⟩ ?_
        exact eR_i hx hb hr hlocks (by rw [h_a, show i = 3 by omega]; rfl) dX7_areaBy_45
      · skip
        refine lv_lload_n hx hb dX7_areaBy_11 rfl (lv_at hl 1 rfl) ?_
        refine lv_iload_n hx hb dX7_areaBy_12 rfl (lv_at hl 3 rfl) ?_
        refine lv_iload hx hb dX7_areaBy_13 (lv_at hl 0 rfl) ?_
        refine lv_ishr hx hb dX7_areaBy_15 ?_
        refine lv_iconst (v := 1) hx hb dX7_areaBy_16 (by decide) ?_
        refine lv_iand hx hb dX7_areaBy_17 ?_
        refine lv_eqi (show _ = (nI (sb k i)) from sb_eq (by omega) (by omega)) ?_
        refine lv_iconst (v := 1) hx hb dX7_areaBy_18 (by decide) ?_
        have hsb := sb_lt k i
        have mg_33 : W p l e ({ frames := 1, cells := 0, slots := 0, locals := 23 } : Room) s m ([.ref h0, .int (nI k)] : List Value).toArray below meth c s.heap [] 0 0 (MQ below (QRi (nI (pcn (abS nw k))) s.heap) ([.ref h0, .int (nI k)] : List Value).toArray s 0 0 NoA) (F0 m 33 ls (.long (if sb k i = 1 then (nw i) else 0) :: [.long a])) := by
          refine lv_lor hx hb dX7_areaBy_33 ?_
          refine lv_lstore_n (lv' := [(2, .long (a ||| (if sb k i = 1 then (nw i) else 0))), (4, .int (nI i)), (0, .ref h0), (1, .int (nI k))]) hx hb dX7_areaBy_34 rfl hl (by decide) rfl (fun ls hl => ?_)
          refine lv_iinc (v := (nI (i + 1))) (lv' := [(4, .int (nI (i + 1))), (2, .long (a ||| (if sb k i = 1 then (nw i) else 0))), (0, .ref h0), (1, .int (nI k))]) hx hb dX7_areaBy_35 hl (k := 1) rfl (nI_1 i) (by decide) rfl (fun ls hl => ?_)
          refine lv_goto (tgt := 5) hx hb dX7_areaBy_38 (by decide) ?_
          exact ih_5 (i + 1) (a ||| (if sb k i = 1 then (nw i) else 0)) (by omega) (by rw [h_a]; rfl) (by omega) ls (lv_sub hl [0, 1, 2, 3] rfl)
        refine ic_ne (a := sb k i) (d := 1) (tgt := 32) hx hb dX7_areaBy_19 (by decide) rfl rfl (by omega) (by omega) (fun c_2 => ?_) (fun c_2 => ?_)
        · skip
          refine lv_lconst (v := 0) hx hb dX7_areaBy_32 rfl ?_
          exact lv_eql (by rw [if_neg c_2]) mg_33
        · skip
          refine lv_aload_n hx hb dX7_areaBy_22 rfl (lv_at hl 2 rfl) ?_
          refine va_get (D := g.1) (ci := 6) (v := .ref d2) (C := RX7) (T := TX7) (N := 19) hx hb hw inlX7 hown hkn.1 hP 0 rfl rfl 5 (by decide) (hw _ mw_74) (fun _ h9 => h9) rfl dX7_areaBy_23 ?_
          refine lv_iload hx hb dX7_areaBy_26 (lv_at hl 0 rfl) ?_
          refine va_lald hx hb hkn.1 hP 1 1 rfl rfl (vp_in_nI (n := i) (by omega) (by decide)) dX7_areaBy_28 ?_
          refine lv_eql (show _ = nw i by rw [nI_clamp (n := i) (by omega)]) ?_
          refine lv_goto (tgt := 33) hx hb dX7_areaBy_29 (by decide) ?_
          exact lv_eql (by rw [if_pos c_2]) mg_33
  exact lp_5 4 0 0 (by omega) (rfl) (by omega) ls (lv_sub hl [0, 1, 2, 3] rfl)
set_option maxHeartbeats 4000000 in
set_option maxRecDepth 100000 in
theorem c_X7_share (l : Launch) (g : GG) (H : Heap) (h0 : Nat) (x0 : Int32) (up : Bool) (d1 : Nat) (ln : Nat) (rd : Int64) (xd : Int32) (xq : Int32) (d2 : Nat) (an : Nat) (nx : Nat) (d3 : Nat) (d4 : Nat) (d5 : Nat) (d6 : Nat) (xm : Int32) (zn : Nat) (d7 : Nat) (d8 : Nat) (sd : Int64) (d9 : Nat) (d0 : Nat) (nw : Nat → Int64)  (hP : va_P g.1 vwCl [(h0, .inr (6, [.ref d1, .int (nI ln), .long rd, .int xd, .int xq, .ref d2, .int (nI an), .int (nI nx), .ref d3, .ref d4, .ref d5, .ref d6, .int xm, .int (nI zn), .ref d7, .ref d8, .long sd, .ref d9, .ref d0])), (d2, .inl (gJ g, 6, .inr (.inl nw)))] H) : Met l yX7_share (Cond.code yX7_share cX7_share 6 (some .int) :: wsL_law) ({ frames := 2, cells := 0, slots := 0, locals := 47 }) (PR g [.ref h0, .int x0, .int (b2i up)] H) (QRi (mSh nw x0 up) H) 0 0 NoA := by
  refine Met.R (by decide) (Nat.le_of_ble_eq_true rfl) rfl ?_
  intro p e s m below meth c hx hb hr hml hw hown hlocks hkn hH ls hl
  subst hH
  have hl : lv_has ls 6 [(0, .ref h0), (1, .int x0), (2, .int (b2i up))] := hl
  have hS : va_S NoA s.heap s.heap [] := va_S.rf
  refine lv_iload_n hx hb dX7_share_0 rfl (lv_at hl 1 rfl) ?_
  refine cS_i (As := [.int x0]) (rest := []) hx hb hml hown hw hkn hS hl (c_X7_isPicture l g _ x0 ) sf_X7_isPicture mw_245 ⟨(Nat.le_of_ble_eq_true rfl), (Nat.le_of_ble_eq_true rfl)⟩ rfl rfl rfl rfl (Nat.le_of_ble_eq_true rfl) dX7_share_1 ⟨(Nat.le_of_ble_eq_true rfl), (Nat.le_of_ble_eq_true rfl)⟩ ?_
  refine lv_ifneB (b := isPic x0) (tgt := 9) hx hb dX7_share_4 (by decide) (fun c_1 => ?_) (fun c_1 => ?_)
  · skip
    obtain ⟨x9, hx9, ex9⟩ := isPic_of c_1
    have ec : x0.toNatClampNeg = x9 := by rw [ex9, nI_clamp (by omega)]
    refine lv_iconst (v := 0) hx hb dX7_share_9 (by decide) ?_
    refine lv_istore_n (lv' := [(3, .int 0), (0, .ref h0), (1, .int x0), (2, .int (b2i up))]) hx hb dX7_share_10 rfl hl (by decide) rfl (fun ls hl => ?_)
    refine lv_iconst (v := 0) hx hb dX7_share_11 (by decide) ?_
    refine lv_istore (lv' := [(4, .int 0), (3, .int 0), (0, .ref h0), (1, .int x0), (2, .int (b2i up))]) hx hb dX7_share_12 hl (by decide) rfl (fun ls hl => ?_)
    have lp_14 : ∀ (n_14 : Nat) (i : Nat) (a : Nat), (i ≤ 8) → (a = fb_sm (smF nw x9) i) → 8 < i + n_14 → ∀ (ls : Array Slot), lv_has ls 6 [(4, .int (nI i)), (3, .int (nI a)), (0, .ref h0), (1, .int x0), (2, .int (b2i up))] → W p l e ({ frames := 2, cells := 0, slots := 0, locals := 47 } : Room) s m ([.ref h0, .int x0, .int (b2i up)] : List Value).toArray below meth c s.heap [] 0 0 (MQ below (QRi (mSh nw x0 up) s.heap) ([.ref h0, .int x0, .int (b2i up)] : List Value).toArray s 0 0 NoA) (F0 m 14 ls []) := by
      intro n_14
      induction n_14 with
      | zero => intro i a h_i h_a hfu_14; exact absurd hfu_14 (by omega)
      | succ n_14 ih_14 =>
        intro i a h_i h_a hfu_14 ls hl
        have hab := sm_le nw x9 i
        refine lv_iload hx hb dX7_share_14 (lv_at hl 0 rfl) ?_
        refine lv_bipush (v := 8) hx hb dX7_share_16 (by decide) ?_
        refine ic_ge (a := i) (d := 8) (tgt := 81) hx hb dX7_share_18 (by decide) rfl rfl (by omega) (by omega) (fun c_2 => ?_) (fun c_2 => ?_)
        · skip
          refine lv_iload_n hx hb dX7_share_81 rfl (lv_at hl 1 rfl) ?_
          refine lv_bipush (v := 6) hx hb dX7_share_82 (by decide) ?_
          refine cS_i (As := [.int (nI a), .int 6]) (rest := []) hx hb hml hown hw hkn hS hl (c_X7_common l g _ a 6 (by omega) (by omega)) sf_X7_common mw_705 ⟨(Nat.le_of_ble_eq_true rfl), (Nat.le_of_ble_eq_true rfl)⟩ rfl rfl rfl rfl (Nat.le_of_ble_eq_true rfl) dX7_share_84 ⟨(Nat.le_of_ble_eq_true rfl), (Nat.le_of_ble_eq_true rfl)⟩ ?_
          refine lv_istore (lv' := [(4, .int (nI (Nat.gcd a 6))), (3, .int (nI a)), (0, .ref h0), (1, .int x0), (2, .int (b2i up))]) hx hb dX7_share_87 hl (by decide) rfl (fun ls hl => ?_)
          have hg1 : 0 < Nat.gcd a 6 := Nat.gcd_pos_of_pos_right a (by decide)
          have hg2 : Nat.gcd a 6 ≤ 6 := Nat.le_of_dvd (by decide) (Nat.gcd_dvd_right a 6)
          refine lv_iload_n hx hb dX7_share_89 rfl (lv_at hl 4 rfl) ?_
          refine lv_ifeqB (b := up) (tgt := 100) hx hb dX7_share_90 (by decide) (fun c_3 => ?_) (fun c_3 => ?_)
          · skip
            refine lv_bipush (v := 6) hx hb dX7_share_100 (by decide) ?_
            refine lv_iload hx hb dX7_share_102 (lv_at hl 0 rfl) ?_
            refine lv_idiv hx hb dX7_share_104 (nI_ne0 (by omega) (by omega)) ?_
            refine lv_eqi (pk_div (a := 6) (d := Nat.gcd a 6) (by omega) (by omega) (by omega)) ?_
            exact eR_i hx hb hr hlocks (by unfold mSh tdN; rw [if_pos c_1, ec, ← show i = 8 by omega, ← h_a, if_neg (nt_of c_3)]) dX7_share_105
          · skip
            refine lv_iload_n hx hb dX7_share_93 rfl (lv_at hl 1 rfl) ?_
            refine lv_iload hx hb dX7_share_94 (lv_at hl 0 rfl) ?_
            refine lv_idiv hx hb dX7_share_96 (nI_ne0 (by omega) (by omega)) ?_
            refine lv_eqi (pk_div (a := a) (d := Nat.gcd a 6) (by omega) (by omega) (by omega)) ?_
            refine lv_goto (tgt := 105) hx hb dX7_share_97 (by decide) ?_
            exact eR_i hx hb hr hlocks (by unfold mSh tdN; rw [if_pos c_1, ec, ← show i = 8 by omega, ← h_a, if_pos c_3]) dX7_share_105
        · skip
          refine lv_iload hx hb dX7_share_21 (lv_at hl 0 rfl) ?_
          refine lv_iload_n hx hb dX7_share_23 rfl (lv_at hl 3 rfl) ?_
          refine lv_eqi (show _ = (nI x9) from ex9) ?_
          refine lv_ishr hx hb dX7_share_24 ?_
          refine lv_iconst (v := 1) hx hb dX7_share_25 (by decide) ?_
          refine lv_iand hx hb dX7_share_26 ?_
          refine lv_eqi (show _ = (nI (sb i x9)) from th_sh (by omega) hx9) ?_
          have hsb := sb_lt i x9
          refine iz_ne (a := sb i x9) (tgt := 75) hx hb dX7_share_27 (by decide) rfl (by omega) (fun c_4 => ?_) (fun c_4 => ?_)
          · skip
            refine lv_iinc (v := (nI (i + 1))) (lv' := [(4, .int (nI (i + 1))), (3, .int (nI a)), (0, .ref h0), (1, .int x0), (2, .int (b2i up))]) hx hb dX7_share_75 hl (k := 0) rfl (nI_1 i) (by decide) rfl (fun ls hl => ?_)
            refine lv_goto (tgt := 14) hx hb dX7_share_78 (by decide) ?_
            exact ih_14 (i + 1) a (by omega) (by rw [h_a, fb_sm_succ]; first | (rw [show smF nw x9 i = 0 from if_neg (by omega)]; done) | (rw [show smF nw x9 i = 0 from if_neg (by omega), Nat.add_zero]; done) | (rw [show smF nw x9 i = _ from if_pos (by omega)]; done)) (by omega) ls (lv_sub hl [0, 1, 2, 3, 4] rfl)
          · skip
            refine lv_iload hx hb dX7_share_30 (lv_at hl 0 rfl) ?_
            have mg_50 : W p l e ({ frames := 2, cells := 0, slots := 0, locals := 47 } : Room) s m ([.ref h0, .int x0, .int (b2i up)] : List Value).toArray below meth c s.heap [] 0 0 (MQ below (QRi (mSh nw x0 up) s.heap) ([.ref h0, .int x0, .int (b2i up)] : List Value).toArray s 0 0 NoA) (F0 m 50 ls (.int (if i = 0 then 2 else (if pcn (lN i) = 2 then 2 else 1)) :: [])) := by
              refine lv_eqi (show _ = (nI (orde i)) from or_t i) ?_
              refine lv_istore (lv' := [(5, .int (nI (orde i))), (4, .int (nI i)), (3, .int (nI a)), (0, .ref h0), (1, .int x0), (2, .int (b2i up))]) hx hb dX7_share_50 hl (by decide) rfl (fun ls hl => ?_)
              refine lv_iload_n hx hb dX7_share_52 rfl (lv_at hl 2 rfl) ?_
              refine lv_iload hx hb dX7_share_53 (lv_at hl 0 rfl) ?_
              refine lv_aload_n hx hb dX7_share_55 rfl (lv_at hl 3 rfl) ?_
              refine lv_iload hx hb dX7_share_56 (lv_at hl 1 rfl) ?_
              refine lv_iconst (v := 1) hx hb dX7_share_58 (by decide) ?_
              refine lv_iload_n hx hb dX7_share_59 rfl (lv_at hl 4 rfl) ?_
              refine lv_eqi (show _ = (nI x9) from ex9) ?_
              refine lv_ishl hx hb dX7_share_60 ?_
              refine lv_ior hx hb dX7_share_61 ?_
              refine lv_eqi (show _ = (nI (orN i x9)) from or_eq (by omega) hx9) ?_
              have horl := or_lt (show i < 8 by omega) hx9
              have hmo := ab_mono (nw := nw) (show i < 8 by omega) hx9
              refine cV_i (As := [.int (nI (orN i x9))]) (rest := [.int (nI (orde i)), .int (nI a)]) hx hb hml hown hw hkn hS hl (c_X7_areaBy l g _ h0 (orN i x9) d1 ln rd xd xq d2 an nx d3 d4 d5 d6 xm zn d7 d8 sd d9 d0 nw (by omega) (hP.sub [0, 1] rfl)) vf_X7_areaBy mw_701 (va_recv hkn.1 hP (ci := 6) (q0 := 0) rfl rfl) ⟨(Nat.le_of_ble_eq_true rfl), (Nat.le_of_ble_eq_true rfl)⟩ rfl rfl rfl rfl (Nat.le_of_ble_eq_true rfl) dX7_share_62 ⟨(Nat.le_of_ble_eq_true rfl), (Nat.le_of_ble_eq_true rfl)⟩ ?_
              refine lv_aload_n hx hb dX7_share_65 rfl (lv_at hl 3 rfl) ?_
              refine lv_iload hx hb dX7_share_66 (lv_at hl 1 rfl) ?_
              refine cV_i (As := [.int (nI i)]) (rest := [.int (nI (pcn (abS nw (orN i x9)))), .int (nI (orde i)), .int (nI a)]) hx hb hml hown hw hkn hS hl (c_X7_areaBy l g _ h0 i d1 ln rd xd xq d2 an nx d3 d4 d5 d6 xm zn d7 d8 sd d9 d0 nw (by omega) (hP.sub [0, 1] rfl)) vf_X7_areaBy mw_701 (va_recv hkn.1 hP (ci := 6) (q0 := 0) rfl rfl) ⟨(Nat.le_of_ble_eq_true rfl), (Nat.le_of_ble_eq_true rfl)⟩ rfl rfl rfl rfl (Nat.le_of_ble_eq_true rfl) dX7_share_68 ⟨(Nat.le_of_ble_eq_true rfl), (Nat.le_of_ble_eq_true rfl)⟩ ?_
              refine lv_isub hx hb dX7_share_71 ?_
              refine lv_eqi (pk_sub (a := pcn (abS nw (orN i x9))) (b := pcn (abS nw i)) (by omega)) ?_
              refine lv_imul hx hb dX7_share_72 ?_
              refine lv_eqi (pk_mul (orde i) (pcn (abS nw (orN i x9)) - (pcn (abS nw i)))) ?_
              refine lv_iadd hx hb dX7_share_73 ?_
              refine lv_eqi (nI_add a ((orde i) * (pcn (abS nw (orN i x9)) - (pcn (abS nw i))))) ?_
              refine lv_istore_n (lv' := [(3, .int (nI (a + ((orde i) * (pcn (abS nw (orN i x9)) - (pcn (abS nw i))))))), (5, .int (nI (orde i))), (4, .int (nI i)), (0, .ref h0), (1, .int x0), (2, .int (b2i up))]) hx hb dX7_share_74 rfl hl (by decide) rfl (fun ls hl => ?_)
              refine lv_iinc (v := (nI (i + 1))) (lv' := [(4, .int (nI (i + 1))), (3, .int (nI (a + ((orde i) * (pcn (abS nw (orN i x9)) - (pcn (abS nw i))))))), (5, .int (nI (orde i))), (0, .ref h0), (1, .int x0), (2, .int (b2i up))]) hx hb dX7_share_75 hl (k := 2) rfl (nI_1 i) (by decide) rfl (fun ls hl => ?_)
              refine lv_goto (tgt := 14) hx hb dX7_share_78 (by decide) ?_
              exact ih_14 (i + 1) (a + ((orde i) * (pcn (abS nw (orN i x9)) - (pcn (abS nw i))))) (by omega) (by rw [h_a, fb_sm_succ]; first | (rw [show smF nw x9 i = 0 from if_neg (by omega)]; done) | (rw [show smF nw x9 i = 0 from if_neg (by omega), Nat.add_zero]; done) | (rw [show smF nw x9 i = _ from if_pos (by omega)]; done)) (by omega) ls (lv_sub hl [0, 1, 3, 4, 5] rfl)
            refine iz_eq (a := i) (tgt := 45) hx hb dX7_share_32 (by decide) rfl (by omega) (fun c_5 => ?_) (fun c_5 => ?_)
            · skip
              refine lv_iconst (v := 2) hx hb dX7_share_45 (by decide) ?_
              refine lv_goto (tgt := 50) hx hb dX7_share_46 (by decide) ?_
              exact lv_eqi (by rw [if_pos c_5]) mg_50
            · skip
              have hon := pcn_le (lN i)
              refine lv_iload hx hb dX7_share_35 (lv_at hl 0 rfl) ?_
              refine lv_i2l (v := lN i) hx hb dX7_share_37 (nI_l (by omega)) ?_
              refine cS_i (As := [.long (lN i)]) (rest := []) hx hb hml hown hw hkn hS hl (c_X7_ones l g _ (lN i) ) sf_X7_ones mw_254 ⟨(Nat.le_of_ble_eq_true rfl), (Nat.le_of_ble_eq_true rfl)⟩ rfl rfl rfl rfl (Nat.le_of_ble_eq_true rfl) dX7_share_38 ⟨(Nat.le_of_ble_eq_true rfl), (Nat.le_of_ble_eq_true rfl)⟩ ?_
              refine lv_iconst (v := 2) hx hb dX7_share_41 (by decide) ?_
              refine ic_ne (a := pcn (lN i)) (d := 2) (tgt := 49) hx hb dX7_share_42 (by decide) rfl rfl (by omega) (by omega) (fun c_6 => ?_) (fun c_6 => ?_)
              · skip
                refine lv_iconst (v := 1) hx hb dX7_share_49 (by decide) ?_
                exact lv_eqi (by rw [if_neg (Nat.pos_iff_ne_zero.mp c_5), if_neg c_6]) mg_50
              · skip
                refine lv_iconst (v := 2) hx hb dX7_share_45 (by decide) ?_
                refine lv_goto (tgt := 50) hx hb dX7_share_46 (by decide) ?_
                exact lv_eqi (by rw [if_neg (Nat.pos_iff_ne_zero.mp c_5), if_pos c_6]) mg_50
    exact lp_14 9 0 0 (by omega) (rfl) (by omega) ls (lv_sub hl [0, 1, 2, 3, 4] rfl)
  · skip
    refine lv_iconst (v := (-1)) hx hb dX7_share_7 (by decide) ?_
    exact eR_i hx hb hr hlocks (by unfold mSh; rw [if_neg (nt_of c_1)]) dX7_share_8
set_option maxHeartbeats 4000000 in
set_option maxRecDepth 100000 in
theorem c_X7_gain (l : Launch) (g : GG) (H : Heap) (h0 : Nat) (a : Nat) (b : Nat) (i : Nat) (j : Nat) (d1 : Nat) (ln : Nat) (rd : Int64) (xd : Int32) (xq : Int32) (d2 : Nat) (an : Nat) (nx : Nat) (d3 : Nat) (d4 : Nat) (d5 : Nat) (d6 : Nat) (xm : Int32) (zn : Nat) (d7 : Nat) (d8 : Nat) (sd : Int64) (d9 : Nat) (d0 : Nat) (nw : Nat → Int64) (ha3 : a < 3) (hb3 : b < 3) (hab : a ≠ b) (hi2 : i < 2) (hj2 : j < 2) (hP : va_P g.1 vwCl [(h0, .inr (6, [.ref d1, .int (nI ln), .long rd, .int xd, .int xq, .ref d2, .int (nI an), .int (nI nx), .ref d3, .ref d4, .ref d5, .ref d6, .int xm, .int (nI zn), .ref d7, .ref d8, .long sd, .ref d9, .ref d0])), (d2, .inl (gJ g, 6, .inr (.inl nw)))] H) : Met l yX7_gain (Cond.code yX7_gain cX7_gain 9 (some .int) :: wsL_law) ({ frames := 3, cells := 0, slots := 0, locals := 74 }) (PR g [.ref h0, .int (nI a), .int (nI b), .int (nI i), .int (nI j)] H) (QRi (gnS (bwS (nw a) i) (bwS (nw b) j) (nw (3 - a - b))) H) 0 0 NoA := by
  refine Met.R (by decide) (Nat.le_of_ble_eq_true rfl) rfl ?_
  intro p e s m below meth c hx hb hr hml hw hown hlocks hkn hH ls hl
  subst hH
  have hl : lv_has ls 9 [(0, .ref h0), (1, .int (nI a)), (2, .int (nI b)), (3, .int (nI i)), (4, .int (nI j))] := hl
  have hS : va_S NoA s.heap s.heap [] := va_S.rf
  refine lv_iload_n hx hb dX7_gain_0 rfl (lv_at hl 3 rfl) ?_
  refine lv_iconst (v := 1) hx hb dX7_gain_1 (by decide) ?_
  have mg_23 : W p l e ({ frames := 3, cells := 0, slots := 0, locals := 74 } : Room) s m ([.ref h0, .int (nI a), .int (nI b), .int (nI i), .int (nI j)] : List Value).toArray below meth c s.heap [] 0 0 (MQ below (QRi (gnS (bwS (nw a) i) (bwS (nw b) j) (nw (3 - a - b))) s.heap) ([.ref h0, .int (nI a), .int (nI b), .int (nI i), .int (nI j)] : List Value).toArray s 0 0 NoA) (F0 m 23 ls (.long (if i = 1 then (tuS (nw a)) else (nw a)) :: [])) := by
    refine lv_eql (show _ = (bwS (nw a) i) from bw01 hi2) ?_
    refine lv_lstore (lv' := [(5, .long (bwS (nw a) i)), (0, .ref h0), (1, .int (nI a)), (2, .int (nI b)), (3, .int (nI i)), (4, .int (nI j))]) hx hb dX7_gain_23 hl (by decide) rfl (fun ls hl => ?_)
    refine lv_iload hx hb dX7_gain_25 (lv_at hl 5 rfl) ?_
    refine lv_iconst (v := 1) hx hb dX7_gain_27 (by decide) ?_
    have mg_49 : W p l e ({ frames := 3, cells := 0, slots := 0, locals := 74 } : Room) s m ([.ref h0, .int (nI a), .int (nI b), .int (nI i), .int (nI j)] : List Value).toArray below meth c s.heap [] 0 0 (MQ below (QRi (gnS (bwS (nw a) i) (bwS (nw b) j) (nw (3 - a - b))) s.heap) ([.ref h0, .int (nI a), .int (nI b), .int (nI i), .int (nI j)] : List Value).toArray s 0 0 NoA) (F0 m 49 ls (.long (if j = 1 then (tuS (nw b)) else (nw b)) :: [])) := by
      refine lv_eql (show _ = (bwS (nw b) j) from bw01 hj2) ?_
      refine lv_lstore (lv' := [(7, .long (bwS (nw b) j)), (5, .long (bwS (nw a) i)), (0, .ref h0), (1, .int (nI a)), (2, .int (nI b)), (3, .int (nI i)), (4, .int (nI j))]) hx hb dX7_gain_49 hl (by decide) rfl (fun ls hl => ?_)
      refine lv_lload hx hb dX7_gain_51 (lv_at hl 1 rfl) ?_
      refine lv_aload_n hx hb dX7_gain_53 rfl (lv_at hl 2 rfl) ?_
      refine va_get (D := g.1) (ci := 6) (v := .ref d2) (C := RX7) (T := TX7) (N := 19) hx hb hw inlX7 hown hkn.1 hP 0 rfl rfl 5 (by decide) (hw _ mw_74) (fun _ h9 => h9) rfl dX7_gain_54 ?_
      refine lv_iconst (v := 3) hx hb dX7_gain_57 (by decide) ?_
      refine lv_iload_n hx hb dX7_gain_58 rfl (lv_at hl 3 rfl) ?_
      refine lv_isub hx hb dX7_gain_59 ?_
      refine lv_eqi (pk_sub (a := 3) (b := a) (by omega)) ?_
      refine lv_iload_n hx hb dX7_gain_60 rfl (lv_at hl 4 rfl) ?_
      refine lv_isub hx hb dX7_gain_61 ?_
      refine lv_eqi (pk_sub (a := 3 - a) (b := b) (by omega)) ?_
      refine va_lald hx hb hkn.1 hP 1 1 rfl rfl (vp_in_nI (n := 3 - a - b) (by omega) (by decide)) dX7_gain_62 ?_
      refine lv_eql (show _ = nw (3 - a - b) by rw [nI_clamp (n := 3 - a - b) (by omega)]) ?_
      refine lv_land hx hb dX7_gain_63 ?_
      refine cS_i (As := [.long ((bwS (nw a) i) &&& (nw (3 - a - b)))]) (rest := []) hx hb hml hown hw hkn hS hl (c_X7_ones l g _ ((bwS (nw a) i) &&& (nw (3 - a - b))) ) sf_X7_ones mw_254 ⟨(Nat.le_of_ble_eq_true rfl), (Nat.le_of_ble_eq_true rfl)⟩ rfl rfl rfl rfl (Nat.le_of_ble_eq_true rfl) dX7_gain_64 ⟨(Nat.le_of_ble_eq_true rfl), (Nat.le_of_ble_eq_true rfl)⟩ ?_
      refine lv_lload hx hb dX7_gain_67 (lv_at hl 1 rfl) ?_
      refine lv_lload hx hb dX7_gain_69 (lv_at hl 0 rfl) ?_
      refine lv_land hx hb dX7_gain_71 ?_
      refine cS_i (As := [.long ((bwS (nw a) i) &&& (bwS (nw b) j))]) (rest := [.int (nI (pcn ((bwS (nw a) i) &&& (nw (3 - a - b)))))]) hx hb hml hown hw hkn hS hl (c_X7_ones l g _ ((bwS (nw a) i) &&& (bwS (nw b) j)) ) sf_X7_ones mw_254 ⟨(Nat.le_of_ble_eq_true rfl), (Nat.le_of_ble_eq_true rfl)⟩ rfl rfl rfl rfl (Nat.le_of_ble_eq_true rfl) dX7_gain_72 ⟨(Nat.le_of_ble_eq_true rfl), (Nat.le_of_ble_eq_true rfl)⟩ ?_
      refine lv_isub hx hb dX7_gain_75 ?_
      exact eR_i hx hb hr hlocks (rfl) dX7_gain_76
    refine ic_ne (a := j) (d := 1) (tgt := 43) hx hb dX7_gain_28 (by decide) rfl rfl (by omega) (by omega) (fun c_1 => ?_) (fun c_1 => ?_)
    · skip
      refine lv_aload_n hx hb dX7_gain_43 rfl (lv_at hl 1 rfl) ?_
      refine va_get (D := g.1) (ci := 6) (v := .ref d2) (C := RX7) (T := TX7) (N := 19) hx hb hw inlX7 hown hkn.1 hP 0 rfl rfl 5 (by decide) (hw _ mw_74) (fun _ h9 => h9) rfl dX7_gain_44 ?_
      refine lv_iload_n hx hb dX7_gain_47 rfl (lv_at hl 3 rfl) ?_
      refine va_lald hx hb hkn.1 hP 1 1 rfl rfl (vp_in_nI (n := b) (by omega) (by decide)) dX7_gain_48 ?_
      refine lv_eql (show _ = nw b by rw [nI_clamp (n := b) (by omega)]) ?_
      exact lv_eql (by rw [if_neg c_1]) mg_49
    · skip
      refine lv_aload_n hx hb dX7_gain_31 rfl (lv_at hl 1 rfl) ?_
      refine va_get (D := g.1) (ci := 6) (v := .ref d2) (C := RX7) (T := TX7) (N := 19) hx hb hw inlX7 hown hkn.1 hP 0 rfl rfl 5 (by decide) (hw _ mw_74) (fun _ h9 => h9) rfl dX7_gain_32 ?_
      refine lv_iload_n hx hb dX7_gain_35 rfl (lv_at hl 3 rfl) ?_
      refine va_lald hx hb hkn.1 hP 1 1 rfl rfl (vp_in_nI (n := b) (by omega) (by decide)) dX7_gain_36 ?_
      refine lv_eql (show _ = nw b by rw [nI_clamp (n := b) (by omega)]) ?_
      refine cS_l (As := [.long (nw b)]) (rest := []) hx hb hml hown hw hkn hS hl (c_X7_turned l g _ (nw b) ) sf_X7_turned mw_318 ⟨(Nat.le_of_ble_eq_true rfl), (Nat.le_of_ble_eq_true rfl)⟩ rfl rfl rfl rfl (Nat.le_of_ble_eq_true rfl) dX7_gain_37 ⟨(Nat.le_of_ble_eq_true rfl), (Nat.le_of_ble_eq_true rfl)⟩ ?_
      refine lv_goto (tgt := 49) hx hb dX7_gain_40 (by decide) ?_
      exact lv_eql (by rw [if_pos c_1]) mg_49
  refine ic_ne (a := i) (d := 1) (tgt := 17) hx hb dX7_gain_2 (by decide) rfl rfl (by omega) (by omega) (fun c_2 => ?_) (fun c_2 => ?_)
  · skip
    refine lv_aload_n hx hb dX7_gain_17 rfl (lv_at hl 0 rfl) ?_
    refine va_get (D := g.1) (ci := 6) (v := .ref d2) (C := RX7) (T := TX7) (N := 19) hx hb hw inlX7 hown hkn.1 hP 0 rfl rfl 5 (by decide) (hw _ mw_74) (fun _ h9 => h9) rfl dX7_gain_18 ?_
    refine lv_iload_n hx hb dX7_gain_21 rfl (lv_at hl 1 rfl) ?_
    refine va_lald hx hb hkn.1 hP 1 1 rfl rfl (vp_in_nI (n := a) (by omega) (by decide)) dX7_gain_22 ?_
    refine lv_eql (show _ = nw a by rw [nI_clamp (n := a) (by omega)]) ?_
    exact lv_eql (by rw [if_neg c_2]) mg_23
  · skip
    refine lv_aload_n hx hb dX7_gain_5 rfl (lv_at hl 0 rfl) ?_
    refine va_get (D := g.1) (ci := 6) (v := .ref d2) (C := RX7) (T := TX7) (N := 19) hx hb hw inlX7 hown hkn.1 hP 0 rfl rfl 5 (by decide) (hw _ mw_74) (fun _ h9 => h9) rfl dX7_gain_6 ?_
    refine lv_iload_n hx hb dX7_gain_9 rfl (lv_at hl 1 rfl) ?_
    refine va_lald hx hb hkn.1 hP 1 1 rfl rfl (vp_in_nI (n := a) (by omega) (by decide)) dX7_gain_10 ?_
    refine lv_eql (show _ = nw a by rw [nI_clamp (n := a) (by omega)]) ?_
    refine cS_l (As := [.long (nw a)]) (rest := []) hx hb hml hown hw hkn hS hl (c_X7_turned l g _ (nw a) ) sf_X7_turned mw_318 ⟨(Nat.le_of_ble_eq_true rfl), (Nat.le_of_ble_eq_true rfl)⟩ rfl rfl rfl rfl (Nat.le_of_ble_eq_true rfl) dX7_gain_11 ⟨(Nat.le_of_ble_eq_true rfl), (Nat.le_of_ble_eq_true rfl)⟩ ?_
    refine lv_goto (tgt := 23) hx hb dX7_gain_14 (by decide) ?_
    exact lv_eql (by rw [if_pos c_2]) mg_23
set_option maxHeartbeats 4000000 in
set_option maxRecDepth 100000 in
theorem c_X7_isRest (l : Launch) (g : GG) (H : Heap) (h0 : Nat) (a : Nat) (b : Nat) (i : Nat) (j : Nat) (d1 : Nat) (ln : Nat) (rd : Int64) (xd : Int32) (xq : Int32) (d2 : Nat) (an : Nat) (nx : Nat) (d3 : Nat) (d4 : Nat) (d5 : Nat) (d6 : Nat) (xm : Int32) (zn : Nat) (d7 : Nat) (d8 : Nat) (sd : Int64) (d9 : Nat) (d0 : Nat) (nw : Nat → Int64) (ha3 : a < 3) (hb3 : b < 3) (hab : a ≠ b) (hi2 : i < 2) (hj2 : j < 2) (hP : va_P g.1 vwCl [(h0, .inr (6, [.ref d1, .int (nI ln), .long rd, .int xd, .int xq, .ref d2, .int (nI an), .int (nI nx), .ref d3, .ref d4, .ref d5, .ref d6, .int xm, .int (nI zn), .ref d7, .ref d8, .long sd, .ref d9, .ref d0])), (d2, .inl (gJ g, 6, .inr (.inl nw)))] H) : Met l yX7_isRest (Cond.code yX7_isRest cX7_isRest 5 (some .boolean) :: wsL_law) ({ frames := 4, cells := 0, slots := 0, locals := 102 }) (PR g [.ref h0, .int (nI a), .int (nI b), .int (nI i), .int (nI j)] H) (QRi (b2i (rsB nw a b i j)) H) 0 0 NoA := by
  refine Met.R (by decide) (Nat.le_of_ble_eq_true rfl) rfl ?_
  intro p e s m below meth c hx hb hr hml hw hown hlocks hkn hH ls hl
  subst hH
  have hl : lv_has ls 5 [(0, .ref h0), (1, .int (nI a)), (2, .int (nI b)), (3, .int (nI i)), (4, .int (nI j))] := hl
  have hS : va_S NoA s.heap s.heap [] := va_S.rf
  refine lv_aload_n hx hb dX7_isRest_0 rfl (lv_at hl 0 rfl) ?_
  refine lv_iload_n hx hb dX7_isRest_1 rfl (lv_at hl 1 rfl) ?_
  refine lv_iload_n hx hb dX7_isRest_2 rfl (lv_at hl 2 rfl) ?_
  refine lv_iconst (v := 1) hx hb dX7_isRest_3 (by decide) ?_
  refine lv_iload_n hx hb dX7_isRest_4 rfl (lv_at hl 3 rfl) ?_
  refine lv_isub hx hb dX7_isRest_5 ?_
  refine lv_eqi (pk_sub (a := 1) (b := i) (by omega)) ?_
  refine lv_iload hx hb dX7_isRest_6 (lv_at hl 4 rfl) ?_
  refine cV_i (As := [.int (nI a), .int (nI b), .int (nI (1 - i)), .int (nI j)]) (rest := []) hx hb hml hown hw hkn hS hl (c_X7_gain l g _ h0 a b (1 - i) j d1 ln rd xd xq d2 an nx d3 d4 d5 d6 xm zn d7 d8 sd d9 d0 nw (by omega) (by omega) (by omega) (by omega) (by omega) (hP.sub [0, 1] rfl)) vf_X7_gain mw_728 (va_recv hkn.1 hP (ci := 6) (q0 := 0) rfl rfl) ⟨(Nat.le_of_ble_eq_true rfl), (Nat.le_of_ble_eq_true rfl)⟩ rfl rfl rfl rfl (Nat.le_of_ble_eq_true rfl) dX7_isRest_8 ⟨(Nat.le_of_ble_eq_true rfl), (Nat.le_of_ble_eq_true rfl)⟩ ?_
  refine lv_aload_n hx hb dX7_isRest_11 rfl (lv_at hl 0 rfl) ?_
  refine lv_iload_n hx hb dX7_isRest_12 rfl (lv_at hl 1 rfl) ?_
  refine lv_iload_n hx hb dX7_isRest_13 rfl (lv_at hl 2 rfl) ?_
  refine lv_iload_n hx hb dX7_isRest_14 rfl (lv_at hl 3 rfl) ?_
  refine lv_iload hx hb dX7_isRest_15 (lv_at hl 4 rfl) ?_
  refine cV_i (As := [.int (nI a), .int (nI b), .int (nI i), .int (nI j)]) (rest := [.int (gnS (bwS (nw a) (1 - i)) (bwS (nw b) j) (nw (3 - a - b)))]) hx hb hml hown hw hkn hS hl (c_X7_gain l g _ h0 a b i j d1 ln rd xd xq d2 an nx d3 d4 d5 d6 xm zn d7 d8 sd d9 d0 nw (by omega) (by omega) (by omega) (by omega) (by omega) (hP.sub [0, 1] rfl)) vf_X7_gain mw_728 (va_recv hkn.1 hP (ci := 6) (q0 := 0) rfl rfl) ⟨(Nat.le_of_ble_eq_true rfl), (Nat.le_of_ble_eq_true rfl)⟩ rfl rfl rfl rfl (Nat.le_of_ble_eq_true rfl) dX7_isRest_17 ⟨(Nat.le_of_ble_eq_true rfl), (Nat.le_of_ble_eq_true rfl)⟩ ?_
  refine lv_icmp_gt (tgt := 50) hx hb dX7_isRest_20 (by decide) (fun c_1 => ?_) (fun c_1 => ?_)
  · skip
    refine lv_iconst (v := 0) hx hb dX7_isRest_50 (by decide) ?_
    exact eR_z hx hb hr hlocks (by unfold rsB; simp [b2i, (show gnS (bwS (nw a) i) (bwS (nw b) j) (nw (3 - a - b)) < gnS (bwS (nw a) (1 - i)) (bwS (nw b) j) (nw (3 - a - b)) from c_1)]) dX7_isRest_51
  · skip
    refine lv_aload_n hx hb dX7_isRest_23 rfl (lv_at hl 0 rfl) ?_
    refine lv_iload_n hx hb dX7_isRest_24 rfl (lv_at hl 2 rfl) ?_
    refine lv_iload_n hx hb dX7_isRest_25 rfl (lv_at hl 1 rfl) ?_
    refine lv_iconst (v := 1) hx hb dX7_isRest_26 (by decide) ?_
    refine lv_iload hx hb dX7_isRest_27 (lv_at hl 4 rfl) ?_
    refine lv_isub hx hb dX7_isRest_29 ?_
    refine lv_eqi (pk_sub (a := 1) (b := j) (by omega)) ?_
    refine lv_iload_n hx hb dX7_isRest_30 rfl (lv_at hl 3 rfl) ?_
    refine cV_i (As := [.int (nI b), .int (nI a), .int (nI (1 - j)), .int (nI i)]) (rest := []) hx hb hml hown hw hkn hS hl (c_X7_gain l g _ h0 b a (1 - j) i d1 ln rd xd xq d2 an nx d3 d4 d5 d6 xm zn d7 d8 sd d9 d0 nw (by omega) (by omega) (by omega) (by omega) (by omega) (hP.sub [0, 1] rfl)) vf_X7_gain mw_728 (va_recv hkn.1 hP (ci := 6) (q0 := 0) rfl rfl) ⟨(Nat.le_of_ble_eq_true rfl), (Nat.le_of_ble_eq_true rfl)⟩ rfl rfl rfl rfl (Nat.le_of_ble_eq_true rfl) dX7_isRest_31 ⟨(Nat.le_of_ble_eq_true rfl), (Nat.le_of_ble_eq_true rfl)⟩ ?_
    refine lv_aload_n hx hb dX7_isRest_34 rfl (lv_at hl 0 rfl) ?_
    refine lv_iload_n hx hb dX7_isRest_35 rfl (lv_at hl 2 rfl) ?_
    refine lv_iload_n hx hb dX7_isRest_36 rfl (lv_at hl 1 rfl) ?_
    refine lv_iload hx hb dX7_isRest_37 (lv_at hl 4 rfl) ?_
    refine lv_iload_n hx hb dX7_isRest_39 rfl (lv_at hl 3 rfl) ?_
    refine cV_i (As := [.int (nI b), .int (nI a), .int (nI j), .int (nI i)]) (rest := [.int (gnS (bwS (nw b) (1 - j)) (bwS (nw a) i) (nw (3 - b - a)))]) hx hb hml hown hw hkn hS hl (c_X7_gain l g _ h0 b a j i d1 ln rd xd xq d2 an nx d3 d4 d5 d6 xm zn d7 d8 sd d9 d0 nw (by omega) (by omega) (by omega) (by omega) (by omega) (hP.sub [0, 1] rfl)) vf_X7_gain mw_728 (va_recv hkn.1 hP (ci := 6) (q0 := 0) rfl rfl) ⟨(Nat.le_of_ble_eq_true rfl), (Nat.le_of_ble_eq_true rfl)⟩ rfl rfl rfl rfl (Nat.le_of_ble_eq_true rfl) dX7_isRest_40 ⟨(Nat.le_of_ble_eq_true rfl), (Nat.le_of_ble_eq_true rfl)⟩ ?_
    refine lv_icmp_gt (tgt := 50) hx hb dX7_isRest_43 (by decide) (fun c_2 => ?_) (fun c_2 => ?_)
    · skip
      refine lv_iconst (v := 0) hx hb dX7_isRest_50 (by decide) ?_
      exact eR_z hx hb hr hlocks (by unfold rsB; simp [b2i, (show ¬ gnS (bwS (nw a) i) (bwS (nw b) j) (nw (3 - a - b)) < gnS (bwS (nw a) (1 - i)) (bwS (nw b) j) (nw (3 - a - b)) from c_1), (show gnS (bwS (nw b) j) (bwS (nw a) i) (nw (3 - a - b)) < gnS (bwS (nw b) (1 - j)) (bwS (nw a) i) (nw (3 - a - b)) from by rw [show 3 - a - b = 3 - b - a by omega]; exact c_2)]) dX7_isRest_51
    · skip
      refine lv_iconst (v := 1) hx hb dX7_isRest_46 (by decide) ?_
      refine lv_goto (tgt := 51) hx hb dX7_isRest_47 (by decide) ?_
      exact eR_z hx hb hr hlocks (by unfold rsB; simp [b2i, (show ¬ gnS (bwS (nw a) i) (bwS (nw b) j) (nw (3 - a - b)) < gnS (bwS (nw a) (1 - i)) (bwS (nw b) j) (nw (3 - a - b)) from c_1), (show ¬ gnS (bwS (nw b) j) (bwS (nw a) i) (nw (3 - a - b)) < gnS (bwS (nw b) (1 - j)) (bwS (nw a) i) (nw (3 - a - b)) from by rw [show 3 - a - b = 3 - b - a by omega]; exact c_2)]) dX7_isRest_51
set_option maxHeartbeats 4000000 in
set_option maxRecDepth 100000 in
theorem c_X7_rests (l : Launch) (g : GG) (H : Heap) (h0 : Nat) (x0 : Int32) (y0 : Int32) (z0 : Int32) (d1 : Nat) (ln : Nat) (rd : Int64) (xd : Int32) (xq : Int32) (d2 : Nat) (an : Nat) (nx : Nat) (d3 : Nat) (d4 : Nat) (d5 : Nat) (d6 : Nat) (xm : Int32) (zn : Nat) (d7 : Nat) (d8 : Nat) (sd : Int64) (d9 : Nat) (d0 : Nat) (nw : Nat → Int64)  (hP : va_P g.1 vwCl [(h0, .inr (6, [.ref d1, .int (nI ln), .long rd, .int xd, .int xq, .ref d2, .int (nI an), .int (nI nx), .ref d3, .ref d4, .ref d5, .ref d6, .int xm, .int (nI zn), .ref d7, .ref d8, .long sd, .ref d9, .ref d0])), (d2, .inl (gJ g, 6, .inr (.inl nw)))] H) : Met l yX7_rests (Cond.code yX7_rests cX7_rests 7 (some .int) :: wsL_law) ({ frames := 5, cells := 0, slots := 0, locals := 126 }) (PR g [.ref h0, .int x0, .int y0, .int z0] H) (QRi (mRs nw x0 y0 z0) H) 0 0 NoA := by
  refine Met.R (by decide) (Nat.le_of_ble_eq_true rfl) rfl ?_
  intro p e s m below meth c hx hb hr hml hw hown hlocks hkn hH ls hl
  subst hH
  have hl : lv_has ls 7 [(0, .ref h0), (1, .int x0), (2, .int y0), (3, .int z0)] := hl
  have hS : va_S NoA s.heap s.heap [] := va_S.rf
  refine lv_iload_n hx hb dX7_rests_0 rfl (lv_at hl 1 rfl) ?_
  refine cS_i (As := [.int x0]) (rest := []) hx hb hml hown hw hkn hS hl (c_X7_isPicture l g _ x0 ) sf_X7_isPicture mw_245 ⟨(Nat.le_of_ble_eq_true rfl), (Nat.le_of_ble_eq_true rfl)⟩ rfl rfl rfl rfl (Nat.le_of_ble_eq_true rfl) dX7_rests_1 ⟨(Nat.le_of_ble_eq_true rfl), (Nat.le_of_ble_eq_true rfl)⟩ ?_
  refine lv_ifeqB (b := isPic x0) (tgt := 14) hx hb dX7_rests_4 (by decide) (fun c_1 => ?_) (fun c_1 => ?_)
  · skip
    refine lv_iconst (v := (-1)) hx hb dX7_rests_14 (by decide) ?_
    exact eR_i hx hb hr hlocks (by unfold mRs; rw [if_neg (nt_of c_1)]) dX7_rests_15
  · skip
    refine lv_iload_n hx hb dX7_rests_7 rfl (lv_at hl 2 rfl) ?_
    refine cS_i (As := [.int y0]) (rest := []) hx hb hml hown hw hkn hS hl (c_X7_isPicture l g _ y0 ) sf_X7_isPicture mw_245 ⟨(Nat.le_of_ble_eq_true rfl), (Nat.le_of_ble_eq_true rfl)⟩ rfl rfl rfl rfl (Nat.le_of_ble_eq_true rfl) dX7_rests_8 ⟨(Nat.le_of_ble_eq_true rfl), (Nat.le_of_ble_eq_true rfl)⟩ ?_
    refine lv_ifneB (b := isPic y0) (tgt := 16) hx hb dX7_rests_11 (by decide) (fun c_2 => ?_) (fun c_2 => ?_)
    · skip
      refine lv_iload_n hx hb dX7_rests_16 rfl (lv_at hl 1 rfl) ?_
      refine lv_iload_n hx hb dX7_rests_17 rfl (lv_at hl 2 rfl) ?_
      refine lv_icmp_eq (tgt := 31) hx hb dX7_rests_18 (by decide) (fun c_3 => ?_) (fun c_3 => ?_)
      · skip
        refine lv_bipush (v := (-2)) hx hb dX7_rests_31 (by decide) ?_
        exact eR_i hx hb hr hlocks (by unfold mRs; rw [if_pos c_1, if_pos c_2, if_pos c_3]) dX7_rests_33
      · skip
        refine lv_iload_n hx hb dX7_rests_21 rfl (lv_at hl 3 rfl) ?_
        refine lv_i2l hx hb dX7_rests_22 rfl ?_
        refine lv_lconst (v := 0) hx hb dX7_rests_23 rfl ?_
        refine lv_lconst (v := 1) hx hb dX7_rests_24 rfl ?_
        refine cS_i (As := [.long ((z0).toInt64), .long 0, .long 1]) (rest := []) hx hb hml hown hw hkn hS hl (c_X7_in l g _ ((z0).toInt64) 0 1 ) sf_X7_in mw_101 ⟨(Nat.le_of_ble_eq_true rfl), (Nat.le_of_ble_eq_true rfl)⟩ rfl rfl rfl rfl (Nat.le_of_ble_eq_true rfl) dX7_rests_25 ⟨(Nat.le_of_ble_eq_true rfl), (Nat.le_of_ble_eq_true rfl)⟩ ?_
        refine lv_eqi (show _ = b2i (is01 z0) from congrArg b2i (is01_in z0)) ?_
        refine lv_ifneB (b := is01 z0) (tgt := 34) hx hb dX7_rests_28 (by decide) (fun c_4 => ?_) (fun c_4 => ?_)
        · skip
          obtain ⟨x9, hx9, ex9⟩ := isPic_of c_1
          obtain ⟨y9, hy9, ey9⟩ := isPic_of c_2
          have hne9 : x9 ≠ y9 := fun q => c_3 (by rw [ex9, ey9, q])
          refine lv_iconst (v := 0) hx hb dX7_rests_34 (by decide) ?_
          refine lv_istore (lv' := [(4, .int 0), (0, .ref h0), (1, .int x0), (2, .int y0), (3, .int z0)]) hx hb dX7_rests_35 hl (by decide) rfl (fun ls hl => ?_)
          refine lv_bipush (v := (-9)) hx hb dX7_rests_37 (by decide) ?_
          refine lv_istore (lv' := [(5, .int (-9)), (4, .int 0), (0, .ref h0), (1, .int x0), (2, .int y0), (3, .int z0)]) hx hb dX7_rests_39 hl (by decide) rfl (fun ls hl => ?_)
          refine lv_iconst (v := 0) hx hb dX7_rests_41 (by decide) ?_
          refine lv_istore (lv' := [(6, .int 0), (5, .int (-9)), (4, .int 0), (0, .ref h0), (1, .int x0), (2, .int y0), (3, .int z0)]) hx hb dX7_rests_42 hl (by decide) rfl (fun ls hl => ?_)
          have lp_44 : ∀ (n_44 : Nat) (i : Nat) (k : Nat) (y : Int32), (i ≤ 4) → ((k, y) = rtG (rsB nw x9 y9) i) → 4 < i + n_44 → ∀ (ls : Array Slot), lv_has ls 7 [(6, .int (nI i)), (5, .int y), (4, .int (nI k)), (0, .ref h0), (1, .int x0), (2, .int y0), (3, .int z0)] → W p l e ({ frames := 5, cells := 0, slots := 0, locals := 126 } : Room) s m ([.ref h0, .int x0, .int y0, .int z0] : List Value).toArray below meth c s.heap [] 0 0 (MQ below (QRi (mRs nw x0 y0 z0) s.heap) ([.ref h0, .int x0, .int y0, .int z0] : List Value).toArray s 0 0 NoA) (F0 m 44 ls []) := by
            intro n_44
            induction n_44 with
            | zero => intro i k y h_i h_k hfu_44; exact absurd hfu_44 (by omega)
            | succ n_44 ih_44 =>
              intro i k y h_i h_k hfu_44 ls hl
              have hk4 : k ≤ 4 := by have h9 := rtG_le (rsB nw x9 y9) i; rw [← h_k] at h9; exact Nat.le_trans h9 h_i
              refine lv_iload hx hb dX7_rests_44 (lv_at hl 0 rfl) ?_
              refine lv_iconst (v := 4) hx hb dX7_rests_46 (by decide) ?_
              refine ic_ge (a := i) (d := 4) (tgt := 100) hx hb dX7_rests_47 (by decide) rfl rfl (by omega) (by omega) (fun c_5 => ?_) (fun c_5 => ?_)
              · skip
                refine lv_iload_n hx hb dX7_rests_100 rfl (lv_at hl 6 rfl) ?_
                refine lv_if_ne (tgt := 109) hx hb dX7_rests_101 (by decide) (fun c_6 => ?_) (fun c_6 => ?_)
                · skip
                  refine lv_iload hx hb dX7_rests_109 (lv_at hl 1 rfl) ?_
                  exact eR_i hx hb hr hlocks (by unfold mRs; rw [if_pos c_1, if_pos c_2, if_neg c_3, if_pos c_4, ex9, ey9, nI_clamp (by omega), nI_clamp (by omega), ← show i = 4 by omega, ← h_k]; exact (if_neg c_6).symm) dX7_rests_111
                · skip
                  refine lv_iload hx hb dX7_rests_104 (lv_at hl 2 rfl) ?_
                  refine lv_goto (tgt := 111) hx hb dX7_rests_106 (by decide) ?_
                  exact eR_i hx hb hr hlocks (by unfold mRs; rw [if_pos c_1, if_pos c_2, if_neg c_3, if_pos c_4, ex9, ey9, nI_clamp (by omega), nI_clamp (by omega), ← show i = 4 by omega, ← h_k]; exact (if_pos c_6).symm) dX7_rests_111
              · skip
                refine lv_aload_n hx hb dX7_rests_50 rfl (lv_at hl 3 rfl) ?_
                refine lv_iload_n hx hb dX7_rests_51 rfl (lv_at hl 4 rfl) ?_
                refine lv_eqi (show _ = (nI x9) from ex9) ?_
                refine lv_iload_n hx hb dX7_rests_52 rfl (lv_at hl 5 rfl) ?_
                refine lv_eqi (show _ = (nI y9) from ey9) ?_
                refine lv_iload hx hb dX7_rests_53 (lv_at hl 0 rfl) ?_
                refine lv_iconst (v := 2) hx hb dX7_rests_55 (by decide) ?_
                refine lv_idiv hx hb dX7_rests_56 (by decide) ?_
                refine lv_eqi (pk_div (a := i) (d := 2) (by omega) (by omega) (by omega)) ?_
                refine lv_iload hx hb dX7_rests_57 (lv_at hl 0 rfl) ?_
                refine lv_iconst (v := 2) hx hb dX7_rests_59 (by decide) ?_
                refine lv_irem hx hb dX7_rests_60 (by decide) ?_
                refine lv_eqi (pk_rem (a := i) (d := 2) (by omega) (by omega) (by omega)) ?_
                refine cV_i (As := [.int (nI x9), .int (nI y9), .int (nI (i / 2)), .int (nI (i % 2))]) (rest := []) hx hb hml hown hw hkn hS hl (c_X7_isRest l g _ h0 x9 y9 (i / 2) (i % 2) d1 ln rd xd xq d2 an nx d3 d4 d5 d6 xm zn d7 d8 sd d9 d0 nw (by omega) (by omega) (hne9) (by omega) (by omega) (hP.sub [0, 1] rfl)) vf_X7_isRest mw_724 (va_recv hkn.1 hP (ci := 6) (q0 := 0) rfl rfl) ⟨(Nat.le_of_ble_eq_true rfl), (Nat.le_of_ble_eq_true rfl)⟩ rfl rfl rfl rfl (Nat.le_of_ble_eq_true rfl) dX7_rests_61 ⟨(Nat.le_of_ble_eq_true rfl), (Nat.le_of_ble_eq_true rfl)⟩ ?_
                refine lv_ifeqB (b := rsB nw x9 y9 (i / 2) (i % 2)) (tgt := 94) hx hb dX7_rests_64 (by decide) (fun c_7 => ?_) (fun c_7 => ?_)
                · skip
                  refine lv_iinc (v := (nI (i + 1))) (lv' := [(6, .int (nI (i + 1))), (5, .int y), (4, .int (nI k)), (0, .ref h0), (1, .int x0), (2, .int y0), (3, .int z0)]) hx hb dX7_rests_94 hl (k := 0) rfl (nI_1 i) (by decide) rfl (fun ls hl => ?_)
                  refine lv_goto (tgt := 44) hx hb dX7_rests_97 (by decide) ?_
                  exact ih_44 (i + 1) k y (by omega) (by rw [rtG, ← h_k]; simp [c_4, c_5, c_7]) (by omega) ls (lv_sub hl [0, 1, 2, 3, 4, 5, 6] rfl)
                · skip
                  refine lv_iload hx hb dX7_rests_67 (lv_at hl 2 rfl) ?_
                  have mg_89 : W p l e ({ frames := 5, cells := 0, slots := 0, locals := 126 } : Room) s m ([.ref h0, .int x0, .int y0, .int z0] : List Value).toArray below meth c s.heap [] 0 0 (MQ below (QRi (mRs nw x0 y0 z0) s.heap) ([.ref h0, .int x0, .int y0, .int z0] : List Value).toArray s 0 0 NoA) (F0 m 89 ls (.int (if k = 0 then (nI (10 * (i / 2) + (i % 2))) else y) :: [])) := by
                    refine lv_istore (lv' := [(5, .int (if k = 0 then (nI (10 * (i / 2) + (i % 2))) else y)), (6, .int (nI i)), (4, .int (nI k)), (0, .ref h0), (1, .int x0), (2, .int y0), (3, .int z0)]) hx hb dX7_rests_89 hl (by decide) rfl (fun ls hl => ?_)
                    refine lv_iinc (v := (nI (k + 1))) (lv' := [(4, .int (nI (k + 1))), (5, .int (if k = 0 then (nI (10 * (i / 2) + (i % 2))) else y)), (6, .int (nI i)), (0, .ref h0), (1, .int x0), (2, .int y0), (3, .int z0)]) hx hb dX7_rests_91 hl (k := 2) rfl (nI_1 k) (by decide) rfl (fun ls hl => ?_)
                    refine lv_iinc (v := (nI (i + 1))) (lv' := [(6, .int (nI (i + 1))), (4, .int (nI (k + 1))), (5, .int (if k = 0 then (nI (10 * (i / 2) + (i % 2))) else y)), (0, .ref h0), (1, .int x0), (2, .int y0), (3, .int z0)]) hx hb dX7_rests_94 hl (k := 2) rfl (nI_1 i) (by decide) rfl (fun ls hl => ?_)
                    refine lv_goto (tgt := 44) hx hb dX7_rests_97 (by decide) ?_
                    exact ih_44 (i + 1) (k + 1) (if k = 0 then (nI (10 * (i / 2) + (i % 2))) else y) (by omega) (by rw [rtG, ← h_k]; simp [c_4, c_5, c_7]) (by omega) ls (lv_sub hl [0, 2, 1, 3, 4, 5, 6] rfl)
                  refine iz_ne (a := k) (tgt := 87) hx hb dX7_rests_69 (by decide) rfl (by omega) (fun c_8 => ?_) (fun c_8 => ?_)
                  · skip
                    refine lv_iload hx hb dX7_rests_87 (lv_at hl 1 rfl) ?_
                    exact lv_eqi (by rw [if_neg (Nat.pos_iff_ne_zero.mp c_8)]) mg_89
                  · skip
                    refine lv_bipush (v := 10) hx hb dX7_rests_72 (by decide) ?_
                    refine lv_iload hx hb dX7_rests_74 (lv_at hl 0 rfl) ?_
                    refine lv_iconst (v := 2) hx hb dX7_rests_76 (by decide) ?_
                    refine lv_idiv hx hb dX7_rests_77 (by decide) ?_
                    refine lv_eqi (pk_div (a := i) (d := 2) (by omega) (by omega) (by omega)) ?_
                    refine lv_imul hx hb dX7_rests_78 ?_
                    refine lv_eqi (pk_mul 10 (i / 2)) ?_
                    refine lv_iload hx hb dX7_rests_79 (lv_at hl 0 rfl) ?_
                    refine lv_iconst (v := 2) hx hb dX7_rests_81 (by decide) ?_
                    refine lv_irem hx hb dX7_rests_82 (by decide) ?_
                    refine lv_eqi (pk_rem (a := i) (d := 2) (by omega) (by omega) (by omega)) ?_
                    refine lv_iadd hx hb dX7_rests_83 ?_
                    refine lv_eqi (nI_add (10 * (i / 2)) (i % 2)) ?_
                    refine lv_goto (tgt := 89) hx hb dX7_rests_84 (by decide) ?_
                    exact lv_eqi (by rw [if_pos c_8]) mg_89
          exact lp_44 5 0 0 (-9) (by omega) (rfl) (by omega) ls (lv_sub hl [0, 1, 2, 3, 4, 5, 6] rfl)
        · skip
          refine lv_bipush (v := (-2)) hx hb dX7_rests_31 (by decide) ?_
          exact eR_i hx hb hr hlocks (by unfold mRs; rw [if_pos c_1, if_pos c_2, if_neg c_3, if_neg (nt_of c_4)]) dX7_rests_33
    · skip
      refine lv_iconst (v := (-1)) hx hb dX7_rests_14 (by decide) ?_
      exact eR_i hx hb hr hlocks (by unfold mRs; rw [if_pos c_1, if_neg (nt_of c_2)]) dX7_rests_15
set_option maxHeartbeats 4000000 in
set_option maxRecDepth 100000 in
theorem c_X7_fades (l : Launch) (g : GG) (H : Heap) (h0 : Nat) (x0 : Int32) (t0 : Int32) (z0 : Int32) (up : Bool) (d1 : Nat) (ln : Nat) (rd : Int64) (xd : Int32) (xq : Int32) (d2 : Nat) (an : Nat) (nx : Nat) (d3 : Nat) (d4 : Nat) (d5 : Nat) (d6 : Nat) (xm : Int32) (zn : Nat) (d7 : Nat) (d8 : Nat) (sd : Int64) (d9 : Nat) (d0 : Nat) (nw : Nat → Int64)  (hP : va_P g.1 vwCl [(h0, .inr (6, [.ref d1, .int (nI ln), .long rd, .int xd, .int xq, .ref d2, .int (nI an), .int (nI nx), .ref d3, .ref d4, .ref d5, .ref d6, .int xm, .int (nI zn), .ref d7, .ref d8, .long sd, .ref d9, .ref d0])), (d2, .inl (gJ g, 6, .inr (.inl nw)))] H) : Met l yX7_fades (Cond.code yX7_fades cX7_fades 12 (some .int) :: wsL_law) ({ frames := 4, cells := 0, slots := 0, locals := 93 }) (PR g [.ref h0, .int x0, .int t0, .int z0, .int (b2i up)] H) (QRi (mFd nw x0 t0 z0 up) H) 0 0 NoA := by
  refine Met.R (by decide) (Nat.le_of_ble_eq_true rfl) rfl ?_
  intro p e s m below meth c hx hb hr hml hw hown hlocks hkn hH ls hl
  subst hH
  have hl : lv_has ls 12 [(0, .ref h0), (1, .int x0), (2, .int t0), (3, .int z0), (4, .int (b2i up))] := hl
  have hS : va_S NoA s.heap s.heap [] := va_S.rf
  refine lv_iload_n hx hb dX7_fades_0 rfl (lv_at hl 1 rfl) ?_
  refine cS_i (As := [.int x0]) (rest := []) hx hb hml hown hw hkn hS hl (c_X7_isPicture l g _ x0 ) sf_X7_isPicture mw_245 ⟨(Nat.le_of_ble_eq_true rfl), (Nat.le_of_ble_eq_true rfl)⟩ rfl rfl rfl rfl (Nat.le_of_ble_eq_true rfl) dX7_fades_1 ⟨(Nat.le_of_ble_eq_true rfl), (Nat.le_of_ble_eq_true rfl)⟩ ?_
  refine lv_ifneB (b := isPic x0) (tgt := 9) hx hb dX7_fades_4 (by decide) (fun c_1 => ?_) (fun c_1 => ?_)
  · skip
    refine lv_iload_n hx hb dX7_fades_9 rfl (lv_at hl 2 rfl) ?_
    refine lv_i2l hx hb dX7_fades_10 rfl ?_
    refine lv_lconst (v := 0) hx hb dX7_fades_11 rfl ?_
    refine lv_ldc2 hx hb hown (hw _ mw_747) dX7_fades_12 ?_
    refine cS_i (As := [.long ((t0).toInt64), .long 0, .long 64]) (rest := []) hx hb hml hown hw hkn hS hl (c_X7_in l g _ ((t0).toInt64) 0 64 ) sf_X7_in mw_101 ⟨(Nat.le_of_ble_eq_true rfl), (Nat.le_of_ble_eq_true rfl)⟩ rfl rfl rfl rfl (Nat.le_of_ble_eq_true rfl) dX7_fades_15 ⟨(Nat.le_of_ble_eq_true rfl), (Nat.le_of_ble_eq_true rfl)⟩ ?_
    refine lv_ifeqB (b := inL ((t0).toInt64) 0 64) (tgt := 33) hx hb dX7_fades_18 (by decide) (fun c_2 => ?_) (fun c_2 => ?_)
    · skip
      refine lv_bipush (v := (-2)) hx hb dX7_fades_33 (by decide) ?_
      exact eR_i hx hb hr hlocks (by unfold mFd; rw [if_pos c_1, if_neg (nt_of c_2)]) dX7_fades_35
    · skip
      refine lv_iload_n hx hb dX7_fades_21 rfl (lv_at hl 3 rfl) ?_
      refine lv_i2l hx hb dX7_fades_22 rfl ?_
      refine lv_lconst (v := 0) hx hb dX7_fades_23 rfl ?_
      refine lv_ldc2 hx hb hown (hw _ mw_748) dX7_fades_24 ?_
      refine cS_i (As := [.long ((z0).toInt64), .long 0, .long 10]) (rest := []) hx hb hml hown hw hkn hS hl (c_X7_in l g _ ((z0).toInt64) 0 10 ) sf_X7_in mw_101 ⟨(Nat.le_of_ble_eq_true rfl), (Nat.le_of_ble_eq_true rfl)⟩ rfl rfl rfl rfl (Nat.le_of_ble_eq_true rfl) dX7_fades_27 ⟨(Nat.le_of_ble_eq_true rfl), (Nat.le_of_ble_eq_true rfl)⟩ ?_
      refine lv_ifneB (b := inL ((z0).toInt64) 0 10) (tgt := 36) hx hb dX7_fades_30 (by decide) (fun c_3 => ?_) (fun c_3 => ?_)
      · skip
        obtain ⟨t9, ht9, et9⟩ := in0_of (N := 64) (z := 64) rfl (by decide) c_2
        obtain ⟨z9, hz9, ez9⟩ := in0_of (N := 10) (z := 10) rfl (by decide) c_3
        have et8 : t0.toNatClampNeg = t9 := by rw [et9, nI_clamp (by omega)]
        have ez8 : z0.toNatClampNeg = z9 := by rw [ez9, nI_clamp (by omega)]
        refine lv_iconst (v := 0) hx hb dX7_fades_36 (by decide) ?_
        refine lv_istore (lv' := [(5, .int 0), (0, .ref h0), (1, .int x0), (2, .int t0), (3, .int z0), (4, .int (b2i up))]) hx hb dX7_fades_37 hl (by decide) rfl (fun ls hl => ?_)
        refine lv_iconst (v := 0) hx hb dX7_fades_39 (by decide) ?_
        refine lv_istore (lv' := [(6, .int 0), (5, .int 0), (0, .ref h0), (1, .int x0), (2, .int t0), (3, .int z0), (4, .int (b2i up))]) hx hb dX7_fades_40 hl (by decide) rfl (fun ls hl => ?_)
        have lp_42 : ∀ (n_42 : Nat) (i : Nat) (a : Nat), (i ≤ 16) → (a = fb_sm (fmF (picS nw x0) t9 z9) i) → 16 < i + n_42 → ∀ (ls : Array Slot), lv_has ls 12 [(6, .int (nI i)), (5, .int (nI a)), (0, .ref h0), (1, .int x0), (2, .int t0), (3, .int z0), (4, .int (b2i up))] → W p l e ({ frames := 4, cells := 0, slots := 0, locals := 93 } : Room) s m ([.ref h0, .int x0, .int t0, .int z0, .int (b2i up)] : List Value).toArray below meth c s.heap [] 0 0 (MQ below (QRi (mFd nw x0 t0 z0 up) s.heap) ([.ref h0, .int x0, .int t0, .int z0, .int (b2i up)] : List Value).toArray s 0 0 NoA) (F0 m 42 ls []) := by
          intro n_42
          induction n_42 with
          | zero => intro i a h_i h_a hfu_42; exact absurd hfu_42 (by omega)
          | succ n_42 ih_42 =>
            intro i a h_i h_a hfu_42 ls hl
            have hab := fm_le (v := picS nw x0) (t := t9) hz9 i h_i
            refine lv_iload hx hb dX7_fades_42 (lv_at hl 0 rfl) ?_
            refine lv_bipush (v := 16) hx hb dX7_fades_44 (by decide) ?_
            refine ic_ge (a := i) (d := 16) (tgt := 163) hx hb dX7_fades_46 (by decide) rfl rfl (by omega) (by omega) (fun c_4 => ?_) (fun c_4 => ?_)
            · skip
              refine lv_iload hx hb dX7_fades_163 (lv_at hl 1 rfl) ?_
              refine lv_sipush (v := 10000) hx hb dX7_fades_165 (by decide) ?_
              refine cS_i (As := [.int (nI a), .int 10000]) (rest := []) hx hb hml hown hw hkn hS hl (c_X7_common l g _ a 10000 (by omega) (by omega)) sf_X7_common mw_705 ⟨(Nat.le_of_ble_eq_true rfl), (Nat.le_of_ble_eq_true rfl)⟩ rfl rfl rfl rfl (Nat.le_of_ble_eq_true rfl) dX7_fades_168 ⟨(Nat.le_of_ble_eq_true rfl), (Nat.le_of_ble_eq_true rfl)⟩ ?_
              refine lv_istore (lv' := [(6, .int (nI (Nat.gcd a 10000))), (5, .int (nI a)), (0, .ref h0), (1, .int x0), (2, .int t0), (3, .int z0), (4, .int (b2i up))]) hx hb dX7_fades_171 hl (by decide) rfl (fun ls hl => ?_)
              have hg1 : 0 < Nat.gcd a 10000 := Nat.gcd_pos_of_pos_right a (by decide)
              have hg2 : Nat.gcd a 10000 ≤ 10000 := Nat.le_of_dvd (by decide) (Nat.gcd_dvd_right a 10000)
              refine lv_iload hx hb dX7_fades_173 (lv_at hl 6 rfl) ?_
              refine lv_ifeqB (b := up) (tgt := 186) hx hb dX7_fades_175 (by decide) (fun c_5 => ?_) (fun c_5 => ?_)
              · skip
                refine lv_sipush (v := 10000) hx hb dX7_fades_186 (by decide) ?_
                refine lv_iload hx hb dX7_fades_189 (lv_at hl 0 rfl) ?_
                refine lv_idiv hx hb dX7_fades_191 (nI_ne0 (by omega) (by omega)) ?_
                refine lv_eqi (pk_div (a := 10000) (d := Nat.gcd a 10000) (by omega) (by omega) (by omega)) ?_
                exact eR_i hx hb hr hlocks (by unfold mFd tdN fmN; rw [if_pos c_1, if_pos c_2, if_pos c_3, et8, ez8, ← show i = 16 by omega, ← h_a, if_neg (nt_of c_5)]) dX7_fades_192
              · skip
                refine lv_iload hx hb dX7_fades_178 (lv_at hl 1 rfl) ?_
                refine lv_iload hx hb dX7_fades_180 (lv_at hl 0 rfl) ?_
                refine lv_idiv hx hb dX7_fades_182 (nI_ne0 (by omega) (by omega)) ?_
                refine lv_eqi (pk_div (a := a) (d := Nat.gcd a 10000) (by omega) (by omega) (by omega)) ?_
                refine lv_goto (tgt := 192) hx hb dX7_fades_183 (by decide) ?_
                exact eR_i hx hb hr hlocks (by unfold mFd tdN fmN; rw [if_pos c_1, if_pos c_2, if_pos c_3, et8, ez8, ← show i = 16 by omega, ← h_a, if_pos c_5]) dX7_fades_192
            · skip
              refine lv_iconst (v := 1) hx hb dX7_fades_49 (by decide) ?_
              refine lv_istore (lv' := [(7, .int 1), (6, .int (nI i)), (5, .int (nI a)), (0, .ref h0), (1, .int x0), (2, .int t0), (3, .int z0), (4, .int (b2i up))]) hx hb dX7_fades_50 hl (by decide) rfl (fun ls hl => ?_)
              refine lv_aload_n hx hb dX7_fades_52 rfl (lv_at hl 3 rfl) ?_
              refine va_get (D := g.1) (ci := 6) (v := .ref d2) (C := RX7) (T := TX7) (N := 19) hx hb hw inlX7 hown hkn.1 hP 0 rfl rfl 5 (by decide) (hw _ mw_74) (fun _ h9 => h9) rfl dX7_fades_53 ?_
              refine lv_iload_n hx hb dX7_fades_56 rfl (lv_at hl 4 rfl) ?_
              refine va_lald hx hb hkn.1 hP 1 1 rfl rfl (isPic_vp6 c_1) dX7_fades_57 ?_
              refine lv_eql (show _ = (picS nw x0) from (pic_i c_1).symm) ?_
              refine lv_lstore (lv' := [(8, .long (picS nw x0)), (7, .int 1), (6, .int (nI i)), (5, .int (nI a)), (0, .ref h0), (1, .int x0), (2, .int t0), (3, .int z0), (4, .int (b2i up))]) hx hb dX7_fades_58 hl (by decide) rfl (fun ls hl => ?_)
              refine lv_iconst (v := 0) hx hb dX7_fades_60 (by decide) ?_
              refine lv_istore (lv' := [(10, .int 0), (8, .long (picS nw x0)), (7, .int 1), (6, .int (nI i)), (5, .int (nI a)), (0, .ref h0), (1, .int x0), (2, .int t0), (3, .int z0), (4, .int (b2i up))]) hx hb dX7_fades_61 hl (by decide) rfl (fun ls hl => ?_)
              have lp_63 : ∀ (n_63 : Nat) (j : Nat) (w9 : Nat) (b9 : Int64), (j ≤ 4) → (w9 = it (wtF i z9) j 1) → (b9 = it (lfF i) j (picS nw x0)) → 4 < j + n_63 → ∀ (ls : Array Slot), lv_has ls 12 [(10, .int (nI j)), (8, .long b9), (7, .int (nI w9)), (6, .int (nI i)), (5, .int (nI a)), (0, .ref h0), (1, .int x0), (2, .int t0), (3, .int z0), (4, .int (b2i up))] → W p l e ({ frames := 4, cells := 0, slots := 0, locals := 93 } : Room) s m ([.ref h0, .int x0, .int t0, .int z0, .int (b2i up)] : List Value).toArray below meth c s.heap [] 0 0 (MQ below (QRi (mFd nw x0 t0 z0 up) s.heap) ([.ref h0, .int x0, .int t0, .int z0, .int (b2i up)] : List Value).toArray s 0 0 NoA) (F0 m 63 ls []) := by
                intro n_63
                induction n_63 with
                | zero => intro j w9 b9 h_j h_w h_b hfu_63; exact absurd hfu_63 (by omega)
                | succ n_63 ih_63 =>
                  intro j w9 b9 h_j h_w h_b hfu_63 ls hl
                  have hwl := wt_le (k := i) hz9 j
                  refine lv_iload hx hb dX7_fades_63 (lv_at hl 0 rfl) ?_
                  refine lv_iconst (v := 4) hx hb dX7_fades_65 (by decide) ?_
                  refine ic_ge (a := j) (d := 4) (tgt := 137) hx hb dX7_fades_66 (by decide) rfl rfl (by omega) (by omega) (fun c_6 => ?_) (fun c_6 => ?_)
                  · skip
                    refine lv_iload hx hb dX7_fades_137 (lv_at hl 4 rfl) ?_
                    refine lv_lload hx hb dX7_fades_139 (lv_at hl 1 rfl) ?_
                    refine cS_i (As := [.long b9]) (rest := [.int (nI a)]) hx hb hml hown hw hkn hS hl (c_X7_ones l g _ b9 ) sf_X7_ones mw_254 ⟨(Nat.le_of_ble_eq_true rfl), (Nat.le_of_ble_eq_true rfl)⟩ rfl rfl rfl rfl (Nat.le_of_ble_eq_true rfl) dX7_fades_141 ⟨(Nat.le_of_ble_eq_true rfl), (Nat.le_of_ble_eq_true rfl)⟩ ?_
                    refine lv_iload_n hx hb dX7_fades_144 rfl (lv_at hl 7 rfl) ?_
                    refine lv_eqi (show _ = (nI t9) from et9) ?_
                    have hpl := pcn_le b9
                    have mg_154 : W p l e ({ frames := 4, cells := 0, slots := 0, locals := 93 } : Room) s m ([.ref h0, .int x0, .int t0, .int z0, .int (b2i up)] : List Value).toArray below meth c s.heap [] 0 0 (MQ below (QRi (mFd nw x0 t0 z0 up) s.heap) ([.ref h0, .int x0, .int t0, .int z0, .int (b2i up)] : List Value).toArray s 0 0 NoA) (F0 m 154 ls (.int (if pcn b9 < t9 then 0 else (nI w9)) :: [.int (nI a)])) := by
                      refine lv_eqi (show _ = (nI (if pcn b9 < t9 then 0 else w9)) from ifI rfl rfl) ?_
                      refine lv_iadd hx hb dX7_fades_154 ?_
                      refine lv_eqi (nI_add a (if pcn b9 < t9 then 0 else w9)) ?_
                      refine lv_istore (lv' := [(5, .int (nI (a + ((if pcn b9 < t9 then 0 else w9))))), (10, .int (nI j)), (8, .long b9), (7, .int (nI w9)), (6, .int (nI i)), (0, .ref h0), (1, .int x0), (2, .int t0), (3, .int z0), (4, .int (b2i up))]) hx hb dX7_fades_155 hl (by decide) rfl (fun ls hl => ?_)
                      refine lv_iinc (v := (nI (i + 1))) (lv' := [(6, .int (nI (i + 1))), (5, .int (nI (a + ((if pcn b9 < t9 then 0 else w9))))), (10, .int (nI j)), (8, .long b9), (7, .int (nI w9)), (0, .ref h0), (1, .int x0), (2, .int t0), (3, .int z0), (4, .int (b2i up))]) hx hb dX7_fades_157 hl (k := 4) rfl (nI_1 i) (by decide) rfl (fun ls hl => ?_)
                      refine lv_goto (tgt := 42) hx hb dX7_fades_160 (by decide) ?_
                      exact ih_42 (i + 1) (a + ((if pcn b9 < t9 then 0 else w9))) (by omega) (by rw [h_a, fb_sm_succ, h_w, h_b, show j = 4 by omega]; rfl) (by omega) ls (lv_sub hl [0, 1, 5, 6, 7, 8, 9] rfl)
                    refine ic_lt (a := pcn b9) (d := t9) (tgt := 153) hx hb dX7_fades_145 (by decide) rfl rfl (by omega) (by omega) (fun c_7 => ?_) (fun c_7 => ?_)
                    · skip
                      refine lv_iconst (v := 0) hx hb dX7_fades_153 (by decide) ?_
                      exact lv_eqi (by rw [if_pos c_7]) mg_154
                    · skip
                      refine lv_iload hx hb dX7_fades_148 (lv_at hl 2 rfl) ?_
                      refine lv_goto (tgt := 154) hx hb dX7_fades_150 (by decide) ?_
                      exact lv_eqi (by rw [if_neg (Nat.not_lt.mpr c_7)]) mg_154
                  · skip
                    refine lv_iload hx hb dX7_fades_69 (lv_at hl 3 rfl) ?_
                    refine lv_iload hx hb dX7_fades_71 (lv_at hl 0 rfl) ?_
                    refine lv_ishr hx hb dX7_fades_73 ?_
                    refine lv_iconst (v := 1) hx hb dX7_fades_74 (by decide) ?_
                    refine lv_iand hx hb dX7_fades_75 ?_
                    refine lv_eqi (show _ = (nI (sb i j)) from sb_eq (by omega) (by omega)) ?_
                    refine lv_iconst (v := 1) hx hb dX7_fades_76 (by decide) ?_
                    have hsb := sb_lt i j
                    have mg_85 : W p l e ({ frames := 4, cells := 0, slots := 0, locals := 93 } : Room) s m ([.ref h0, .int x0, .int t0, .int z0, .int (b2i up)] : List Value).toArray below meth c s.heap [] 0 0 (MQ below (QRi (mFd nw x0 t0 z0 up) s.heap) ([.ref h0, .int x0, .int t0, .int z0, .int (b2i up)] : List Value).toArray s 0 0 NoA) (F0 m 85 ls (.int (if sb i j = 1 then 1 else 0) :: [])) := by
                      refine lv_eqi (show _ = (b2i (decide (sb i j = 1))) from ifB) ?_
                      refine lv_istore (lv' := [(11, .int (b2i (decide (sb i j = 1)))), (10, .int (nI j)), (8, .long b9), (7, .int (nI w9)), (6, .int (nI i)), (5, .int (nI a)), (0, .ref h0), (1, .int x0), (2, .int t0), (3, .int z0), (4, .int (b2i up))]) hx hb dX7_fades_85 hl (by decide) rfl (fun ls hl => ?_)
                      refine lv_iload hx hb dX7_fades_87 (lv_at hl 3 rfl) ?_
                      refine lv_iload hx hb dX7_fades_89 (lv_at hl 0 rfl) ?_
                      have mg_102 : W p l e ({ frames := 4, cells := 0, slots := 0, locals := 93 } : Room) s m ([.ref h0, .int x0, .int t0, .int z0, .int (b2i up)] : List Value).toArray below meth c s.heap [] 0 0 (MQ below (QRi (mFd nw x0 t0 z0 up) s.heap) ([.ref h0, .int x0, .int t0, .int z0, .int (b2i up)] : List Value).toArray s 0 0 NoA) (F0 m 102 ls (.int (if (decide (sb i j = 1)) = true then (nI z9) else (nI (10 - z9))) :: [.int (nI w9)])) := by
                        refine lv_eqi (show _ = (nI (if (decide (sb i j = 1)) = true then z9 else 10 - z9)) from ifI rfl rfl) ?_
                        refine lv_imul hx hb dX7_fades_102 ?_
                        refine lv_eqi (pk_mul w9 (if (decide (sb i j = 1)) = true then z9 else 10 - z9)) ?_
                        refine lv_istore (lv' := [(7, .int (nI (w9 * ((if (decide (sb i j = 1)) = true then z9 else 10 - z9))))), (11, .int (b2i (decide (sb i j = 1)))), (10, .int (nI j)), (8, .long b9), (6, .int (nI i)), (5, .int (nI a)), (0, .ref h0), (1, .int x0), (2, .int t0), (3, .int z0), (4, .int (b2i up))]) hx hb dX7_fades_103 hl (by decide) rfl (fun ls hl => ?_)
                        refine lv_lload hx hb dX7_fades_105 (lv_at hl 3 rfl) ?_
                        refine lv_iload hx hb dX7_fades_107 (lv_at hl 1 rfl) ?_
                        have mg_128 : W p l e ({ frames := 4, cells := 0, slots := 0, locals := 93 } : Room) s m ([.ref h0, .int x0, .int t0, .int z0, .int (b2i up)] : List Value).toArray below meth c s.heap [] 0 0 (MQ below (QRi (mFd nw x0 t0 z0 up) s.heap) ([.ref h0, .int x0, .int t0, .int z0, .int (b2i up)] : List Value).toArray s 0 0 NoA) (F0 m 128 ls (.long (if (decide (sb i j = 1)) = true then ((mkM 1 j) ^^^ (-1)) else (-1)) :: [.long b9])) := by
                          refine lv_land hx hb dX7_fades_128 ?_
                          refine lv_lstore (lv' := [(8, .long (b9 &&& (if (decide (sb i j = 1)) = true then ((mkM 1 j) ^^^ (-1)) else (-1)))), (7, .int (nI (w9 * ((if (decide (sb i j = 1)) = true then z9 else 10 - z9))))), (11, .int (b2i (decide (sb i j = 1)))), (10, .int (nI j)), (6, .int (nI i)), (5, .int (nI a)), (0, .ref h0), (1, .int x0), (2, .int t0), (3, .int z0), (4, .int (b2i up))]) hx hb dX7_fades_129 hl (by decide) rfl (fun ls hl => ?_)
                          refine lv_iinc (v := (nI (j + 1))) (lv' := [(10, .int (nI (j + 1))), (8, .long (b9 &&& (if (decide (sb i j = 1)) = true then ((mkM 1 j) ^^^ (-1)) else (-1)))), (7, .int (nI (w9 * ((if (decide (sb i j = 1)) = true then z9 else 10 - z9))))), (11, .int (b2i (decide (sb i j = 1)))), (6, .int (nI i)), (5, .int (nI a)), (0, .ref h0), (1, .int x0), (2, .int t0), (3, .int z0), (4, .int (b2i up))]) hx hb dX7_fades_131 hl (k := 3) rfl (nI_1 j) (by decide) rfl (fun ls hl => ?_)
                          refine lv_goto (tgt := 63) hx hb dX7_fades_134 (by decide) ?_
                          exact ih_63 (j + 1) (w9 * ((if (decide (sb i j = 1)) = true then z9 else 10 - z9))) (b9 &&& (if (decide (sb i j = 1)) = true then ((mkM 1 j) ^^^ (-1)) else (-1))) (by omega) (by rw [h_w, it_s]; rfl) (by rw [h_b, it_s]; rfl) (by omega) ls (lv_sub hl [0, 1, 2, 4, 5, 6, 7, 8, 9, 10] rfl)
                        refine lv_ifeqB (b := (decide (sb i j = 1))) (tgt := 125) hx hb dX7_fades_109 (by decide) (fun c_8 => ?_) (fun c_8 => ?_)
                        · skip
                          refine lv_ldc2 hx hb hown (hw _ mw_280) dX7_fades_125 ?_
                          exact lv_eql (by rw [if_neg (nt_of c_8)]) mg_128
                        · skip
                          refine lv_iconst (v := 1) hx hb dX7_fades_112 (by decide) ?_
                          refine lv_iload hx hb dX7_fades_113 (lv_at hl 2 rfl) ?_
                          refine cS_l (As := [.int 1, .int (nI j)]) (rest := [.long b9]) hx hb hml hown hw hkn hS hl (c_X7_maskOf l g _ 1 j (by omega) (by omega)) sf_X7_maskOf mw_465 ⟨(Nat.le_of_ble_eq_true rfl), (Nat.le_of_ble_eq_true rfl)⟩ rfl rfl rfl rfl (Nat.le_of_ble_eq_true rfl) dX7_fades_115 ⟨(Nat.le_of_ble_eq_true rfl), (Nat.le_of_ble_eq_true rfl)⟩ ?_
                          refine lv_ldc2 hx hb hown (hw _ mw_280) dX7_fades_118 ?_
                          refine lv_lxor hx hb dX7_fades_121 ?_
                          refine lv_goto (tgt := 128) hx hb dX7_fades_122 (by decide) ?_
                          exact lv_eql (by rw [if_pos c_8]) mg_128
                      refine lv_ifeqB (b := (decide (sb i j = 1))) (tgt := 98) hx hb dX7_fades_91 (by decide) (fun c_9 => ?_) (fun c_9 => ?_)
                      · skip
                        refine lv_bipush (v := 10) hx hb dX7_fades_98 (by decide) ?_
                        refine lv_iload_n hx hb dX7_fades_100 rfl (lv_at hl 9 rfl) ?_
                        refine lv_eqi (show _ = (nI z9) from ez9) ?_
                        refine lv_isub hx hb dX7_fades_101 ?_
                        refine lv_eqi (pk_sub (a := 10) (b := z9) (by omega)) ?_
                        exact lv_eqi (by rw [if_neg (nt_of c_9)]) mg_102
                      · skip
                        refine lv_iload_n hx hb dX7_fades_94 rfl (lv_at hl 9 rfl) ?_
                        refine lv_eqi (show _ = (nI z9) from ez9) ?_
                        refine lv_goto (tgt := 102) hx hb dX7_fades_95 (by decide) ?_
                        exact lv_eqi (by rw [if_pos c_9]) mg_102
                    refine ic_ne (a := sb i j) (d := 1) (tgt := 84) hx hb dX7_fades_77 (by decide) rfl rfl (by omega) (by omega) (fun c_10 => ?_) (fun c_10 => ?_)
                    · skip
                      refine lv_iconst (v := 0) hx hb dX7_fades_84 (by decide) ?_
                      exact lv_eqi (by rw [if_neg c_10]) mg_85
                    · skip
                      refine lv_iconst (v := 1) hx hb dX7_fades_80 (by decide) ?_
                      refine lv_goto (tgt := 85) hx hb dX7_fades_81 (by decide) ?_
                      exact lv_eqi (by rw [if_pos c_10]) mg_85
              exact lp_63 5 0 1 (picS nw x0) (by omega) (rfl) (rfl) (by omega) ls (lv_sub hl [0, 1, 2, 3, 4, 5, 6, 7, 8, 9] rfl)
        exact lp_42 17 0 0 (by omega) (rfl) (by omega) ls (lv_sub hl [0, 1, 2, 3, 4, 5, 6] rfl)
      · skip
        refine lv_bipush (v := (-2)) hx hb dX7_fades_33 (by decide) ?_
        exact eR_i hx hb hr hlocks (by unfold mFd; rw [if_pos c_1, if_pos c_2, if_neg (nt_of c_3)]) dX7_fades_35
  · skip
    refine lv_iconst (v := (-1)) hx hb dX7_fades_7 (by decide) ?_
    exact eR_i hx hb hr hlocks (by unfold mFd; rw [if_neg (nt_of c_1)]) dX7_fades_8
set_option maxHeartbeats 4000000 in
set_option maxRecDepth 100000 in
theorem c_X7_seed (l : Launch) (g : GG) (sz : Nat) (h0 : Nat) (v0 : Int64) (d1 : Nat) (ln : Nat) (rd : Int64) (xd : Int32) (xq : Int32) (d2 : Nat) (an : Nat) (nx : Nat) (d3 : Nat) (d4 : Nat) (d5 : Nat) (d6 : Nat) (xm : Int32) (zn : Nat) (d7 : Nat) (d8 : Nat) (sd : Int64) (d9 : Nat) (d0 : Nat)  : Met l yX7_seed (Cond.code yX7_seed cX7_seed 5 (some .long) :: wsL_law) ({ frames := 0, cells := 0, slots := 0, locals := 0 }) (PM g [.ref h0, .long v0] [(h0, .inr (6, [.ref d1, .int (nI ln), .long rd, .int xd, .int xq, .ref d2, .int (nI an), .int (nI nx), .ref d3, .ref d4, .ref d5, .ref d6, .int xm, .int (nI zn), .ref d7, .ref d8, .long sd, .ref d9, .ref d0]))] sz) (QAl g (fun (r : Int64) (u : Unit) => r = sd) (fun (u : Unit) => [(h0, .inr (6, [.ref d1, .int (nI ln), .long rd, .int xd, .int xq, .ref d2, .int (nI an), .int (nI nx), .ref d3, .ref d4, .ref d5, .ref d6, .int xm, .int (nI zn), .ref d7, .ref d8, .long v0, .ref d9, .ref d0]))]) (va_A [(h0, .inr (6, [.ref d1, .int (nI ln), .long rd, .int xd, .int xq, .ref d2, .int (nI an), .int (nI nx), .ref d3, .ref d4, .ref d5, .ref d6, .int xm, .int (nI zn), .ref d7, .ref d8, .long sd, .ref d9, .ref d0]))] sz)) 0 0 (va_A [(h0, .inr (6, [.ref d1, .int (nI ln), .long rd, .int xd, .int xq, .ref d2, .int (nI an), .int (nI nx), .ref d3, .ref d4, .ref d5, .ref d6, .int xm, .int (nI zn), .ref d7, .ref d8, .long sd, .ref d9, .ref d0]))] sz) := by
  refine Met.M (Qc := fun A => QAl g (fun (r : Int64) (u : Unit) => r = sd) (fun (u : Unit) => [(h0, .inr (6, [.ref d1, .int (nI ln), .long rd, .int xd, .int xq, .ref d2, .int (nI an), .int (nI nx), .ref d3, .ref d4, .ref d5, .ref d6, .int xm, .int (nI zn), .ref d7, .ref d8, .long v0, .ref d9, .ref d0]))]) A) (by decide) (Nat.le_of_ble_eq_true rfl) rfl ?_
  intro p e s m below meth c hx hb hr hml hw hown hlocks hin A hA hkn hP hD ls hl
  have hl : lv_has ls 5 [(0, .ref h0), (1, .long v0)] := hl
  have hS : va_S A s.heap s.heap [] := va_S.rf
  obtain ⟨H, hHe⟩ : ∃ H, H = s.heap := ⟨_, rfl⟩
  obtain ⟨locs, hLe⟩ : ∃ locs : List Loc, locs = [] := ⟨_, rfl⟩
  have hP : va_P g.1 vwCl [(h0, .inr (6, [.ref d1, .int (nI ln), .long rd, .int xd, .int xq, .ref d2, .int (nI an), .int (nI nx), .ref d3, .ref d4, .ref d5, .ref d6, .int xm, .int (nI zn), .ref d7, .ref d8, .long sd, .ref d9, .ref d0]))] H := by rw [hHe]; exact hP
  have hS : va_S A s.heap H locs := by rw [hHe, hLe]; exact hS
  have hgo : W p l e ({ frames := 0, cells := 0, slots := 0, locals := 0 } : Room) s m ([.ref h0, .long v0] : List Value).toArray below meth c H locs 0 0 (MQ below (QAl g (fun (r : Int64) (u : Unit) => r = sd) (fun (u : Unit) => [(h0, .inr (6, [.ref d1, .int (nI ln), .long rd, .int xd, .int xq, .ref d2, .int (nI an), .int (nI nx), .ref d3, .ref d4, .ref d5, .ref d6, .int xm, .int (nI zn), .ref d7, .ref d8, .long v0, .ref d9, .ref d0]))]) A) ([.ref h0, .long v0] : List Value).toArray s 0 0 A) (F0 m 0 ls []) := ?_
  · rw [hHe, hLe] at hgo; exact hgo
  clear hHe hLe
  refine lv_aload_n hx hb dX7_seed_0 rfl (lv_at hl 0 rfl) ?_
  refine va_get (D := g.1) (ci := 6) (v := .long sd) (C := RX7) (T := TX7) (N := 19) hx hb hw inlX7 hown hkn.1 hP 0 rfl rfl 16 (by decide) (hw _ mw_757) (fun _ h9 => h9) rfl dX7_seed_1 ?_
  refine lv_lstore_n (lv' := [(3, .long sd), (0, .ref h0), (1, .long v0)]) hx hb dX7_seed_4 rfl hl (by decide) rfl (fun ls hl => ?_)
  refine lv_aload_n hx hb dX7_seed_5 rfl (lv_at hl 1 rfl) ?_
  refine lv_lload_n hx hb dX7_seed_6 rfl (lv_at hl 2 rfl) ?_
  refine va_put (D := g.1) (ci := 6) (v := .long v0) (ty := .long) (C := RX7) (T := TX7) (N := 19) hx hb hw inlX7 tyX7 tyX7_ok nmX7 hown hkn.1 hP hD hS 0 rfl rfl 16 (by decide) (hw _ mw_757) (fun _ h9 => h9) rfl (by decide +kernel) rfl rfl (Nat.le_of_ble_eq_true rfl) dX7_seed_7 (fun H locs hP hD hS => ?_)
  have hP : va_P g.1 vwCl [(h0, .inr (6, [.ref d1, .int (nI ln), .long rd, .int xd, .int xq, .ref d2, .int (nI an), .int (nI nx), .ref d3, .ref d4, .ref d5, .ref d6, .int xm, .int (nI zn), .ref d7, .ref d8, .long v0, .ref d9, .ref d0]))] H := hP
  have hD : va_D A [(h0, .inr (6, [.ref d1, .int (nI ln), .long rd, .int xd, .int xq, .ref d2, .int (nI an), .int (nI nx), .ref d3, .ref d4, .ref d5, .ref d6, .int xm, .int (nI zn), .ref d7, .ref d8, .long v0, .ref d9, .ref d0]))] := hD
  refine lv_lload_n hx hb dX7_seed_10 rfl (lv_at hl 0 rfl) ?_
  exact eM_l (g := g) hx hb hr hlocks () (rfl) (hP.sub [0] rfl) (hD.sub [0] (by decide) rfl) hS dX7_seed_11
set_option maxHeartbeats 4000000 in
set_option maxRecDepth 100000 in
theorem c_X7_areaOf (l : Launch) (g : GG) (H : Heap) (h0 : Nat) (lv : Nat) (d1 : Nat) (ln : Nat) (rd : Int64) (xd : Int32) (xq : Int32) (d2 : Nat) (an : Nat) (nx : Nat) (d3 : Nat) (d4 : Nat) (d5 : Nat) (d6 : Nat) (xm : Int32) (zn : Nat) (d7 : Nat) (d8 : Nat) (sd : Int64) (d9 : Nat) (d0 : Nat) (nw : Nat → Int64) (hlv : lv < 2) (hP : va_P g.1 vwCl [(h0, .inr (6, [.ref d1, .int (nI ln), .long rd, .int xd, .int xq, .ref d2, .int (nI an), .int (nI nx), .ref d3, .ref d4, .ref d5, .ref d6, .int xm, .int (nI zn), .ref d7, .ref d8, .long sd, .ref d9, .ref d0])), (d2, .inl (gJ g, 6, .inr (.inl nw)))] H) : Met l yX7_areaOf (Cond.code yX7_areaOf cX7_areaOf 3 (some .int) :: wsL_law) ({ frames := 1, cells := 0, slots := 0, locals := 23 }) (PR g [.ref h0, .int (nI lv)] H) (QRi (nI (arM nw lv)) H) 0 0 NoA := by
  refine Met.R (by decide) (Nat.le_of_ble_eq_true rfl) rfl ?_
  intro p e s m below meth c hx hb hr hml hw hown hlocks hkn hH ls hl
  subst hH
  have hl : lv_has ls 3 [(0, .ref h0), (1, .int (nI lv))] := hl
  have hS : va_S NoA s.heap s.heap [] := va_S.rf
  refine lv_iconst (v := 3) hx hb dX7_areaOf_0 (by decide) ?_
  refine lv_iload_n hx hb dX7_areaOf_1 rfl (lv_at hl 1 rfl) ?_
  refine lv_imul hx hb dX7_areaOf_2 ?_
  refine lv_eqi (pk_mul 3 lv) ?_
  refine lv_istore_n (lv' := [(2, .int (nI (3 * lv))), (0, .ref h0), (1, .int (nI lv))]) hx hb dX7_areaOf_3 rfl hl (by decide) rfl (fun ls hl => ?_)
  refine lv_aload_n hx hb dX7_areaOf_4 rfl (lv_at hl 1 rfl) ?_
  refine va_get (D := g.1) (ci := 6) (v := .ref d2) (C := RX7) (T := TX7) (N := 19) hx hb hw inlX7 hown hkn.1 hP 0 rfl rfl 5 (by decide) (hw _ mw_74) (fun _ h9 => h9) rfl dX7_areaOf_5 ?_
  refine lv_iload_n hx hb dX7_areaOf_8 rfl (lv_at hl 0 rfl) ?_
  refine va_lald hx hb hkn.1 hP 1 1 rfl rfl (vp_in_nI (n := 3 * lv) (by omega) (by decide)) dX7_areaOf_9 ?_
  refine lv_eql (show _ = nw (3 * lv) by rw [nI_clamp (n := 3 * lv) (by omega)]) ?_
  refine cS_i (As := [.long (nw (3 * lv))]) (rest := []) hx hb hml hown hw hkn hS hl (c_X7_ones l g _ (nw (3 * lv)) ) sf_X7_ones mw_254 ⟨(Nat.le_of_ble_eq_true rfl), (Nat.le_of_ble_eq_true rfl)⟩ rfl rfl rfl rfl (Nat.le_of_ble_eq_true rfl) dX7_areaOf_10 ⟨(Nat.le_of_ble_eq_true rfl), (Nat.le_of_ble_eq_true rfl)⟩ ?_
  refine lv_aload_n hx hb dX7_areaOf_13 rfl (lv_at hl 1 rfl) ?_
  refine va_get (D := g.1) (ci := 6) (v := .ref d2) (C := RX7) (T := TX7) (N := 19) hx hb hw inlX7 hown hkn.1 hP 0 rfl rfl 5 (by decide) (hw _ mw_74) (fun _ h9 => h9) rfl dX7_areaOf_14 ?_
  refine lv_iload_n hx hb dX7_areaOf_17 rfl (lv_at hl 0 rfl) ?_
  refine lv_iconst (v := 1) hx hb dX7_areaOf_18 (by decide) ?_
  refine lv_iadd hx hb dX7_areaOf_19 ?_
  refine lv_eqi (nI_add (3 * lv) 1) ?_
  refine va_lald hx hb hkn.1 hP 1 1 rfl rfl (vp_in_nI (n := 3 * lv + 1) (by omega) (by decide)) dX7_areaOf_20 ?_
  refine lv_eql (show _ = nw (3 * lv + 1) by rw [nI_clamp (n := 3 * lv + 1) (by omega)]) ?_
  refine cS_i (As := [.long (nw (3 * lv + 1))]) (rest := [.int (nI (pcn (nw (3 * lv))))]) hx hb hml hown hw hkn hS hl (c_X7_ones l g _ (nw (3 * lv + 1)) ) sf_X7_ones mw_254 ⟨(Nat.le_of_ble_eq_true rfl), (Nat.le_of_ble_eq_true rfl)⟩ rfl rfl rfl rfl (Nat.le_of_ble_eq_true rfl) dX7_areaOf_21 ⟨(Nat.le_of_ble_eq_true rfl), (Nat.le_of_ble_eq_true rfl)⟩ ?_
  refine lv_iadd hx hb dX7_areaOf_24 ?_
  refine lv_eqi (nI_add (pcn (nw (3 * lv))) (pcn (nw (3 * lv + 1)))) ?_
  refine lv_aload_n hx hb dX7_areaOf_25 rfl (lv_at hl 1 rfl) ?_
  refine va_get (D := g.1) (ci := 6) (v := .ref d2) (C := RX7) (T := TX7) (N := 19) hx hb hw inlX7 hown hkn.1 hP 0 rfl rfl 5 (by decide) (hw _ mw_74) (fun _ h9 => h9) rfl dX7_areaOf_26 ?_
  refine lv_iload_n hx hb dX7_areaOf_29 rfl (lv_at hl 0 rfl) ?_
  refine lv_iconst (v := 2) hx hb dX7_areaOf_30 (by decide) ?_
  refine lv_iadd hx hb dX7_areaOf_31 ?_
  refine lv_eqi (nI_add (3 * lv) 2) ?_
  refine va_lald hx hb hkn.1 hP 1 1 rfl rfl (vp_in_nI (n := 3 * lv + 2) (by omega) (by decide)) dX7_areaOf_32 ?_
  refine lv_eql (show _ = nw (3 * lv + 2) by rw [nI_clamp (n := 3 * lv + 2) (by omega)]) ?_
  refine cS_i (As := [.long (nw (3 * lv + 2))]) (rest := [.int (nI (pcn (nw (3 * lv)) + (pcn (nw (3 * lv + 1)))))]) hx hb hml hown hw hkn hS hl (c_X7_ones l g _ (nw (3 * lv + 2)) ) sf_X7_ones mw_254 ⟨(Nat.le_of_ble_eq_true rfl), (Nat.le_of_ble_eq_true rfl)⟩ rfl rfl rfl rfl (Nat.le_of_ble_eq_true rfl) dX7_areaOf_33 ⟨(Nat.le_of_ble_eq_true rfl), (Nat.le_of_ble_eq_true rfl)⟩ ?_
  refine lv_iadd hx hb dX7_areaOf_36 ?_
  refine lv_eqi (nI_add (pcn (nw (3 * lv)) + (pcn (nw (3 * lv + 1)))) (pcn (nw (3 * lv + 2)))) ?_
  exact eR_i hx hb hr hlocks (rfl) dX7_areaOf_37
set_option maxHeartbeats 4000000 in
set_option maxRecDepth 100000 in
theorem c_X7_years (l : Launch) (g : GG) (sz : Nat) (h0 : Nat) (x0 : Int32) (d1 : Nat) (ln : Nat) (rd : Int64) (xd : Int32) (xq : Int32) (d2 : Nat) (an : Nat) (nx : Nat) (d3 : Nat) (d4 : Nat) (d5 : Nat) (d6 : Nat) (xm : Int32) (zn : Nat) (d7 : Nat) (d8 : Nat) (sd : Int64) (d9 : Nat) (d0 : Nat) (nw : Nat → Int64)  : Met l yX7_years (Cond.code yX7_years cX7_years 5 (some .int) :: wsL_law) ({ frames := 6, cells := 0, slots := 0, locals := 150 }) (PM g [.ref h0, .int x0] [(h0, .inr (6, [.ref d1, .int (nI ln), .long rd, .int xd, .int xq, .ref d2, .int (nI an), .int (nI nx), .ref d3, .ref d4, .ref d5, .ref d6, .int xm, .int (nI zn), .ref d7, .ref d8, .long sd, .ref d9, .ref d0])), (d2, .inl (gJ g, 6, .inr (.inl nw)))] sz) (QAi g (fun (r : Int32) (u : (Nat → Int64)) => r = (if qYrB x0 = true then nI (yrS (trF (ltF nw)) sd x0.toNatClampNeg).2.2 else -2) ∧ (∀ j, j < 3 → u j = nw j)) (fun (u : (Nat → Int64)) => [(h0, .inr (6, [.ref d1, .int (nI ln), .long rd, .int xd, .int xq, .ref d2, .int (nI an), .int (nI nx), .ref d3, .ref d4, .ref d5, .ref d6, .int xm, .int (nI zn), .ref d7, .ref d8, .long (cond (qYrB x0) (yrS (trF (ltF nw)) sd x0.toNatClampNeg).2.1 sd), .ref d9, .ref d0])), (d2, .inl (gJ g, 6, .inr (.inl u)))]) (va_A [(h0, .inr (6, [.ref d1, .int (nI ln), .long rd, .int xd, .int xq, .ref d2, .int (nI an), .int (nI nx), .ref d3, .ref d4, .ref d5, .ref d6, .int xm, .int (nI zn), .ref d7, .ref d8, .long sd, .ref d9, .ref d0])), (d2, .inl (gJ g, 6, .inr (.inl nw)))] sz)) 0 0 (va_A [(h0, .inr (6, [.ref d1, .int (nI ln), .long rd, .int xd, .int xq, .ref d2, .int (nI an), .int (nI nx), .ref d3, .ref d4, .ref d5, .ref d6, .int xm, .int (nI zn), .ref d7, .ref d8, .long sd, .ref d9, .ref d0])), (d2, .inl (gJ g, 6, .inr (.inl nw)))] sz) := by
  refine Met.M (Qc := fun A => QAi g (fun (r : Int32) (u : (Nat → Int64)) => r = (if qYrB x0 = true then nI (yrS (trF (ltF nw)) sd x0.toNatClampNeg).2.2 else -2) ∧ (∀ j, j < 3 → u j = nw j)) (fun (u : (Nat → Int64)) => [(h0, .inr (6, [.ref d1, .int (nI ln), .long rd, .int xd, .int xq, .ref d2, .int (nI an), .int (nI nx), .ref d3, .ref d4, .ref d5, .ref d6, .int xm, .int (nI zn), .ref d7, .ref d8, .long (cond (qYrB x0) (yrS (trF (ltF nw)) sd x0.toNatClampNeg).2.1 sd), .ref d9, .ref d0])), (d2, .inl (gJ g, 6, .inr (.inl u)))]) A) (by decide) (Nat.le_of_ble_eq_true rfl) rfl ?_
  intro p e s m below meth c hx hb hr hml hw hown hlocks hin A hA hkn hP hD ls hl
  have hl : lv_has ls 5 [(0, .ref h0), (1, .int x0)] := hl
  have hS : va_S A s.heap s.heap [] := va_S.rf
  obtain ⟨H, hHe⟩ : ∃ H, H = s.heap := ⟨_, rfl⟩
  obtain ⟨locs, hLe⟩ : ∃ locs : List Loc, locs = [] := ⟨_, rfl⟩
  have hP : va_P g.1 vwCl [(h0, .inr (6, [.ref d1, .int (nI ln), .long rd, .int xd, .int xq, .ref d2, .int (nI an), .int (nI nx), .ref d3, .ref d4, .ref d5, .ref d6, .int xm, .int (nI zn), .ref d7, .ref d8, .long sd, .ref d9, .ref d0])), (d2, .inl (gJ g, 6, .inr (.inl nw)))] H := by rw [hHe]; exact hP
  have hS : va_S A s.heap H locs := by rw [hHe, hLe]; exact hS
  have hgo : W p l e ({ frames := 6, cells := 0, slots := 0, locals := 150 } : Room) s m ([.ref h0, .int x0] : List Value).toArray below meth c H locs 0 0 (MQ below (QAi g (fun (r : Int32) (u : (Nat → Int64)) => r = (if qYrB x0 = true then nI (yrS (trF (ltF nw)) sd x0.toNatClampNeg).2.2 else -2) ∧ (∀ j, j < 3 → u j = nw j)) (fun (u : (Nat → Int64)) => [(h0, .inr (6, [.ref d1, .int (nI ln), .long rd, .int xd, .int xq, .ref d2, .int (nI an), .int (nI nx), .ref d3, .ref d4, .ref d5, .ref d6, .int xm, .int (nI zn), .ref d7, .ref d8, .long (cond (qYrB x0) (yrS (trF (ltF nw)) sd x0.toNatClampNeg).2.1 sd), .ref d9, .ref d0])), (d2, .inl (gJ g, 6, .inr (.inl u)))]) A) ([.ref h0, .int x0] : List Value).toArray s 0 0 A) (F0 m 0 ls []) := ?_
  · rw [hHe, hLe] at hgo; exact hgo
  clear hHe hLe
  refine lv_iload_n hx hb dX7_years_0 rfl (lv_at hl 1 rfl) ?_
  refine lv_i2l hx hb dX7_years_1 rfl ?_
  refine lv_lconst (v := 1) hx hb dX7_years_2 rfl ?_
  refine lv_ldc2 hx hb hown (hw _ mw_778) dX7_years_3 ?_
  refine cS_i (As := [.long ((x0).toInt64), .long 1, .long 30]) (rest := []) hx hb hml hown hw hkn hS hl (c_X7_in l g _ ((x0).toInt64) 1 30 ) sf_X7_in mw_101 ⟨(Nat.le_of_ble_eq_true rfl), (Nat.le_of_ble_eq_true rfl)⟩ rfl rfl rfl rfl (Nat.le_of_ble_eq_true rfl) dX7_years_6 ⟨(Nat.le_of_ble_eq_true rfl), (Nat.le_of_ble_eq_true rfl)⟩ ?_
  refine lv_ifneB (b := inL ((x0).toInt64) 1 30) (tgt := 15) hx hb dX7_years_9 (by decide) (fun c_1 => ?_) (fun c_1 => ?_)
  · skip
    obtain ⟨x9, hx1, hx9, ex9⟩ := in1_of (N := 30) (z := 30) rfl (by decide) c_1
    have ec : x0.toNatClampNeg = x9 := by rw [ex9, nI_clamp (by omega)]
    have eb : qYrB x0 = true := (yr_b x0).symm.trans c_1
    refine lv_aload_n hx hb dX7_years_15 rfl (lv_at hl 0 rfl) ?_
    refine cVM_v (As := []) (rest := []) (q0 := 0) (wc := [(h0, .inr (6, [.ref d1, .int (nI ln), .long rd, .int xd, .int xq, .ref d2, .int (nI an), .int (nI nx), .ref d3, .ref d4, .ref d5, .ref d6, .int xm, .int (nI zn), .ref d7, .ref d8, .long sd, .ref d9, .ref d0])), (d2, .inl (gJ g, 6, .inr (.inl nw)))]) (wr := []) hx hb hml hown hw hkn hS hl hA hP hD [0, 1] [] rfl rfl (by decide) (by decide) (by decide) (c_X7_layTrial l g _ h0 d1 ln rd xd xq d2 an nx d3 d4 d5 d6 xm zn d7 d8 sd d9 d0 nw ) vf_X7_layTrial mw_602 rfl rfl ⟨(Nat.le_of_ble_eq_true rfl), (Nat.le_of_ble_eq_true rfl)⟩ rfl rfl rfl rfl (Nat.le_of_ble_eq_true rfl) dX7_years_16 ⟨(Nat.le_of_ble_eq_true rfl), (Nat.le_of_ble_eq_true rfl)⟩ (fun u H locs hq hP hD hS => ?_)
    have hP : va_P g.1 vwCl [(h0, .inr (6, [.ref d1, .int (nI ln), .long rd, .int xd, .int xq, .ref d2, .int (nI an), .int (nI nx), .ref d3, .ref d4, .ref d5, .ref d6, .int xm, .int (nI zn), .ref d7, .ref d8, .long sd, .ref d9, .ref d0])), (d2, .inl (gJ g, 6, .inr (.inl (ltF nw))))] H := hP.sub [0, 1] rfl
    have hD : va_D A [(h0, .inr (6, [.ref d1, .int (nI ln), .long rd, .int xd, .int xq, .ref d2, .int (nI an), .int (nI nx), .ref d3, .ref d4, .ref d5, .ref d6, .int xm, .int (nI zn), .ref d7, .ref d8, .long sd, .ref d9, .ref d0])), (d2, .inl (gJ g, 6, .inr (.inl (ltF nw))))] := hD.sub [0, 1] (by decide) rfl
    refine lv_iconst (v := 0) hx hb dX7_years_19 (by decide) ?_
    refine lv_istore_n (lv' := [(2, .int 0), (0, .ref h0), (1, .int x0)]) hx hb dX7_years_20 rfl hl (by decide) rfl (fun ls hl => ?_)
    refine lv_iconst (v := 0) hx hb dX7_years_21 (by decide) ?_
    refine lv_istore_n (lv' := [(3, .int 0), (2, .int 0), (0, .ref h0), (1, .int x0)]) hx hb dX7_years_22 rfl hl (by decide) rfl (fun ls hl => ?_)
    have lp_23 : ∀ (n_23 : Nat) (i : Nat) (a : Nat) (sd1 : Int64) (f1 : Nat → Int64), (i ≤ x9) → (∀ j, j < 3 → f1 j = nw j) → (yrS (trF (ltF nw)) sd i = (trF f1, sd1, a)) → x9 < i + n_23 → ∀ (H : Heap) (locs : List Loc), va_P g.1 vwCl [(h0, .inr (6, [.ref d1, .int (nI ln), .long rd, .int xd, .int xq, .ref d2, .int (nI an), .int (nI nx), .ref d3, .ref d4, .ref d5, .ref d6, .int xm, .int (nI zn), .ref d7, .ref d8, .long sd1, .ref d9, .ref d0])), (d2, .inl (gJ g, 6, .inr (.inl f1)))] H → va_D A [(h0, .inr (6, [.ref d1, .int (nI ln), .long rd, .int xd, .int xq, .ref d2, .int (nI an), .int (nI nx), .ref d3, .ref d4, .ref d5, .ref d6, .int xm, .int (nI zn), .ref d7, .ref d8, .long sd1, .ref d9, .ref d0])), (d2, .inl (gJ g, 6, .inr (.inl f1)))] → va_S A s.heap H locs → ∀ (ls : Array Slot), lv_has ls 5 [(3, .int (nI i)), (2, .int (nI a)), (0, .ref h0), (1, .int x0)] → W p l e ({ frames := 6, cells := 0, slots := 0, locals := 150 } : Room) s m ([.ref h0, .int x0] : List Value).toArray below meth c H locs 0 0 (MQ below (QAi g (fun (r : Int32) (u : (Nat → Int64)) => r = (if qYrB x0 = true then nI (yrS (trF (ltF nw)) sd x0.toNatClampNeg).2.2 else -2) ∧ (∀ j, j < 3 → u j = nw j)) (fun (u : (Nat → Int64)) => [(h0, .inr (6, [.ref d1, .int (nI ln), .long rd, .int xd, .int xq, .ref d2, .int (nI an), .int (nI nx), .ref d3, .ref d4, .ref d5, .ref d6, .int xm, .int (nI zn), .ref d7, .ref d8, .long (cond (qYrB x0) (yrS (trF (ltF nw)) sd x0.toNatClampNeg).2.1 sd), .ref d9, .ref d0])), (d2, .inl (gJ g, 6, .inr (.inl u)))]) A) ([.ref h0, .int x0] : List Value).toArray s 0 0 A) (F0 m 23 ls []) := by
      intro n_23
      induction n_23 with
      | zero => intro i a sd1 f1 h_i h_v h_y hfu_23; exact absurd hfu_23 (by omega)
      | succ n_23 ih_23 =>
        intro i a sd1 f1 h_i h_v h_y hfu_23 H locs hP hD hS ls hl
        refine lv_iload_n hx hb dX7_years_23 rfl (lv_at hl 0 rfl) ?_
        refine lv_iload_n hx hb dX7_years_24 rfl (lv_at hl 3 rfl) ?_
        refine lv_eqi (show _ = (nI x9) from ex9) ?_
        refine ic_ge (a := i) (d := x9) (tgt := 163) hx hb dX7_years_25 (by decide) rfl rfl (by omega) (by omega) (fun c_3 => ?_) (fun c_3 => ?_)
        · skip
          refine lv_iload_n hx hb dX7_years_163 rfl (lv_at hl 1 rfl) ?_
          have e9 := h_y
          rw [show i = x9 by omega] at e9
          exact eM_i (g := g) hx hb hr hlocks f1 (⟨by rw [eb, ec, e9]; rfl, h_v⟩) (show va_P g.1 vwCl [(h0, .inr (6, [.ref d1, .int (nI ln), .long rd, .int xd, .int xq, .ref d2, .int (nI an), .int (nI nx), .ref d3, .ref d4, .ref d5, .ref d6, .int xm, .int (nI zn), .ref d7, .ref d8, .long (cond (qYrB x0) (yrS (trF (ltF nw)) sd x0.toNatClampNeg).2.1 sd), .ref d9, .ref d0])), (d2, .inl (gJ g, 6, .inr (.inl f1)))] H by rw [eb, ec, e9]; exact hP.sub [0, 1] rfl) (show va_D A [(h0, .inr (6, [.ref d1, .int (nI ln), .long rd, .int xd, .int xq, .ref d2, .int (nI an), .int (nI nx), .ref d3, .ref d4, .ref d5, .ref d6, .int xm, .int (nI zn), .ref d7, .ref d8, .long (cond (qYrB x0) (yrS (trF (ltF nw)) sd x0.toNatClampNeg).2.1 sd), .ref d9, .ref d0])), (d2, .inl (gJ g, 6, .inr (.inl f1)))] by rw [eb, ec, e9]; exact hD.sub [0, 1] (by decide) rfl) hS dX7_years_164
        · skip
          refine lv_aload_n hx hb dX7_years_28 rfl (lv_at hl 2 rfl) ?_
          refine lv_aload_n hx hb dX7_years_29 rfl (lv_at hl 2 rfl) ?_
          refine va_get (D := g.1) (ci := 6) (v := .long sd1) (C := RX7) (T := TX7) (N := 19) hx hb hw inlX7 hown hkn.1 hP 0 rfl rfl 16 (by decide) (hw _ mw_757) (fun _ h9 => h9) rfl dX7_years_30 ?_
          refine lv_ldc2 hx hb hown (hw _ mw_779) dX7_years_33 ?_
          refine lv_lmul hx hb dX7_years_36 ?_
          refine lv_ldc2 hx hb hown (hw _ mw_780) dX7_years_37 ?_
          refine lv_ladd hx hb dX7_years_40 ?_
          refine lv_eql (show _ = (sdS sd1) from rfl) ?_
          refine va_put (D := g.1) (ci := 6) (v := .long (sdS sd1)) (ty := .long) (C := RX7) (T := TX7) (N := 19) hx hb hw inlX7 tyX7 tyX7_ok nmX7 hown hkn.1 hP hD hS 0 rfl rfl 16 (by decide) (hw _ mw_757) (fun _ h9 => h9) rfl (by decide +kernel) rfl rfl (Nat.le_of_ble_eq_true rfl) dX7_years_41 (fun H locs hP hD hS => ?_)
          have hP : va_P g.1 vwCl [(h0, .inr (6, [.ref d1, .int (nI ln), .long rd, .int xd, .int xq, .ref d2, .int (nI an), .int (nI nx), .ref d3, .ref d4, .ref d5, .ref d6, .int xm, .int (nI zn), .ref d7, .ref d8, .long (sdS sd1), .ref d9, .ref d0])), (d2, .inl (gJ g, 6, .inr (.inl f1)))] H := hP
          have hD : va_D A [(h0, .inr (6, [.ref d1, .int (nI ln), .long rd, .int xd, .int xq, .ref d2, .int (nI an), .int (nI nx), .ref d3, .ref d4, .ref d5, .ref d6, .int xm, .int (nI zn), .ref d7, .ref d8, .long (sdS sd1), .ref d9, .ref d0])), (d2, .inl (gJ g, 6, .inr (.inl f1)))] := hD
          refine lv_aload_n hx hb dX7_years_44 rfl (lv_at hl 2 rfl) ?_
          refine va_get (D := g.1) (ci := 6) (v := .long (sdS sd1)) (C := RX7) (T := TX7) (N := 19) hx hb hw inlX7 hown hkn.1 hP 0 rfl rfl 16 (by decide) (hw _ mw_757) (fun _ h9 => h9) rfl dX7_years_45 ?_
          refine lv_bipush (v := 33) hx hb dX7_years_48 (by decide) ?_
          refine lv_lushr (v := (jushr (sdS sd1) 33)) hx hb dX7_years_50 rfl ?_
          refine lv_ldc2 hx hb hown (hw _ mw_781) dX7_years_51 ?_
          refine lv_lrem hx hb dX7_years_54 (by decide) ?_
          refine lv_l2i hx hb dX7_years_55 rfl ?_
          refine lv_eqi (show _ = (nI (lotN (sdS sd1))) from lot_eq _) ?_
          refine lv_istore (lv' := [(4, .int (nI (lotN (sdS sd1)))), (3, .int (nI i)), (2, .int (nI a)), (0, .ref h0), (1, .int x0)]) hx hb dX7_years_56 hl (by decide) rfl (fun ls hl => ?_)
          have hlo := lot_lt (sdS sd1)
          refine lv_iload hx hb dX7_years_58 (lv_at hl 0 rfl) ?_
          refine lv_bipush (v := 32) hx hb dX7_years_60 (by decide) ?_
          refine ic_le (a := lotN (sdS sd1)) (d := 32) (tgt := 81) hx hb dX7_years_62 (by decide) rfl rfl (by omega) (by omega) (fun c_4 => ?_) (fun c_4 => ?_)
          · skip
            refine lv_iload hx hb dX7_years_81 (lv_at hl 0 rfl) ?_
            refine lv_bipush (v := 29) hx hb dX7_years_83 (by decide) ?_
            refine ic_le (a := lotN (sdS sd1)) (d := 29) (tgt := 104) hx hb dX7_years_85 (by decide) rfl rfl (by omega) (by omega) (fun c_5 => ?_) (fun c_5 => ?_)
            · skip
              refine lv_iload hx hb dX7_years_104 (lv_at hl 0 rfl) ?_
              refine lv_bipush (v := 26) hx hb dX7_years_106 (by decide) ?_
              refine ic_le (a := lotN (sdS sd1)) (d := 26) (tgt := 126) hx hb dX7_years_108 (by decide) rfl rfl (by omega) (by omega) (fun c_6 => ?_) (fun c_6 => ?_)
              · skip
                refine lv_aload_n hx hb dX7_years_126 rfl (lv_at hl 3 rfl) ?_
                refine lv_iconst (v := 1) hx hb dX7_years_127 (by decide) ?_
                refine lv_iload hx hb dX7_years_128 (lv_at hl 0 rfl) ?_
                refine lv_bipush (v := 9) hx hb dX7_years_130 (by decide) ?_
                refine lv_idiv hx hb dX7_years_132 (by decide) ?_
                refine lv_eqi (pk_div (a := lotN (sdS sd1)) (d := 9) (by omega) (by omega) (by omega)) ?_
                refine lv_iadd hx hb dX7_years_133 ?_
                refine lv_eqi (nI_add 1 ((lotN (sdS sd1)) / 9)) ?_
                refine lv_iload hx hb dX7_years_134 (lv_at hl 0 rfl) ?_
                refine lv_bipush (v := 9) hx hb dX7_years_136 (by decide) ?_
                refine lv_irem hx hb dX7_years_138 (by decide) ?_
                refine lv_eqi (pk_rem (a := lotN (sdS sd1)) (d := 9) (by omega) (by omega) (by omega)) ?_
                refine lv_iconst (v := 3) hx hb dX7_years_139 (by decide) ?_
                refine lv_idiv hx hb dX7_years_140 (by decide) ?_
                refine lv_eqi (pk_div (a := (lotN (sdS sd1)) % 9) (d := 3) (by omega) (by omega) (by omega)) ?_
                refine lv_iload hx hb dX7_years_141 (lv_at hl 0 rfl) ?_
                refine lv_iconst (v := 3) hx hb dX7_years_143 (by decide) ?_
                refine lv_irem hx hb dX7_years_144 (by decide) ?_
                refine lv_eqi (pk_rem (a := lotN (sdS sd1)) (d := 3) (by omega) (by omega) (by omega)) ?_
                refine cVM_i (As := [.int (nI (1 + ((lotN (sdS sd1)) / 9))), .int (nI (((lotN (sdS sd1)) % 9) / 3)), .int (nI ((lotN (sdS sd1)) % 3))]) (rest := []) (q0 := 0) (wc := [(h0, .inr (6, [.ref d1, .int (nI ln), .long rd, .int xd, .int xq, .ref d2, .int (nI an), .int (nI nx), .ref d3, .ref d4, .ref d5, .ref d6, .int xm, .int (nI zn), .ref d7, .ref d8, .long (sdS sd1), .ref d9, .ref d0])), (d2, .inl (gJ g, 6, .inr (.inl f1)))]) (wr := []) hx hb hml hown hw hkn hS hl hA hP hD [0, 1] [] rfl rfl (by decide) (by decide) (by decide) (c_X7_tryThing l g _ h0 (nI (1 + ((lotN (sdS sd1)) / 9))) (nI (((lotN (sdS sd1)) % 9) / 3)) (nI ((lotN (sdS sd1)) % 3)) d1 ln rd xd xq d2 an nx d3 d4 d5 d6 xm zn d7 d8 (sdS sd1) d9 d0 f1 ) vf_X7_tryThing mw_606 rfl rfl ⟨(Nat.le_of_ble_eq_true rfl), (Nat.le_of_ble_eq_true rfl)⟩ rfl rfl rfl rfl (Nat.le_of_ble_eq_true rfl) dX7_years_145 ⟨(Nat.le_of_ble_eq_true rfl), (Nat.le_of_ble_eq_true rfl)⟩ (fun r u H locs hq hP hD hS => ?_)
                have hq : r = (b2i (doB (trF f1) (nI (1 + ((lotN (sdS sd1)) / 9))) (nI (((lotN (sdS sd1)) % 9) / 3)) (nI ((lotN (sdS sd1)) % 3)))) := hq
                subst hq
                have hP : va_P g.1 vwCl [(h0, .inr (6, [.ref d1, .int (nI ln), .long rd, .int xd, .int xq, .ref d2, .int (nI an), .int (nI nx), .ref d3, .ref d4, .ref d5, .ref d6, .int xm, .int (nI zn), .ref d7, .ref d8, .long (sdS sd1), .ref d9, .ref d0])), (d2, .inl (gJ g, 6, .inr (.inl (mgT f1 (doF (trF f1) (nI (1 + ((lotN (sdS sd1)) / 9))) (nI (((lotN (sdS sd1)) % 9) / 3)) (nI ((lotN (sdS sd1)) % 3)))))))] H := hP.sub [0, 1] rfl
                have hD : va_D A [(h0, .inr (6, [.ref d1, .int (nI ln), .long rd, .int xd, .int xq, .ref d2, .int (nI an), .int (nI nx), .ref d3, .ref d4, .ref d5, .ref d6, .int xm, .int (nI zn), .ref d7, .ref d8, .long (sdS sd1), .ref d9, .ref d0])), (d2, .inl (gJ g, 6, .inr (.inl (mgT f1 (doF (trF f1) (nI (1 + ((lotN (sdS sd1)) / 9))) (nI (((lotN (sdS sd1)) % 9) / 3)) (nI ((lotN (sdS sd1)) % 3)))))))] := hD.sub [0, 1] (by decide) rfl
                refine lv_pop hx hb dX7_years_148 rfl ?_
                refine lv_iload_n hx hb dX7_years_149 rfl (lv_at hl 2 rfl) ?_
                refine lv_aload_n hx hb dX7_years_150 rfl (lv_at hl 3 rfl) ?_
                refine lv_iconst (v := 1) hx hb dX7_years_151 (by decide) ?_
                refine cV_i (As := [.int 1]) (rest := [.int (nI a)]) hx hb hml hown hw hkn hS hl (c_X7_areaOf l g _ h0 1 d1 ln rd xd xq d2 an nx d3 d4 d5 d6 xm zn d7 d8 (sdS sd1) d9 d0 (mgT f1 (doF (trF f1) (nI (1 + ((lotN (sdS sd1)) / 9))) (nI (((lotN (sdS sd1)) % 9) / 3)) (nI ((lotN (sdS sd1)) % 3)))) (by omega) (hP.sub [0, 1] rfl)) vf_X7_areaOf mw_782 (va_recv hkn.1 hP (ci := 6) (q0 := 0) rfl rfl) ⟨(Nat.le_of_ble_eq_true rfl), (Nat.le_of_ble_eq_true rfl)⟩ rfl rfl rfl rfl (Nat.le_of_ble_eq_true rfl) dX7_years_152 ⟨(Nat.le_of_ble_eq_true rfl), (Nat.le_of_ble_eq_true rfl)⟩ ?_
                refine lv_iadd hx hb dX7_years_155 ?_
                refine lv_eqi (nI_add a (arM (mgT f1 (doF (trF f1) (nI (1 + ((lotN (sdS sd1)) / 9))) (nI (((lotN (sdS sd1)) % 9) / 3)) (nI ((lotN (sdS sd1)) % 3)))) 1)) ?_
                refine lv_istore_n (lv' := [(2, .int (nI (a + (arM (mgT f1 (doF (trF f1) (nI (1 + ((lotN (sdS sd1)) / 9))) (nI (((lotN (sdS sd1)) % 9) / 3)) (nI ((lotN (sdS sd1)) % 3)))) 1)))), (4, .int (nI (lotN (sdS sd1)))), (3, .int (nI i)), (0, .ref h0), (1, .int x0)]) hx hb dX7_years_156 rfl hl (by decide) rfl (fun ls hl => ?_)
                have hpy : pyS (trF f1) (lotN (sdS sd1)) = trF ((mgT f1 (doF (trF f1) (nI (1 + ((lotN (sdS sd1)) / 9))) (nI (((lotN (sdS sd1)) % 9) / 3)) (nI ((lotN (sdS sd1)) % 3))))) := by rw [mgT_tr]; unfold pyS; rw [if_pos (show lotN (sdS sd1) < 27 by omega)]
                refine lv_iinc (v := (nI (i + 1))) (lv' := [(3, .int (nI (i + 1))), (2, .int (nI (a + (arM (mgT f1 (doF (trF f1) (nI (1 + ((lotN (sdS sd1)) / 9))) (nI (((lotN (sdS sd1)) % 9) / 3)) (nI ((lotN (sdS sd1)) % 3)))) 1)))), (4, .int (nI (lotN (sdS sd1)))), (0, .ref h0), (1, .int x0)]) hx hb dX7_years_157 hl (k := 2) rfl (nI_1 i) (by decide) rfl (fun ls hl => ?_)
                refine lv_goto (tgt := 23) hx hb dX7_years_160 (by decide) ?_
                exact ih_23 (i + 1) (a + (arM (mgT f1 (doF (trF f1) (nI (1 + ((lotN (sdS sd1)) / 9))) (nI (((lotN (sdS sd1)) % 9) / 3)) (nI ((lotN (sdS sd1)) % 3)))) 1)) (sdS sd1) (mgT f1 (doF (trF f1) (nI (1 + ((lotN (sdS sd1)) / 9))) (nI (((lotN (sdS sd1)) % 9) / 3)) (nI ((lotN (sdS sd1)) % 3)))) (by omega) (fun j hj => by rw [mg_live _ _ j hj]; exact h_v j hj) (by rw [yrS, h_y, arM_tr]; show (pyS (trF f1) (lotN (sdS sd1)), sdS sd1, a + areaN (pyS (trF f1) (lotN (sdS sd1)))) = _; rw [hpy]) (by omega) _ _ hP hD hS ls (lv_sub hl [0, 1, 3, 4] rfl)
              · skip
                refine lv_aload_n hx hb dX7_years_111 rfl (lv_at hl 3 rfl) ?_
                refine lv_iconst (v := 4) hx hb dX7_years_112 (by decide) ?_
                refine lv_iconst (v := 0) hx hb dX7_years_113 (by decide) ?_
                refine lv_iload hx hb dX7_years_114 (lv_at hl 0 rfl) ?_
                refine lv_bipush (v := 27) hx hb dX7_years_116 (by decide) ?_
                refine lv_isub hx hb dX7_years_118 ?_
                refine lv_eqi (pk_sub (a := lotN (sdS sd1)) (b := 27) (by omega)) ?_
                refine cVM_i (As := [.int 4, .int 0, .int (nI (lotN (sdS sd1) - 27))]) (rest := []) (q0 := 0) (wc := [(h0, .inr (6, [.ref d1, .int (nI ln), .long rd, .int xd, .int xq, .ref d2, .int (nI an), .int (nI nx), .ref d3, .ref d4, .ref d5, .ref d6, .int xm, .int (nI zn), .ref d7, .ref d8, .long (sdS sd1), .ref d9, .ref d0])), (d2, .inl (gJ g, 6, .inr (.inl f1)))]) (wr := []) hx hb hml hown hw hkn hS hl hA hP hD [0, 1] [] rfl rfl (by decide) (by decide) (by decide) (c_X7_tryThing l g _ h0 4 0 (nI (lotN (sdS sd1) - 27)) d1 ln rd xd xq d2 an nx d3 d4 d5 d6 xm zn d7 d8 (sdS sd1) d9 d0 f1 ) vf_X7_tryThing mw_606 rfl rfl ⟨(Nat.le_of_ble_eq_true rfl), (Nat.le_of_ble_eq_true rfl)⟩ rfl rfl rfl rfl (Nat.le_of_ble_eq_true rfl) dX7_years_119 ⟨(Nat.le_of_ble_eq_true rfl), (Nat.le_of_ble_eq_true rfl)⟩ (fun r u H locs hq hP hD hS => ?_)
                have hq : r = (b2i (doB (trF f1) 4 0 (nI (lotN (sdS sd1) - 27)))) := hq
                subst hq
                have hP : va_P g.1 vwCl [(h0, .inr (6, [.ref d1, .int (nI ln), .long rd, .int xd, .int xq, .ref d2, .int (nI an), .int (nI nx), .ref d3, .ref d4, .ref d5, .ref d6, .int xm, .int (nI zn), .ref d7, .ref d8, .long (sdS sd1), .ref d9, .ref d0])), (d2, .inl (gJ g, 6, .inr (.inl (mgT f1 (doF (trF f1) 4 0 (nI (lotN (sdS sd1) - 27)))))))] H := hP.sub [0, 1] rfl
                have hD : va_D A [(h0, .inr (6, [.ref d1, .int (nI ln), .long rd, .int xd, .int xq, .ref d2, .int (nI an), .int (nI nx), .ref d3, .ref d4, .ref d5, .ref d6, .int xm, .int (nI zn), .ref d7, .ref d8, .long (sdS sd1), .ref d9, .ref d0])), (d2, .inl (gJ g, 6, .inr (.inl (mgT f1 (doF (trF f1) 4 0 (nI (lotN (sdS sd1) - 27)))))))] := hD.sub [0, 1] (by decide) rfl
                refine lv_pop hx hb dX7_years_122 rfl ?_
                refine lv_goto (tgt := 149) hx hb dX7_years_123 (by decide) ?_
                refine lv_iload_n hx hb dX7_years_149 rfl (lv_at hl 2 rfl) ?_
                refine lv_aload_n hx hb dX7_years_150 rfl (lv_at hl 3 rfl) ?_
                refine lv_iconst (v := 1) hx hb dX7_years_151 (by decide) ?_
                refine cV_i (As := [.int 1]) (rest := [.int (nI a)]) hx hb hml hown hw hkn hS hl (c_X7_areaOf l g _ h0 1 d1 ln rd xd xq d2 an nx d3 d4 d5 d6 xm zn d7 d8 (sdS sd1) d9 d0 (mgT f1 (doF (trF f1) 4 0 (nI (lotN (sdS sd1) - 27)))) (by omega) (hP.sub [0, 1] rfl)) vf_X7_areaOf mw_782 (va_recv hkn.1 hP (ci := 6) (q0 := 0) rfl rfl) ⟨(Nat.le_of_ble_eq_true rfl), (Nat.le_of_ble_eq_true rfl)⟩ rfl rfl rfl rfl (Nat.le_of_ble_eq_true rfl) dX7_years_152 ⟨(Nat.le_of_ble_eq_true rfl), (Nat.le_of_ble_eq_true rfl)⟩ ?_
                refine lv_iadd hx hb dX7_years_155 ?_
                refine lv_eqi (nI_add a (arM (mgT f1 (doF (trF f1) 4 0 (nI (lotN (sdS sd1) - 27)))) 1)) ?_
                refine lv_istore_n (lv' := [(2, .int (nI (a + (arM (mgT f1 (doF (trF f1) 4 0 (nI (lotN (sdS sd1) - 27)))) 1)))), (4, .int (nI (lotN (sdS sd1)))), (3, .int (nI i)), (0, .ref h0), (1, .int x0)]) hx hb dX7_years_156 rfl hl (by decide) rfl (fun ls hl => ?_)
                have hpy : pyS (trF f1) (lotN (sdS sd1)) = trF ((mgT f1 (doF (trF f1) 4 0 (nI (lotN (sdS sd1) - 27))))) := by rw [mgT_tr]; unfold pyS; rw [if_neg (show ¬ lotN (sdS sd1) < 27 by omega), if_pos (show lotN (sdS sd1) < 30 by omega)]
                refine lv_iinc (v := (nI (i + 1))) (lv' := [(3, .int (nI (i + 1))), (2, .int (nI (a + (arM (mgT f1 (doF (trF f1) 4 0 (nI (lotN (sdS sd1) - 27)))) 1)))), (4, .int (nI (lotN (sdS sd1)))), (0, .ref h0), (1, .int x0)]) hx hb dX7_years_157 hl (k := 2) rfl (nI_1 i) (by decide) rfl (fun ls hl => ?_)
                refine lv_goto (tgt := 23) hx hb dX7_years_160 (by decide) ?_
                exact ih_23 (i + 1) (a + (arM (mgT f1 (doF (trF f1) 4 0 (nI (lotN (sdS sd1) - 27)))) 1)) (sdS sd1) (mgT f1 (doF (trF f1) 4 0 (nI (lotN (sdS sd1) - 27)))) (by omega) (fun j hj => by rw [mg_live _ _ j hj]; exact h_v j hj) (by rw [yrS, h_y, arM_tr]; show (pyS (trF f1) (lotN (sdS sd1)), sdS sd1, a + areaN (pyS (trF f1) (lotN (sdS sd1)))) = _; rw [hpy]) (by omega) _ _ hP hD hS ls (lv_sub hl [0, 1, 3, 4] rfl)
            · skip
              refine lv_aload_n hx hb dX7_years_88 rfl (lv_at hl 3 rfl) ?_
              refine lv_bipush (v := 6) hx hb dX7_years_89 (by decide) ?_
              refine lv_iload hx hb dX7_years_91 (lv_at hl 0 rfl) ?_
              refine lv_bipush (v := 30) hx hb dX7_years_93 (by decide) ?_
              refine lv_isub hx hb dX7_years_95 ?_
              refine lv_eqi (pk_sub (a := lotN (sdS sd1)) (b := 30) (by omega)) ?_
              refine lv_iconst (v := 0) hx hb dX7_years_96 (by decide) ?_
              refine cVM_i (As := [.int 6, .int (nI (lotN (sdS sd1) - 30)), .int 0]) (rest := []) (q0 := 0) (wc := [(h0, .inr (6, [.ref d1, .int (nI ln), .long rd, .int xd, .int xq, .ref d2, .int (nI an), .int (nI nx), .ref d3, .ref d4, .ref d5, .ref d6, .int xm, .int (nI zn), .ref d7, .ref d8, .long (sdS sd1), .ref d9, .ref d0])), (d2, .inl (gJ g, 6, .inr (.inl f1)))]) (wr := []) hx hb hml hown hw hkn hS hl hA hP hD [0, 1] [] rfl rfl (by decide) (by decide) (by decide) (c_X7_tryThing l g _ h0 6 (nI (lotN (sdS sd1) - 30)) 0 d1 ln rd xd xq d2 an nx d3 d4 d5 d6 xm zn d7 d8 (sdS sd1) d9 d0 f1 ) vf_X7_tryThing mw_606 rfl rfl ⟨(Nat.le_of_ble_eq_true rfl), (Nat.le_of_ble_eq_true rfl)⟩ rfl rfl rfl rfl (Nat.le_of_ble_eq_true rfl) dX7_years_97 ⟨(Nat.le_of_ble_eq_true rfl), (Nat.le_of_ble_eq_true rfl)⟩ (fun r u H locs hq hP hD hS => ?_)
              have hq : r = (b2i (doB (trF f1) 6 (nI (lotN (sdS sd1) - 30)) 0)) := hq
              subst hq
              have hP : va_P g.1 vwCl [(h0, .inr (6, [.ref d1, .int (nI ln), .long rd, .int xd, .int xq, .ref d2, .int (nI an), .int (nI nx), .ref d3, .ref d4, .ref d5, .ref d6, .int xm, .int (nI zn), .ref d7, .ref d8, .long (sdS sd1), .ref d9, .ref d0])), (d2, .inl (gJ g, 6, .inr (.inl (mgT f1 (doF (trF f1) 6 (nI (lotN (sdS sd1) - 30)) 0)))))] H := hP.sub [0, 1] rfl
              have hD : va_D A [(h0, .inr (6, [.ref d1, .int (nI ln), .long rd, .int xd, .int xq, .ref d2, .int (nI an), .int (nI nx), .ref d3, .ref d4, .ref d5, .ref d6, .int xm, .int (nI zn), .ref d7, .ref d8, .long (sdS sd1), .ref d9, .ref d0])), (d2, .inl (gJ g, 6, .inr (.inl (mgT f1 (doF (trF f1) 6 (nI (lotN (sdS sd1) - 30)) 0)))))] := hD.sub [0, 1] (by decide) rfl
              refine lv_pop hx hb dX7_years_100 rfl ?_
              refine lv_goto (tgt := 149) hx hb dX7_years_101 (by decide) ?_
              refine lv_iload_n hx hb dX7_years_149 rfl (lv_at hl 2 rfl) ?_
              refine lv_aload_n hx hb dX7_years_150 rfl (lv_at hl 3 rfl) ?_
              refine lv_iconst (v := 1) hx hb dX7_years_151 (by decide) ?_
              refine cV_i (As := [.int 1]) (rest := [.int (nI a)]) hx hb hml hown hw hkn hS hl (c_X7_areaOf l g _ h0 1 d1 ln rd xd xq d2 an nx d3 d4 d5 d6 xm zn d7 d8 (sdS sd1) d9 d0 (mgT f1 (doF (trF f1) 6 (nI (lotN (sdS sd1) - 30)) 0)) (by omega) (hP.sub [0, 1] rfl)) vf_X7_areaOf mw_782 (va_recv hkn.1 hP (ci := 6) (q0 := 0) rfl rfl) ⟨(Nat.le_of_ble_eq_true rfl), (Nat.le_of_ble_eq_true rfl)⟩ rfl rfl rfl rfl (Nat.le_of_ble_eq_true rfl) dX7_years_152 ⟨(Nat.le_of_ble_eq_true rfl), (Nat.le_of_ble_eq_true rfl)⟩ ?_
              refine lv_iadd hx hb dX7_years_155 ?_
              refine lv_eqi (nI_add a (arM (mgT f1 (doF (trF f1) 6 (nI (lotN (sdS sd1) - 30)) 0)) 1)) ?_
              refine lv_istore_n (lv' := [(2, .int (nI (a + (arM (mgT f1 (doF (trF f1) 6 (nI (lotN (sdS sd1) - 30)) 0)) 1)))), (4, .int (nI (lotN (sdS sd1)))), (3, .int (nI i)), (0, .ref h0), (1, .int x0)]) hx hb dX7_years_156 rfl hl (by decide) rfl (fun ls hl => ?_)
              have hpy : pyS (trF f1) (lotN (sdS sd1)) = trF ((mgT f1 (doF (trF f1) 6 (nI (lotN (sdS sd1) - 30)) 0))) := by rw [mgT_tr]; unfold pyS; rw [if_neg (show ¬ lotN (sdS sd1) < 27 by omega), if_neg (show ¬ lotN (sdS sd1) < 30 by omega), if_pos (show lotN (sdS sd1) < 33 by omega)]
              refine lv_iinc (v := (nI (i + 1))) (lv' := [(3, .int (nI (i + 1))), (2, .int (nI (a + (arM (mgT f1 (doF (trF f1) 6 (nI (lotN (sdS sd1) - 30)) 0)) 1)))), (4, .int (nI (lotN (sdS sd1)))), (0, .ref h0), (1, .int x0)]) hx hb dX7_years_157 hl (k := 2) rfl (nI_1 i) (by decide) rfl (fun ls hl => ?_)
              refine lv_goto (tgt := 23) hx hb dX7_years_160 (by decide) ?_
              exact ih_23 (i + 1) (a + (arM (mgT f1 (doF (trF f1) 6 (nI (lotN (sdS sd1) - 30)) 0)) 1)) (sdS sd1) (mgT f1 (doF (trF f1) 6 (nI (lotN (sdS sd1) - 30)) 0)) (by omega) (fun j hj => by rw [mg_live _ _ j hj]; exact h_v j hj) (by rw [yrS, h_y, arM_tr]; show (pyS (trF f1) (lotN (sdS sd1)), sdS sd1, a + areaN (pyS (trF f1) (lotN (sdS sd1)))) = _; rw [hpy]) (by omega) _ _ hP hD hS ls (lv_sub hl [0, 1, 3, 4] rfl)
          · skip
            refine lv_aload_n hx hb dX7_years_65 rfl (lv_at hl 3 rfl) ?_
            refine lv_bipush (v := 7) hx hb dX7_years_66 (by decide) ?_
            refine lv_iload hx hb dX7_years_68 (lv_at hl 0 rfl) ?_
            refine lv_bipush (v := 33) hx hb dX7_years_70 (by decide) ?_
            refine lv_isub hx hb dX7_years_72 ?_
            refine lv_eqi (pk_sub (a := lotN (sdS sd1)) (b := 33) (by omega)) ?_
            refine lv_iconst (v := 0) hx hb dX7_years_73 (by decide) ?_
            refine cVM_i (As := [.int 7, .int (nI (lotN (sdS sd1) - 33)), .int 0]) (rest := []) (q0 := 0) (wc := [(h0, .inr (6, [.ref d1, .int (nI ln), .long rd, .int xd, .int xq, .ref d2, .int (nI an), .int (nI nx), .ref d3, .ref d4, .ref d5, .ref d6, .int xm, .int (nI zn), .ref d7, .ref d8, .long (sdS sd1), .ref d9, .ref d0])), (d2, .inl (gJ g, 6, .inr (.inl f1)))]) (wr := []) hx hb hml hown hw hkn hS hl hA hP hD [0, 1] [] rfl rfl (by decide) (by decide) (by decide) (c_X7_tryThing l g _ h0 7 (nI (lotN (sdS sd1) - 33)) 0 d1 ln rd xd xq d2 an nx d3 d4 d5 d6 xm zn d7 d8 (sdS sd1) d9 d0 f1 ) vf_X7_tryThing mw_606 rfl rfl ⟨(Nat.le_of_ble_eq_true rfl), (Nat.le_of_ble_eq_true rfl)⟩ rfl rfl rfl rfl (Nat.le_of_ble_eq_true rfl) dX7_years_74 ⟨(Nat.le_of_ble_eq_true rfl), (Nat.le_of_ble_eq_true rfl)⟩ (fun r u H locs hq hP hD hS => ?_)
            have hq : r = (b2i (doB (trF f1) 7 (nI (lotN (sdS sd1) - 33)) 0)) := hq
            subst hq
            have hP : va_P g.1 vwCl [(h0, .inr (6, [.ref d1, .int (nI ln), .long rd, .int xd, .int xq, .ref d2, .int (nI an), .int (nI nx), .ref d3, .ref d4, .ref d5, .ref d6, .int xm, .int (nI zn), .ref d7, .ref d8, .long (sdS sd1), .ref d9, .ref d0])), (d2, .inl (gJ g, 6, .inr (.inl (mgT f1 (doF (trF f1) 7 (nI (lotN (sdS sd1) - 33)) 0)))))] H := hP.sub [0, 1] rfl
            have hD : va_D A [(h0, .inr (6, [.ref d1, .int (nI ln), .long rd, .int xd, .int xq, .ref d2, .int (nI an), .int (nI nx), .ref d3, .ref d4, .ref d5, .ref d6, .int xm, .int (nI zn), .ref d7, .ref d8, .long (sdS sd1), .ref d9, .ref d0])), (d2, .inl (gJ g, 6, .inr (.inl (mgT f1 (doF (trF f1) 7 (nI (lotN (sdS sd1) - 33)) 0)))))] := hD.sub [0, 1] (by decide) rfl
            refine lv_pop hx hb dX7_years_77 rfl ?_
            refine lv_goto (tgt := 149) hx hb dX7_years_78 (by decide) ?_
            refine lv_iload_n hx hb dX7_years_149 rfl (lv_at hl 2 rfl) ?_
            refine lv_aload_n hx hb dX7_years_150 rfl (lv_at hl 3 rfl) ?_
            refine lv_iconst (v := 1) hx hb dX7_years_151 (by decide) ?_
            refine cV_i (As := [.int 1]) (rest := [.int (nI a)]) hx hb hml hown hw hkn hS hl (c_X7_areaOf l g _ h0 1 d1 ln rd xd xq d2 an nx d3 d4 d5 d6 xm zn d7 d8 (sdS sd1) d9 d0 (mgT f1 (doF (trF f1) 7 (nI (lotN (sdS sd1) - 33)) 0)) (by omega) (hP.sub [0, 1] rfl)) vf_X7_areaOf mw_782 (va_recv hkn.1 hP (ci := 6) (q0 := 0) rfl rfl) ⟨(Nat.le_of_ble_eq_true rfl), (Nat.le_of_ble_eq_true rfl)⟩ rfl rfl rfl rfl (Nat.le_of_ble_eq_true rfl) dX7_years_152 ⟨(Nat.le_of_ble_eq_true rfl), (Nat.le_of_ble_eq_true rfl)⟩ ?_
            refine lv_iadd hx hb dX7_years_155 ?_
            refine lv_eqi (nI_add a (arM (mgT f1 (doF (trF f1) 7 (nI (lotN (sdS sd1) - 33)) 0)) 1)) ?_
            refine lv_istore_n (lv' := [(2, .int (nI (a + (arM (mgT f1 (doF (trF f1) 7 (nI (lotN (sdS sd1) - 33)) 0)) 1)))), (4, .int (nI (lotN (sdS sd1)))), (3, .int (nI i)), (0, .ref h0), (1, .int x0)]) hx hb dX7_years_156 rfl hl (by decide) rfl (fun ls hl => ?_)
            have hpy : pyS (trF f1) (lotN (sdS sd1)) = trF ((mgT f1 (doF (trF f1) 7 (nI (lotN (sdS sd1) - 33)) 0))) := by rw [mgT_tr]; unfold pyS; rw [if_neg (show ¬ lotN (sdS sd1) < 27 by omega), if_neg (show ¬ lotN (sdS sd1) < 30 by omega), if_neg (show ¬ lotN (sdS sd1) < 33 by omega)]
            refine lv_iinc (v := (nI (i + 1))) (lv' := [(3, .int (nI (i + 1))), (2, .int (nI (a + (arM (mgT f1 (doF (trF f1) 7 (nI (lotN (sdS sd1) - 33)) 0)) 1)))), (4, .int (nI (lotN (sdS sd1)))), (0, .ref h0), (1, .int x0)]) hx hb dX7_years_157 hl (k := 2) rfl (nI_1 i) (by decide) rfl (fun ls hl => ?_)
            refine lv_goto (tgt := 23) hx hb dX7_years_160 (by decide) ?_
            exact ih_23 (i + 1) (a + (arM (mgT f1 (doF (trF f1) 7 (nI (lotN (sdS sd1) - 33)) 0)) 1)) (sdS sd1) (mgT f1 (doF (trF f1) 7 (nI (lotN (sdS sd1) - 33)) 0)) (by omega) (fun j hj => by rw [mg_live _ _ j hj]; exact h_v j hj) (by rw [yrS, h_y, arM_tr]; show (pyS (trF f1) (lotN (sdS sd1)), sdS sd1, a + areaN (pyS (trF f1) (lotN (sdS sd1)))) = _; rw [hpy]) (by omega) _ _ hP hD hS ls (lv_sub hl [0, 1, 3, 4] rfl)
    exact lp_23 (x9 + 1) 0 0 sd (ltF nw) (by omega) (lt_live nw) (rfl) (by omega) _ _ hP hD hS ls (lv_sub hl [0, 1, 2, 3] rfl)
  · skip
    refine lv_bipush (v := (-2)) hx hb dX7_years_12 (by decide) ?_
    have eb : qYrB x0 = false := (yr_b x0).symm.trans c_1
    exact eM_i (g := g) hx hb hr hlocks nw (⟨by rw [eb]; rfl, fun _ _ => rfl⟩) (show va_P g.1 vwCl [(h0, .inr (6, [.ref d1, .int (nI ln), .long rd, .int xd, .int xq, .ref d2, .int (nI an), .int (nI nx), .ref d3, .ref d4, .ref d5, .ref d6, .int xm, .int (nI zn), .ref d7, .ref d8, .long (cond (qYrB x0) (yrS (trF (ltF nw)) sd x0.toNatClampNeg).2.1 sd), .ref d9, .ref d0])), (d2, .inl (gJ g, 6, .inr (.inl nw)))] H by rw [eb]; exact hP.sub [0, 1] rfl) (show va_D A [(h0, .inr (6, [.ref d1, .int (nI ln), .long rd, .int xd, .int xq, .ref d2, .int (nI an), .int (nI nx), .ref d3, .ref d4, .ref d5, .ref d6, .int xm, .int (nI zn), .ref d7, .ref d8, .long (cond (qYrB x0) (yrS (trF (ltF nw)) sd x0.toNatClampNeg).2.1 sd), .ref d9, .ref d0])), (d2, .inl (gJ g, 6, .inr (.inl nw)))] by rw [eb]; exact hD.sub [0, 1] (by decide) rfl) hS dX7_years_14
set_option maxHeartbeats 4000000 in
set_option maxRecDepth 100000 in
theorem c_X7_keep (l : Launch) (g : GG) (sz : Nat) (h0 : Nat) (x0 : Int32) (d1 : Nat) (ln : Nat) (rd : Int64) (xd : Int32) (xq : Int32) (d2 : Nat) (an : Nat) (nx : Nat) (d3 : Nat) (d4 : Nat) (d5 : Nat) (d6 : Nat) (xm : Int32) (zn : Nat) (d7 : Nat) (d8 : Nat) (sd : Int64) (d9 : Nat) (d0 : Nat) (nw : Nat → Int64) (ik : Nat → Int32) (kp : Nat → Int64)  : Met l yX7_keep (Cond.code yX7_keep cX7_keep 3 (some .int) :: wsL_law) ({ frames := 2, cells := 0, slots := 0, locals := 45 }) (PM g [.ref h0, .int x0] [(h0, .inr (6, [.ref d1, .int (nI ln), .long rd, .int xd, .int xq, .ref d2, .int (nI an), .int (nI nx), .ref d3, .ref d4, .ref d5, .ref d6, .int xm, .int (nI zn), .ref d7, .ref d8, .long sd, .ref d9, .ref d0])), (d2, .inl (gJ g, 6, .inr (.inl nw))), (d9, .inl (gZ g, 2, .inl ik)), (d0, .inl (gJ g, 6, .inr (.inl kp)))] sz) (QAi g (fun (r : Int32) (u : Unit) => r = (if is01 x0 = true then nI (areaN nw) else -1)) (fun (u : Unit) => [(h0, .inr (6, [.ref d1, .int (nI ln), .long rd, .int xd, .int xq, .ref d2, .int (nI an), .int (nI nx), .ref d3, .ref d4, .ref d5, .ref d6, .int xm, .int (nI zn), .ref d7, .ref d8, .long sd, .ref d9, .ref d0])), (d2, .inl (gJ g, 6, .inr (.inl nw))), (d9, .inl (gZ g, 2, .inl (cond (is01 x0) (upd ik x0.toNatClampNeg 1) ik))), (d0, .inl (gJ g, 6, .inr (.inl (cond (is01 x0) (kpF x0.toNatClampNeg nw kp) kp))))]) (va_A [(h0, .inr (6, [.ref d1, .int (nI ln), .long rd, .int xd, .int xq, .ref d2, .int (nI an), .int (nI nx), .ref d3, .ref d4, .ref d5, .ref d6, .int xm, .int (nI zn), .ref d7, .ref d8, .long sd, .ref d9, .ref d0])), (d2, .inl (gJ g, 6, .inr (.inl nw))), (d9, .inl (gZ g, 2, .inl ik)), (d0, .inl (gJ g, 6, .inr (.inl kp)))] sz)) 0 0 (va_A [(h0, .inr (6, [.ref d1, .int (nI ln), .long rd, .int xd, .int xq, .ref d2, .int (nI an), .int (nI nx), .ref d3, .ref d4, .ref d5, .ref d6, .int xm, .int (nI zn), .ref d7, .ref d8, .long sd, .ref d9, .ref d0])), (d2, .inl (gJ g, 6, .inr (.inl nw))), (d9, .inl (gZ g, 2, .inl ik)), (d0, .inl (gJ g, 6, .inr (.inl kp)))] sz) := by
  refine Met.M (Qc := fun A => QAi g (fun (r : Int32) (u : Unit) => r = (if is01 x0 = true then nI (areaN nw) else -1)) (fun (u : Unit) => [(h0, .inr (6, [.ref d1, .int (nI ln), .long rd, .int xd, .int xq, .ref d2, .int (nI an), .int (nI nx), .ref d3, .ref d4, .ref d5, .ref d6, .int xm, .int (nI zn), .ref d7, .ref d8, .long sd, .ref d9, .ref d0])), (d2, .inl (gJ g, 6, .inr (.inl nw))), (d9, .inl (gZ g, 2, .inl (cond (is01 x0) (upd ik x0.toNatClampNeg 1) ik))), (d0, .inl (gJ g, 6, .inr (.inl (cond (is01 x0) (kpF x0.toNatClampNeg nw kp) kp))))]) A) (by decide) (Nat.le_of_ble_eq_true rfl) rfl ?_
  intro p e s m below meth c hx hb hr hml hw hown hlocks hin A hA hkn hP hD ls hl
  have hl : lv_has ls 3 [(0, .ref h0), (1, .int x0)] := hl
  have hS : va_S A s.heap s.heap [] := va_S.rf
  obtain ⟨H, hHe⟩ : ∃ H, H = s.heap := ⟨_, rfl⟩
  obtain ⟨locs, hLe⟩ : ∃ locs : List Loc, locs = [] := ⟨_, rfl⟩
  have hP : va_P g.1 vwCl [(h0, .inr (6, [.ref d1, .int (nI ln), .long rd, .int xd, .int xq, .ref d2, .int (nI an), .int (nI nx), .ref d3, .ref d4, .ref d5, .ref d6, .int xm, .int (nI zn), .ref d7, .ref d8, .long sd, .ref d9, .ref d0])), (d2, .inl (gJ g, 6, .inr (.inl nw))), (d9, .inl (gZ g, 2, .inl ik)), (d0, .inl (gJ g, 6, .inr (.inl kp)))] H := by rw [hHe]; exact hP
  have hS : va_S A s.heap H locs := by rw [hHe, hLe]; exact hS
  have hgo : W p l e ({ frames := 2, cells := 0, slots := 0, locals := 45 } : Room) s m ([.ref h0, .int x0] : List Value).toArray below meth c H locs 0 0 (MQ below (QAi g (fun (r : Int32) (u : Unit) => r = (if is01 x0 = true then nI (areaN nw) else -1)) (fun (u : Unit) => [(h0, .inr (6, [.ref d1, .int (nI ln), .long rd, .int xd, .int xq, .ref d2, .int (nI an), .int (nI nx), .ref d3, .ref d4, .ref d5, .ref d6, .int xm, .int (nI zn), .ref d7, .ref d8, .long sd, .ref d9, .ref d0])), (d2, .inl (gJ g, 6, .inr (.inl nw))), (d9, .inl (gZ g, 2, .inl (cond (is01 x0) (upd ik x0.toNatClampNeg 1) ik))), (d0, .inl (gJ g, 6, .inr (.inl (cond (is01 x0) (kpF x0.toNatClampNeg nw kp) kp))))]) A) ([.ref h0, .int x0] : List Value).toArray s 0 0 A) (F0 m 0 ls []) := ?_
  · rw [hHe, hLe] at hgo; exact hgo
  clear hHe hLe
  refine lv_iload_n hx hb dX7_keep_0 rfl (lv_at hl 1 rfl) ?_
  refine lv_i2l hx hb dX7_keep_1 rfl ?_
  refine lv_lconst (v := 0) hx hb dX7_keep_2 rfl ?_
  refine lv_lconst (v := 1) hx hb dX7_keep_3 rfl ?_
  refine cS_i (As := [.long ((x0).toInt64), .long 0, .long 1]) (rest := []) hx hb hml hown hw hkn hS hl (c_X7_in l g _ ((x0).toInt64) 0 1 ) sf_X7_in mw_101 ⟨(Nat.le_of_ble_eq_true rfl), (Nat.le_of_ble_eq_true rfl)⟩ rfl rfl rfl rfl (Nat.le_of_ble_eq_true rfl) dX7_keep_4 ⟨(Nat.le_of_ble_eq_true rfl), (Nat.le_of_ble_eq_true rfl)⟩ ?_
  refine lv_eqi (show _ = b2i (is01 x0) from congrArg b2i (is01_in x0)) ?_
  refine lv_ifneB (b := is01 x0) (tgt := 12) hx hb dX7_keep_7 (by decide) (fun c_1 => ?_) (fun c_1 => ?_)
  · skip
    obtain ⟨x9, hx9, ex9⟩ := is01_of c_1
    have ec : x0.toNatClampNeg = x9 := by rw [ex9, nI_clamp (by omega)]
    refine lv_aload_n hx hb dX7_keep_12 rfl (lv_at hl 0 rfl) ?_
    refine va_get (D := g.1) (ci := 6) (v := .ref d9) (C := RX7) (T := TX7) (N := 19) hx hb hw inlX7 hown hkn.1 hP 0 rfl rfl 17 (by decide) (hw _ mw_81) (fun _ h9 => h9) rfl dX7_keep_13 ?_
    refine lv_iload_n hx hb dX7_keep_16 rfl (lv_at hl 1 rfl) ?_
    refine lv_eqi (show _ = (nI x9) from ex9) ?_
    refine lv_iconst (v := 1) hx hb dX7_keep_17 (by decide) ?_
    refine va_zast hx hb hkn.1 hP hD hS 2 2 rfl rfl (vp_in_nI (n := x9) (by omega) (by decide)) dX7_keep_18 (fun H locs hP hD hS => ?_)
    rw [nI_clamp (n := x9) (by omega)] at hP hD
    rw [show vp_nar .boolean 1 = 1 from rfl] at hP hD
    have hP : va_P g.1 vwCl [(h0, .inr (6, [.ref d1, .int (nI ln), .long rd, .int xd, .int xq, .ref d2, .int (nI an), .int (nI nx), .ref d3, .ref d4, .ref d5, .ref d6, .int xm, .int (nI zn), .ref d7, .ref d8, .long sd, .ref d9, .ref d0])), (d2, .inl (gJ g, 6, .inr (.inl nw))), (d9, .inl (gZ g, 2, .inl (upd ik x9 1))), (d0, .inl (gJ g, 6, .inr (.inl kp)))] H := hP
    have hD : va_D A [(h0, .inr (6, [.ref d1, .int (nI ln), .long rd, .int xd, .int xq, .ref d2, .int (nI an), .int (nI nx), .ref d3, .ref d4, .ref d5, .ref d6, .int xm, .int (nI zn), .ref d7, .ref d8, .long sd, .ref d9, .ref d0])), (d2, .inl (gJ g, 6, .inr (.inl nw))), (d9, .inl (gZ g, 2, .inl (upd ik x9 1))), (d0, .inl (gJ g, 6, .inr (.inl kp)))] := hD
    refine lv_iconst (v := 0) hx hb dX7_keep_19 (by decide) ?_
    refine lv_istore_n (lv' := [(2, .int 0), (0, .ref h0), (1, .int x0)]) hx hb dX7_keep_20 rfl hl (by decide) rfl (fun ls hl => ?_)
    have lp_21 : ∀ (n_21 : Nat) (i : Nat) (f1 : Nat → Int64), (i ≤ 3) → (f1 = fun t => if 3 * x9 ≤ t ∧ t < 3 * x9 + i then nw (t - 3 * x9) else kp t) → 3 < i + n_21 → ∀ (H : Heap) (locs : List Loc), va_P g.1 vwCl [(h0, .inr (6, [.ref d1, .int (nI ln), .long rd, .int xd, .int xq, .ref d2, .int (nI an), .int (nI nx), .ref d3, .ref d4, .ref d5, .ref d6, .int xm, .int (nI zn), .ref d7, .ref d8, .long sd, .ref d9, .ref d0])), (d2, .inl (gJ g, 6, .inr (.inl nw))), (d9, .inl (gZ g, 2, .inl (upd ik x9 1))), (d0, .inl (gJ g, 6, .inr (.inl f1)))] H → va_D A [(h0, .inr (6, [.ref d1, .int (nI ln), .long rd, .int xd, .int xq, .ref d2, .int (nI an), .int (nI nx), .ref d3, .ref d4, .ref d5, .ref d6, .int xm, .int (nI zn), .ref d7, .ref d8, .long sd, .ref d9, .ref d0])), (d2, .inl (gJ g, 6, .inr (.inl nw))), (d9, .inl (gZ g, 2, .inl (upd ik x9 1))), (d0, .inl (gJ g, 6, .inr (.inl f1)))] → va_S A s.heap H locs → ∀ (ls : Array Slot), lv_has ls 3 [(2, .int (nI i)), (0, .ref h0), (1, .int x0)] → W p l e ({ frames := 2, cells := 0, slots := 0, locals := 45 } : Room) s m ([.ref h0, .int x0] : List Value).toArray below meth c H locs 0 0 (MQ below (QAi g (fun (r : Int32) (u : Unit) => r = (if is01 x0 = true then nI (areaN nw) else -1)) (fun (u : Unit) => [(h0, .inr (6, [.ref d1, .int (nI ln), .long rd, .int xd, .int xq, .ref d2, .int (nI an), .int (nI nx), .ref d3, .ref d4, .ref d5, .ref d6, .int xm, .int (nI zn), .ref d7, .ref d8, .long sd, .ref d9, .ref d0])), (d2, .inl (gJ g, 6, .inr (.inl nw))), (d9, .inl (gZ g, 2, .inl (cond (is01 x0) (upd ik x0.toNatClampNeg 1) ik))), (d0, .inl (gJ g, 6, .inr (.inl (cond (is01 x0) (kpF x0.toNatClampNeg nw kp) kp))))]) A) ([.ref h0, .int x0] : List Value).toArray s 0 0 A) (F0 m 21 ls []) := by
      intro n_21
      induction n_21 with
      | zero => intro i f1 h_i h_f hfu_21; exact absurd hfu_21 (by omega)
      | succ n_21 ih_21 =>
        intro i f1 h_i h_f hfu_21 H locs hP hD hS ls hl
        refine lv_iload_n hx hb dX7_keep_21 rfl (lv_at hl 0 rfl) ?_
        refine lv_iconst (v := 3) hx hb dX7_keep_22 (by decide) ?_
        refine ic_ge (a := i) (d := 3) (tgt := 48) hx hb dX7_keep_23 (by decide) rfl rfl (by omega) (by omega) (fun c_2 => ?_) (fun c_2 => ?_)
        · skip
          refine lv_aload_n hx hb dX7_keep_48 rfl (lv_at hl 1 rfl) ?_
          refine lv_iconst (v := 0) hx hb dX7_keep_49 (by decide) ?_
          refine cV_i (As := [.int 0]) (rest := []) hx hb hml hown hw hkn hS hl (c_X7_areaOf l g _ h0 0 d1 ln rd xd xq d2 an nx d3 d4 d5 d6 xm zn d7 d8 sd d9 d0 nw (by omega) (hP.sub [0, 1] rfl)) vf_X7_areaOf mw_782 (va_recv hkn.1 hP (ci := 6) (q0 := 0) rfl rfl) ⟨(Nat.le_of_ble_eq_true rfl), (Nat.le_of_ble_eq_true rfl)⟩ rfl rfl rfl rfl (Nat.le_of_ble_eq_true rfl) dX7_keep_50 ⟨(Nat.le_of_ble_eq_true rfl), (Nat.le_of_ble_eq_true rfl)⟩ ?_
          obtain rfl : i = 3 := by omega
          subst h_f
          exact eM_i (g := g) hx hb hr hlocks () (by rw [c_1, arM_0]; rfl) (show va_P g.1 vwCl [(h0, .inr (6, [.ref d1, .int (nI ln), .long rd, .int xd, .int xq, .ref d2, .int (nI an), .int (nI nx), .ref d3, .ref d4, .ref d5, .ref d6, .int xm, .int (nI zn), .ref d7, .ref d8, .long sd, .ref d9, .ref d0])), (d2, .inl (gJ g, 6, .inr (.inl nw))), (d9, .inl (gZ g, 2, .inl (cond (is01 x0) (upd ik x0.toNatClampNeg 1) ik))), (d0, .inl (gJ g, 6, .inr (.inl (cond (is01 x0) (kpF x0.toNatClampNeg nw kp) kp))))] H by rw [c_1, ec]; exact hP.sub [0, 1, 2, 3] rfl) (show va_D A [(h0, .inr (6, [.ref d1, .int (nI ln), .long rd, .int xd, .int xq, .ref d2, .int (nI an), .int (nI nx), .ref d3, .ref d4, .ref d5, .ref d6, .int xm, .int (nI zn), .ref d7, .ref d8, .long sd, .ref d9, .ref d0])), (d2, .inl (gJ g, 6, .inr (.inl nw))), (d9, .inl (gZ g, 2, .inl (cond (is01 x0) (upd ik x0.toNatClampNeg 1) ik))), (d0, .inl (gJ g, 6, .inr (.inl (cond (is01 x0) (kpF x0.toNatClampNeg nw kp) kp))))] by rw [c_1, ec]; exact hD.sub [0, 1, 2, 3] (by decide) rfl) hS dX7_keep_53
        · skip
          refine lv_aload_n hx hb dX7_keep_26 rfl (lv_at hl 1 rfl) ?_
          refine va_get (D := g.1) (ci := 6) (v := .ref d0) (C := RX7) (T := TX7) (N := 19) hx hb hw inlX7 hown hkn.1 hP 0 rfl rfl 18 (by decide) (hw _ mw_82) (fun _ h9 => h9) rfl dX7_keep_27 ?_
          refine lv_iconst (v := 3) hx hb dX7_keep_30 (by decide) ?_
          refine lv_iload_n hx hb dX7_keep_31 rfl (lv_at hl 2 rfl) ?_
          refine lv_eqi (show _ = (nI x9) from ex9) ?_
          refine lv_imul hx hb dX7_keep_32 ?_
          refine lv_eqi (pk_mul 3 x9) ?_
          refine lv_iload_n hx hb dX7_keep_33 rfl (lv_at hl 0 rfl) ?_
          refine lv_iadd hx hb dX7_keep_34 ?_
          refine lv_eqi (nI_add (3 * x9) i) ?_
          refine lv_aload_n hx hb dX7_keep_35 rfl (lv_at hl 1 rfl) ?_
          refine va_get (D := g.1) (ci := 6) (v := .ref d2) (C := RX7) (T := TX7) (N := 19) hx hb hw inlX7 hown hkn.1 hP 0 rfl rfl 5 (by decide) (hw _ mw_74) (fun _ h9 => h9) rfl dX7_keep_36 ?_
          refine lv_iload_n hx hb dX7_keep_39 rfl (lv_at hl 0 rfl) ?_
          refine va_lald hx hb hkn.1 hP 1 1 rfl rfl (vp_in_nI (n := i) (by omega) (by decide)) dX7_keep_40 ?_
          refine lv_eql (show _ = nw i by rw [nI_clamp (n := i) (by omega)]) ?_
          refine va_last hx hb hkn.1 hP hD hS 3 1 rfl rfl (vp_in_nI (n := 3 * x9 + i) (by omega) (by decide)) dX7_keep_41 (fun H locs hP hD hS => ?_)
          rw [nI_clamp (n := 3 * x9 + i) (by omega)] at hP hD
          have hP : va_P g.1 vwCl [(h0, .inr (6, [.ref d1, .int (nI ln), .long rd, .int xd, .int xq, .ref d2, .int (nI an), .int (nI nx), .ref d3, .ref d4, .ref d5, .ref d6, .int xm, .int (nI zn), .ref d7, .ref d8, .long sd, .ref d9, .ref d0])), (d2, .inl (gJ g, 6, .inr (.inl nw))), (d9, .inl (gZ g, 2, .inl (upd ik x9 1))), (d0, .inl (gJ g, 6, .inr (.inl (vp_updL f1 (3 * x9 + i) (nw i)))))] H := hP
          have hD : va_D A [(h0, .inr (6, [.ref d1, .int (nI ln), .long rd, .int xd, .int xq, .ref d2, .int (nI an), .int (nI nx), .ref d3, .ref d4, .ref d5, .ref d6, .int xm, .int (nI zn), .ref d7, .ref d8, .long sd, .ref d9, .ref d0])), (d2, .inl (gJ g, 6, .inr (.inl nw))), (d9, .inl (gZ g, 2, .inl (upd ik x9 1))), (d0, .inl (gJ g, 6, .inr (.inl (vp_updL f1 (3 * x9 + i) (nw i)))))] := hD
          refine lv_iinc (v := (nI (i + 1))) (lv' := [(2, .int (nI (i + 1))), (0, .ref h0), (1, .int x0)]) hx hb dX7_keep_42 hl (k := 0) rfl (nI_1 i) (by decide) rfl (fun ls hl => ?_)
          refine lv_goto (tgt := 21) hx hb dX7_keep_45 (by decide) ?_
          exact ih_21 (i + 1) (vp_updL f1 (3 * x9 + i) (nw i)) (by omega) (by rw [h_f]; exact kp_step) (by omega) _ _ hP hD hS ls (lv_sub hl [0, 1, 2] rfl)
    exact lp_21 4 0 kp (by omega) (by funext t; rw [if_neg (by omega)]) (by omega) _ _ hP hD hS ls (lv_sub hl [0, 1, 2] rfl)
  · skip
    refine lv_iconst (v := (-1)) hx hb dX7_keep_10 (by decide) ?_
    exact eM_i (g := g) hx hb hr hlocks () (by rw [c_1]; rfl) (show va_P g.1 vwCl [(h0, .inr (6, [.ref d1, .int (nI ln), .long rd, .int xd, .int xq, .ref d2, .int (nI an), .int (nI nx), .ref d3, .ref d4, .ref d5, .ref d6, .int xm, .int (nI zn), .ref d7, .ref d8, .long sd, .ref d9, .ref d0])), (d2, .inl (gJ g, 6, .inr (.inl nw))), (d9, .inl (gZ g, 2, .inl (cond (is01 x0) (upd ik x0.toNatClampNeg 1) ik))), (d0, .inl (gJ g, 6, .inr (.inl (cond (is01 x0) (kpF x0.toNatClampNeg nw kp) kp))))] H by rw [c_1]; exact hP.sub [0, 1, 2, 3] rfl) (show va_D A [(h0, .inr (6, [.ref d1, .int (nI ln), .long rd, .int xd, .int xq, .ref d2, .int (nI an), .int (nI nx), .ref d3, .ref d4, .ref d5, .ref d6, .int xm, .int (nI zn), .ref d7, .ref d8, .long sd, .ref d9, .ref d0])), (d2, .inl (gJ g, 6, .inr (.inl nw))), (d9, .inl (gZ g, 2, .inl (cond (is01 x0) (upd ik x0.toNatClampNeg 1) ik))), (d0, .inl (gJ g, 6, .inr (.inl (cond (is01 x0) (kpF x0.toNatClampNeg nw kp) kp))))] by rw [c_1]; exact hD.sub [0, 1, 2, 3] (by decide) rfl) hS dX7_keep_11
set_option maxHeartbeats 4000000 in
set_option maxRecDepth 100000 in
theorem c_X7_again (l : Launch) (g : GG) (sz : Nat) (h0 : Nat) (x0 : Int32) (d1 : Nat) (ln : Nat) (rd : Int64) (xd : Int32) (xq : Int32) (d2 : Nat) (an : Nat) (nx : Nat) (d3 : Nat) (d4 : Nat) (d5 : Nat) (d6 : Nat) (xm : Int32) (zn : Nat) (d7 : Nat) (d8 : Nat) (sd : Int64) (d9 : Nat) (d0 : Nat) (nw : Nat → Int64) (ik : Nat → Int32) (kp : Nat → Int64)  : Met l yX7_again (Cond.code yX7_again cX7_again 3 (some .int) :: wsL_law) ({ frames := 2, cells := 0, slots := 0, locals := 45 }) (PM g [.ref h0, .int x0] [(h0, .inr (6, [.ref d1, .int (nI ln), .long rd, .int xd, .int xq, .ref d2, .int (nI an), .int (nI nx), .ref d3, .ref d4, .ref d5, .ref d6, .int xm, .int (nI zn), .ref d7, .ref d8, .long sd, .ref d9, .ref d0])), (d2, .inl (gJ g, 6, .inr (.inl nw))), (d9, .inl (gZ g, 2, .inl ik)), (d0, .inl (gJ g, 6, .inr (.inl kp)))] sz) (QAi g (fun (r : Int32) (u : Unit) => r = (if is01 x0 = true then (if ik x0.toNatClampNeg = 0 then -3 else nI (areaN (agF x0.toNatClampNeg kp nw))) else -1)) (fun (u : Unit) => [(h0, .inr (6, [.ref d1, .int (nI ln), .long rd, .int xd, .int xq, .ref d2, .int (nI (cond (is01 x0 && !decide (ik x0.toNatClampNeg = 0)) 0 an)), .int (nI nx), .ref d3, .ref d4, .ref d5, .ref d6, .int xm, .int (nI zn), .ref d7, .ref d8, .long sd, .ref d9, .ref d0])), (d2, .inl (gJ g, 6, .inr (.inl (cond (is01 x0 && !decide (ik x0.toNatClampNeg = 0)) (agF x0.toNatClampNeg kp nw) nw)))), (d9, .inl (gZ g, 2, .inl ik)), (d0, .inl (gJ g, 6, .inr (.inl kp)))]) (va_A [(h0, .inr (6, [.ref d1, .int (nI ln), .long rd, .int xd, .int xq, .ref d2, .int (nI an), .int (nI nx), .ref d3, .ref d4, .ref d5, .ref d6, .int xm, .int (nI zn), .ref d7, .ref d8, .long sd, .ref d9, .ref d0])), (d2, .inl (gJ g, 6, .inr (.inl nw))), (d9, .inl (gZ g, 2, .inl ik)), (d0, .inl (gJ g, 6, .inr (.inl kp)))] sz)) 0 0 (va_A [(h0, .inr (6, [.ref d1, .int (nI ln), .long rd, .int xd, .int xq, .ref d2, .int (nI an), .int (nI nx), .ref d3, .ref d4, .ref d5, .ref d6, .int xm, .int (nI zn), .ref d7, .ref d8, .long sd, .ref d9, .ref d0])), (d2, .inl (gJ g, 6, .inr (.inl nw))), (d9, .inl (gZ g, 2, .inl ik)), (d0, .inl (gJ g, 6, .inr (.inl kp)))] sz) := by
  refine Met.M (Qc := fun A => QAi g (fun (r : Int32) (u : Unit) => r = (if is01 x0 = true then (if ik x0.toNatClampNeg = 0 then -3 else nI (areaN (agF x0.toNatClampNeg kp nw))) else -1)) (fun (u : Unit) => [(h0, .inr (6, [.ref d1, .int (nI ln), .long rd, .int xd, .int xq, .ref d2, .int (nI (cond (is01 x0 && !decide (ik x0.toNatClampNeg = 0)) 0 an)), .int (nI nx), .ref d3, .ref d4, .ref d5, .ref d6, .int xm, .int (nI zn), .ref d7, .ref d8, .long sd, .ref d9, .ref d0])), (d2, .inl (gJ g, 6, .inr (.inl (cond (is01 x0 && !decide (ik x0.toNatClampNeg = 0)) (agF x0.toNatClampNeg kp nw) nw)))), (d9, .inl (gZ g, 2, .inl ik)), (d0, .inl (gJ g, 6, .inr (.inl kp)))]) A) (by decide) (Nat.le_of_ble_eq_true rfl) rfl ?_
  intro p e s m below meth c hx hb hr hml hw hown hlocks hin A hA hkn hP hD ls hl
  have hl : lv_has ls 3 [(0, .ref h0), (1, .int x0)] := hl
  have hS : va_S A s.heap s.heap [] := va_S.rf
  obtain ⟨H, hHe⟩ : ∃ H, H = s.heap := ⟨_, rfl⟩
  obtain ⟨locs, hLe⟩ : ∃ locs : List Loc, locs = [] := ⟨_, rfl⟩
  have hP : va_P g.1 vwCl [(h0, .inr (6, [.ref d1, .int (nI ln), .long rd, .int xd, .int xq, .ref d2, .int (nI an), .int (nI nx), .ref d3, .ref d4, .ref d5, .ref d6, .int xm, .int (nI zn), .ref d7, .ref d8, .long sd, .ref d9, .ref d0])), (d2, .inl (gJ g, 6, .inr (.inl nw))), (d9, .inl (gZ g, 2, .inl ik)), (d0, .inl (gJ g, 6, .inr (.inl kp)))] H := by rw [hHe]; exact hP
  have hS : va_S A s.heap H locs := by rw [hHe, hLe]; exact hS
  have hgo : W p l e ({ frames := 2, cells := 0, slots := 0, locals := 45 } : Room) s m ([.ref h0, .int x0] : List Value).toArray below meth c H locs 0 0 (MQ below (QAi g (fun (r : Int32) (u : Unit) => r = (if is01 x0 = true then (if ik x0.toNatClampNeg = 0 then -3 else nI (areaN (agF x0.toNatClampNeg kp nw))) else -1)) (fun (u : Unit) => [(h0, .inr (6, [.ref d1, .int (nI ln), .long rd, .int xd, .int xq, .ref d2, .int (nI (cond (is01 x0 && !decide (ik x0.toNatClampNeg = 0)) 0 an)), .int (nI nx), .ref d3, .ref d4, .ref d5, .ref d6, .int xm, .int (nI zn), .ref d7, .ref d8, .long sd, .ref d9, .ref d0])), (d2, .inl (gJ g, 6, .inr (.inl (cond (is01 x0 && !decide (ik x0.toNatClampNeg = 0)) (agF x0.toNatClampNeg kp nw) nw)))), (d9, .inl (gZ g, 2, .inl ik)), (d0, .inl (gJ g, 6, .inr (.inl kp)))]) A) ([.ref h0, .int x0] : List Value).toArray s 0 0 A) (F0 m 0 ls []) := ?_
  · rw [hHe, hLe] at hgo; exact hgo
  clear hHe hLe
  refine lv_iload_n hx hb dX7_again_0 rfl (lv_at hl 1 rfl) ?_
  refine lv_i2l hx hb dX7_again_1 rfl ?_
  refine lv_lconst (v := 0) hx hb dX7_again_2 rfl ?_
  refine lv_lconst (v := 1) hx hb dX7_again_3 rfl ?_
  refine cS_i (As := [.long ((x0).toInt64), .long 0, .long 1]) (rest := []) hx hb hml hown hw hkn hS hl (c_X7_in l g _ ((x0).toInt64) 0 1 ) sf_X7_in mw_101 ⟨(Nat.le_of_ble_eq_true rfl), (Nat.le_of_ble_eq_true rfl)⟩ rfl rfl rfl rfl (Nat.le_of_ble_eq_true rfl) dX7_again_4 ⟨(Nat.le_of_ble_eq_true rfl), (Nat.le_of_ble_eq_true rfl)⟩ ?_
  refine lv_eqi (show _ = b2i (is01 x0) from congrArg b2i (is01_in x0)) ?_
  refine lv_ifneB (b := is01 x0) (tgt := 12) hx hb dX7_again_7 (by decide) (fun c_1 => ?_) (fun c_1 => ?_)
  · skip
    obtain ⟨x9, hx9, ex9⟩ := is01_of c_1
    have ec : x0.toNatClampNeg = x9 := by rw [ex9, nI_clamp (by omega)]
    refine lv_aload_n hx hb dX7_again_12 rfl (lv_at hl 0 rfl) ?_
    refine va_get (D := g.1) (ci := 6) (v := .ref d9) (C := RX7) (T := TX7) (N := 19) hx hb hw inlX7 hown hkn.1 hP 0 rfl rfl 17 (by decide) (hw _ mw_81) (fun _ h9 => h9) rfl dX7_again_13 ?_
    refine lv_iload_n hx hb dX7_again_16 rfl (lv_at hl 1 rfl) ?_
    refine lv_eqi (show _ = (nI x9) from ex9) ?_
    refine va_zald hx hb hkn.1 hP 2 2 rfl rfl (vp_in_nI (n := x9) (by omega) (by decide)) dX7_again_17 ?_
    refine lv_eqi (show _ = ik x9 by rw [nI_clamp (n := x9) (by omega)]) ?_
    refine lv_if_ne (tgt := 24) hx hb dX7_again_18 (by decide) (fun c_2 => ?_) (fun c_2 => ?_)
    · skip
      refine lv_iconst (v := 0) hx hb dX7_again_24 (by decide) ?_
      refine lv_istore_n (lv' := [(2, .int 0), (0, .ref h0), (1, .int x0)]) hx hb dX7_again_25 rfl hl (by decide) rfl (fun ls hl => ?_)
      have lp_26 : ∀ (n_26 : Nat) (i : Nat) (f1 : Nat → Int64), (i ≤ 3) → (f1 = fun t => if t < i then kp (3 * x9 + t) else nw t) → 3 < i + n_26 → ∀ (H : Heap) (locs : List Loc), va_P g.1 vwCl [(h0, .inr (6, [.ref d1, .int (nI ln), .long rd, .int xd, .int xq, .ref d2, .int (nI an), .int (nI nx), .ref d3, .ref d4, .ref d5, .ref d6, .int xm, .int (nI zn), .ref d7, .ref d8, .long sd, .ref d9, .ref d0])), (d2, .inl (gJ g, 6, .inr (.inl f1))), (d9, .inl (gZ g, 2, .inl ik)), (d0, .inl (gJ g, 6, .inr (.inl kp)))] H → va_D A [(h0, .inr (6, [.ref d1, .int (nI ln), .long rd, .int xd, .int xq, .ref d2, .int (nI an), .int (nI nx), .ref d3, .ref d4, .ref d5, .ref d6, .int xm, .int (nI zn), .ref d7, .ref d8, .long sd, .ref d9, .ref d0])), (d2, .inl (gJ g, 6, .inr (.inl f1))), (d9, .inl (gZ g, 2, .inl ik)), (d0, .inl (gJ g, 6, .inr (.inl kp)))] → va_S A s.heap H locs → ∀ (ls : Array Slot), lv_has ls 3 [(2, .int (nI i)), (0, .ref h0), (1, .int x0)] → W p l e ({ frames := 2, cells := 0, slots := 0, locals := 45 } : Room) s m ([.ref h0, .int x0] : List Value).toArray below meth c H locs 0 0 (MQ below (QAi g (fun (r : Int32) (u : Unit) => r = (if is01 x0 = true then (if ik x0.toNatClampNeg = 0 then -3 else nI (areaN (agF x0.toNatClampNeg kp nw))) else -1)) (fun (u : Unit) => [(h0, .inr (6, [.ref d1, .int (nI ln), .long rd, .int xd, .int xq, .ref d2, .int (nI (cond (is01 x0 && !decide (ik x0.toNatClampNeg = 0)) 0 an)), .int (nI nx), .ref d3, .ref d4, .ref d5, .ref d6, .int xm, .int (nI zn), .ref d7, .ref d8, .long sd, .ref d9, .ref d0])), (d2, .inl (gJ g, 6, .inr (.inl (cond (is01 x0 && !decide (ik x0.toNatClampNeg = 0)) (agF x0.toNatClampNeg kp nw) nw)))), (d9, .inl (gZ g, 2, .inl ik)), (d0, .inl (gJ g, 6, .inr (.inl kp)))]) A) ([.ref h0, .int x0] : List Value).toArray s 0 0 A) (F0 m 26 ls []) := by
        intro n_26
        induction n_26 with
        | zero => intro i f1 h_i h_f hfu_26; exact absurd hfu_26 (by omega)
        | succ n_26 ih_26 =>
          intro i f1 h_i h_f hfu_26 H locs hP hD hS ls hl
          refine lv_iload_n hx hb dX7_again_26 rfl (lv_at hl 0 rfl) ?_
          refine lv_iconst (v := 3) hx hb dX7_again_27 (by decide) ?_
          refine ic_ge (a := i) (d := 3) (tgt := 53) hx hb dX7_again_28 (by decide) rfl rfl (by omega) (by omega) (fun c_3 => ?_) (fun c_3 => ?_)
          · skip
            refine lv_aload_n hx hb dX7_again_53 rfl (lv_at hl 1 rfl) ?_
            refine lv_iconst (v := 0) hx hb dX7_again_54 (by decide) ?_
            refine va_put (D := g.1) (ci := 6) (v := .int 0) (ty := .int) (C := RX7) (T := TX7) (N := 19) hx hb hw inlX7 tyX7 tyX7_ok nmX7 hown hkn.1 hP hD hS 0 rfl rfl 6 (by decide) (hw _ mw_253) (fun _ h9 => h9) rfl (by decide +kernel) rfl rfl (Nat.le_of_ble_eq_true rfl) dX7_again_55 (fun H locs hP hD hS => ?_)
            have hP : va_P g.1 vwCl [(h0, .inr (6, [.ref d1, .int (nI ln), .long rd, .int xd, .int xq, .ref d2, .int 0, .int (nI nx), .ref d3, .ref d4, .ref d5, .ref d6, .int xm, .int (nI zn), .ref d7, .ref d8, .long sd, .ref d9, .ref d0])), (d2, .inl (gJ g, 6, .inr (.inl f1))), (d9, .inl (gZ g, 2, .inl ik)), (d0, .inl (gJ g, 6, .inr (.inl kp)))] H := hP
            have hD : va_D A [(h0, .inr (6, [.ref d1, .int (nI ln), .long rd, .int xd, .int xq, .ref d2, .int 0, .int (nI nx), .ref d3, .ref d4, .ref d5, .ref d6, .int xm, .int (nI zn), .ref d7, .ref d8, .long sd, .ref d9, .ref d0])), (d2, .inl (gJ g, 6, .inr (.inl f1))), (d9, .inl (gZ g, 2, .inl ik)), (d0, .inl (gJ g, 6, .inr (.inl kp)))] := hD
            refine lv_aload_n hx hb dX7_again_58 rfl (lv_at hl 1 rfl) ?_
            refine lv_iconst (v := 0) hx hb dX7_again_59 (by decide) ?_
            refine cV_i (As := [.int 0]) (rest := []) hx hb hml hown hw hkn hS hl (c_X7_areaOf l g _ h0 0 d1 ln rd xd xq d2 0 nx d3 d4 d5 d6 xm zn d7 d8 sd d9 d0 f1 (by omega) (hP.sub [0, 1] rfl)) vf_X7_areaOf mw_782 (va_recv hkn.1 hP (ci := 6) (q0 := 0) rfl rfl) ⟨(Nat.le_of_ble_eq_true rfl), (Nat.le_of_ble_eq_true rfl)⟩ rfl rfl rfl rfl (Nat.le_of_ble_eq_true rfl) dX7_again_60 ⟨(Nat.le_of_ble_eq_true rfl), (Nat.le_of_ble_eq_true rfl)⟩ ?_
            have eb : (is01 x0 && !decide (ik x0.toNatClampNeg = 0)) = true := by rw [c_1, ec, decide_eq_false c_2]; rfl
            obtain rfl : i = 3 := by omega
            subst h_f
            exact eM_i (g := g) hx hb hr hlocks () (by rw [c_1, ec, if_pos rfl, if_neg c_2, arM_0]; rfl) (show va_P g.1 vwCl [(h0, .inr (6, [.ref d1, .int (nI ln), .long rd, .int xd, .int xq, .ref d2, .int (nI (cond (is01 x0 && !decide (ik x0.toNatClampNeg = 0)) 0 an)), .int (nI nx), .ref d3, .ref d4, .ref d5, .ref d6, .int xm, .int (nI zn), .ref d7, .ref d8, .long sd, .ref d9, .ref d0])), (d2, .inl (gJ g, 6, .inr (.inl (cond (is01 x0 && !decide (ik x0.toNatClampNeg = 0)) (agF x0.toNatClampNeg kp nw) nw)))), (d9, .inl (gZ g, 2, .inl ik)), (d0, .inl (gJ g, 6, .inr (.inl kp)))] H by rw [eb, ec]; exact hP.sub [0, 1, 2, 3] rfl) (show va_D A [(h0, .inr (6, [.ref d1, .int (nI ln), .long rd, .int xd, .int xq, .ref d2, .int (nI (cond (is01 x0 && !decide (ik x0.toNatClampNeg = 0)) 0 an)), .int (nI nx), .ref d3, .ref d4, .ref d5, .ref d6, .int xm, .int (nI zn), .ref d7, .ref d8, .long sd, .ref d9, .ref d0])), (d2, .inl (gJ g, 6, .inr (.inl (cond (is01 x0 && !decide (ik x0.toNatClampNeg = 0)) (agF x0.toNatClampNeg kp nw) nw)))), (d9, .inl (gZ g, 2, .inl ik)), (d0, .inl (gJ g, 6, .inr (.inl kp)))] by rw [eb, ec]; exact hD.sub [0, 1, 2, 3] (by decide) rfl) hS dX7_again_63
          · skip
            refine lv_aload_n hx hb dX7_again_31 rfl (lv_at hl 1 rfl) ?_
            refine va_get (D := g.1) (ci := 6) (v := .ref d2) (C := RX7) (T := TX7) (N := 19) hx hb hw inlX7 hown hkn.1 hP 0 rfl rfl 5 (by decide) (hw _ mw_74) (fun _ h9 => h9) rfl dX7_again_32 ?_
            refine lv_iload_n hx hb dX7_again_35 rfl (lv_at hl 0 rfl) ?_
            refine lv_aload_n hx hb dX7_again_36 rfl (lv_at hl 1 rfl) ?_
            refine va_get (D := g.1) (ci := 6) (v := .ref d0) (C := RX7) (T := TX7) (N := 19) hx hb hw inlX7 hown hkn.1 hP 0 rfl rfl 18 (by decide) (hw _ mw_82) (fun _ h9 => h9) rfl dX7_again_37 ?_
            refine lv_iconst (v := 3) hx hb dX7_again_40 (by decide) ?_
            refine lv_iload_n hx hb dX7_again_41 rfl (lv_at hl 2 rfl) ?_
            refine lv_eqi (show _ = (nI x9) from ex9) ?_
            refine lv_imul hx hb dX7_again_42 ?_
            refine lv_eqi (pk_mul 3 x9) ?_
            refine lv_iload_n hx hb dX7_again_43 rfl (lv_at hl 0 rfl) ?_
            refine lv_iadd hx hb dX7_again_44 ?_
            refine lv_eqi (nI_add (3 * x9) i) ?_
            refine va_lald hx hb hkn.1 hP 3 1 rfl rfl (vp_in_nI (n := 3 * x9 + i) (by omega) (by decide)) dX7_again_45 ?_
            refine lv_eql (show _ = kp (3 * x9 + i) by rw [nI_clamp (n := 3 * x9 + i) (by omega)]) ?_
            refine va_last hx hb hkn.1 hP hD hS 1 1 rfl rfl (vp_in_nI (n := i) (by omega) (by decide)) dX7_again_46 (fun H locs hP hD hS => ?_)
            rw [nI_clamp (n := i) (by omega)] at hP hD
            have hP : va_P g.1 vwCl [(h0, .inr (6, [.ref d1, .int (nI ln), .long rd, .int xd, .int xq, .ref d2, .int (nI an), .int (nI nx), .ref d3, .ref d4, .ref d5, .ref d6, .int xm, .int (nI zn), .ref d7, .ref d8, .long sd, .ref d9, .ref d0])), (d2, .inl (gJ g, 6, .inr (.inl (vp_updL f1 i (kp (3 * x9 + i)))))), (d9, .inl (gZ g, 2, .inl ik)), (d0, .inl (gJ g, 6, .inr (.inl kp)))] H := hP
            have hD : va_D A [(h0, .inr (6, [.ref d1, .int (nI ln), .long rd, .int xd, .int xq, .ref d2, .int (nI an), .int (nI nx), .ref d3, .ref d4, .ref d5, .ref d6, .int xm, .int (nI zn), .ref d7, .ref d8, .long sd, .ref d9, .ref d0])), (d2, .inl (gJ g, 6, .inr (.inl (vp_updL f1 i (kp (3 * x9 + i)))))), (d9, .inl (gZ g, 2, .inl ik)), (d0, .inl (gJ g, 6, .inr (.inl kp)))] := hD
            refine lv_iinc (v := (nI (i + 1))) (lv' := [(2, .int (nI (i + 1))), (0, .ref h0), (1, .int x0)]) hx hb dX7_again_47 hl (k := 0) rfl (nI_1 i) (by decide) rfl (fun ls hl => ?_)
            refine lv_goto (tgt := 26) hx hb dX7_again_50 (by decide) ?_
            exact ih_26 (i + 1) (vp_updL f1 i (kp (3 * x9 + i))) (by omega) (by rw [h_f]; exact un_step) (by omega) _ _ hP hD hS ls (lv_sub hl [0, 1, 2] rfl)
      exact lp_26 4 0 nw (by omega) (by funext t; rw [if_neg (by omega)]) (by omega) _ _ hP hD hS ls (lv_sub hl [0, 1, 2] rfl)
    · skip
      refine lv_bipush (v := (-3)) hx hb dX7_again_21 (by decide) ?_
      have eb : (is01 x0 && !decide (ik x0.toNatClampNeg = 0)) = false := by rw [c_1, ec, decide_eq_true c_2]; rfl
      exact eM_i (g := g) hx hb hr hlocks () (by rw [c_1, ec, if_pos rfl, if_pos c_2]) (show va_P g.1 vwCl [(h0, .inr (6, [.ref d1, .int (nI ln), .long rd, .int xd, .int xq, .ref d2, .int (nI (cond (is01 x0 && !decide (ik x0.toNatClampNeg = 0)) 0 an)), .int (nI nx), .ref d3, .ref d4, .ref d5, .ref d6, .int xm, .int (nI zn), .ref d7, .ref d8, .long sd, .ref d9, .ref d0])), (d2, .inl (gJ g, 6, .inr (.inl (cond (is01 x0 && !decide (ik x0.toNatClampNeg = 0)) (agF x0.toNatClampNeg kp nw) nw)))), (d9, .inl (gZ g, 2, .inl ik)), (d0, .inl (gJ g, 6, .inr (.inl kp)))] H by rw [eb]; exact hP.sub [0, 1, 2, 3] rfl) (show va_D A [(h0, .inr (6, [.ref d1, .int (nI ln), .long rd, .int xd, .int xq, .ref d2, .int (nI (cond (is01 x0 && !decide (ik x0.toNatClampNeg = 0)) 0 an)), .int (nI nx), .ref d3, .ref d4, .ref d5, .ref d6, .int xm, .int (nI zn), .ref d7, .ref d8, .long sd, .ref d9, .ref d0])), (d2, .inl (gJ g, 6, .inr (.inl (cond (is01 x0 && !decide (ik x0.toNatClampNeg = 0)) (agF x0.toNatClampNeg kp nw) nw)))), (d9, .inl (gZ g, 2, .inl ik)), (d0, .inl (gJ g, 6, .inr (.inl kp)))] by rw [eb]; exact hD.sub [0, 1, 2, 3] (by decide) rfl) hS dX7_again_23
  · skip
    refine lv_iconst (v := (-1)) hx hb dX7_again_10 (by decide) ?_
    have eb : (is01 x0 && !decide (ik x0.toNatClampNeg = 0)) = false := by rw [c_1]; rfl
    exact eM_i (g := g) hx hb hr hlocks () (by rw [c_1]; rfl) (show va_P g.1 vwCl [(h0, .inr (6, [.ref d1, .int (nI ln), .long rd, .int xd, .int xq, .ref d2, .int (nI (cond (is01 x0 && !decide (ik x0.toNatClampNeg = 0)) 0 an)), .int (nI nx), .ref d3, .ref d4, .ref d5, .ref d6, .int xm, .int (nI zn), .ref d7, .ref d8, .long sd, .ref d9, .ref d0])), (d2, .inl (gJ g, 6, .inr (.inl (cond (is01 x0 && !decide (ik x0.toNatClampNeg = 0)) (agF x0.toNatClampNeg kp nw) nw)))), (d9, .inl (gZ g, 2, .inl ik)), (d0, .inl (gJ g, 6, .inr (.inl kp)))] H by rw [eb]; exact hP.sub [0, 1, 2, 3] rfl) (show va_D A [(h0, .inr (6, [.ref d1, .int (nI ln), .long rd, .int xd, .int xq, .ref d2, .int (nI (cond (is01 x0 && !decide (ik x0.toNatClampNeg = 0)) 0 an)), .int (nI nx), .ref d3, .ref d4, .ref d5, .ref d6, .int xm, .int (nI zn), .ref d7, .ref d8, .long sd, .ref d9, .ref d0])), (d2, .inl (gJ g, 6, .inr (.inl (cond (is01 x0 && !decide (ik x0.toNatClampNeg = 0)) (agF x0.toNatClampNeg kp nw) nw)))), (d9, .inl (gZ g, 2, .inl ik)), (d0, .inl (gJ g, 6, .inr (.inl kp)))] by rw [eb]; exact hD.sub [0, 1, 2, 3] (by decide) rfl) hS dX7_again_11
set_option maxHeartbeats 4000000 in
set_option maxRecDepth 100000 in
theorem c_X7_count (l : Launch) (g : GG) (H : Heap) (h0 : Nat) (x0 : Int32) (d1 : Nat) (ln : Nat) (rd : Int64) (xd : Int32) (xq : Int32) (d2 : Nat) (an : Nat) (nx : Nat) (d3 : Nat) (d4 : Nat) (d5 : Nat) (d6 : Nat) (xm : Int32) (zn : Nat) (d7 : Nat) (d8 : Nat) (sd : Int64) (d9 : Nat) (d0 : Nat) (nw : Nat → Int64)  (hP : va_P g.1 vwCl [(h0, .inr (6, [.ref d1, .int (nI ln), .long rd, .int xd, .int xq, .ref d2, .int (nI an), .int (nI nx), .ref d3, .ref d4, .ref d5, .ref d6, .int xm, .int (nI zn), .ref d7, .ref d8, .long sd, .ref d9, .ref d0])), (d2, .inl (gJ g, 6, .inr (.inl nw)))] H) : Met l yX7_count (Cond.code yX7_count cX7_count 2 (some .int) :: wsL_law) ({ frames := 2, cells := 0, slots := 0, locals := 47 }) (PR g [.ref h0, .int x0] H) (QRi (qCt nw ln an zn x0) H) 0 0 NoA := by
  refine Met.R (by decide) (Nat.le_of_ble_eq_true rfl) rfl ?_
  intro p e s m below meth c hx hb hr hml hw hown hlocks hkn hH ls hl
  subst hH
  have hl : lv_has ls 2 [(0, .ref h0), (1, .int x0)] := hl
  have hS : va_S NoA s.heap s.heap [] := va_S.rf
  refine lv_iload_n hx hb dX7_count_0 rfl (lv_at hl 1 rfl) ?_
  by_cases c_1 : x0 = 0
  · skip
    refine lv_tableIn (off := 39) (tgt := 40) hx hb dX7_count_1 (by rw [c_1]; decide) (by rw [c_1]; decide) (by rw [c_1]; rfl) (by decide) ?_
    refine lv_aload_n hx hb dX7_count_40 rfl (lv_at hl 0 rfl) ?_
    refine va_get (D := g.1) (ci := 6) (v := .int (nI ln)) (C := RX7) (T := TX7) (N := 19) hx hb hw inlX7 hown hkn.1 hP 0 rfl rfl 1 (by decide) (hw _ mw_100) (fun _ h9 => h9) rfl dX7_count_41 ?_
    exact eR_i hx hb hr hlocks (by unfold qCt; rw [if_pos c_1]) dX7_count_44
  · skip
    by_cases c_2 : x0 = 1
    · skip
      refine lv_tableIn (off := 44) (tgt := 45) hx hb dX7_count_1 (by rw [c_2]; decide) (by rw [c_2]; decide) (by rw [c_2]; rfl) (by decide) ?_
      refine lv_aload_n hx hb dX7_count_45 rfl (lv_at hl 0 rfl) ?_
      refine lv_iconst (v := 0) hx hb dX7_count_46 (by decide) ?_
      refine cV_i (As := [.int 0]) (rest := []) hx hb hml hown hw hkn hS hl (c_X7_areaOf l g _ h0 0 d1 ln rd xd xq d2 an nx d3 d4 d5 d6 xm zn d7 d8 sd d9 d0 nw (by omega) (hP.sub [0, 1] rfl)) vf_X7_areaOf mw_782 (va_recv hkn.1 hP (ci := 6) (q0 := 0) rfl rfl) ⟨(Nat.le_of_ble_eq_true rfl), (Nat.le_of_ble_eq_true rfl)⟩ rfl rfl rfl rfl (Nat.le_of_ble_eq_true rfl) dX7_count_47 ⟨(Nat.le_of_ble_eq_true rfl), (Nat.le_of_ble_eq_true rfl)⟩ ?_
      exact eR_i hx hb hr hlocks (by unfold qCt; rw [if_neg c_1, if_pos c_2, arM_0]) dX7_count_50
    · skip
      by_cases c_3 : x0 = 2
      · skip
        refine lv_tableIn (off := 50) (tgt := 51) hx hb dX7_count_1 (by rw [c_3]; decide) (by rw [c_3]; decide) (by rw [c_3]; rfl) (by decide) ?_
        refine lv_aload_n hx hb dX7_count_51 rfl (lv_at hl 0 rfl) ?_
        refine lv_bipush (v := 7) hx hb dX7_count_52 (by decide) ?_
        refine cV_i (As := [.int 7]) (rest := []) hx hb hml hown hw hkn hS hl (c_X7_areaBy l g _ h0 7 d1 ln rd xd xq d2 an nx d3 d4 d5 d6 xm zn d7 d8 sd d9 d0 nw (by omega) (hP.sub [0, 1] rfl)) vf_X7_areaBy mw_701 (va_recv hkn.1 hP (ci := 6) (q0 := 0) rfl rfl) ⟨(Nat.le_of_ble_eq_true rfl), (Nat.le_of_ble_eq_true rfl)⟩ rfl rfl rfl rfl (Nat.le_of_ble_eq_true rfl) dX7_count_54 ⟨(Nat.le_of_ble_eq_true rfl), (Nat.le_of_ble_eq_true rfl)⟩ ?_
        exact eR_i hx hb hr hlocks (by unfold qCt; rw [if_neg c_1, if_neg c_2, if_pos c_3, ab_7]) dX7_count_57
      · skip
        by_cases c_4 : x0 = 3
        · skip
          refine lv_tableIn (off := 57) (tgt := 58) hx hb dX7_count_1 (by rw [c_4]; decide) (by rw [c_4]; decide) (by rw [c_4]; rfl) (by decide) ?_
          refine lv_aload_n hx hb dX7_count_58 rfl (lv_at hl 0 rfl) ?_
          refine va_get (D := g.1) (ci := 6) (v := .ref d2) (C := RX7) (T := TX7) (N := 19) hx hb hw inlX7 hown hkn.1 hP 0 rfl rfl 5 (by decide) (hw _ mw_74) (fun _ h9 => h9) rfl dX7_count_59 ?_
          refine lv_iconst (v := 0) hx hb dX7_count_62 (by decide) ?_
          refine va_lald hx hb hkn.1 hP 1 1 rfl rfl (vp_in_nI (n := 0) (by omega) (by decide)) dX7_count_63 ?_
          refine lv_eql (show _ = nw 0 from rfl) ?_
          refine lv_aload_n hx hb dX7_count_64 rfl (lv_at hl 0 rfl) ?_
          refine va_get (D := g.1) (ci := 6) (v := .ref d2) (C := RX7) (T := TX7) (N := 19) hx hb hw inlX7 hown hkn.1 hP 0 rfl rfl 5 (by decide) (hw _ mw_74) (fun _ h9 => h9) rfl dX7_count_65 ?_
          refine lv_iconst (v := 1) hx hb dX7_count_68 (by decide) ?_
          refine va_lald hx hb hkn.1 hP 1 1 rfl rfl (vp_in_nI (n := 1) (by omega) (by decide)) dX7_count_69 ?_
          refine lv_eql (show _ = nw 1 from rfl) ?_
          refine lv_land hx hb dX7_count_70 ?_
          refine lv_aload_n hx hb dX7_count_71 rfl (lv_at hl 0 rfl) ?_
          refine va_get (D := g.1) (ci := 6) (v := .ref d2) (C := RX7) (T := TX7) (N := 19) hx hb hw inlX7 hown hkn.1 hP 0 rfl rfl 5 (by decide) (hw _ mw_74) (fun _ h9 => h9) rfl dX7_count_72 ?_
          refine lv_iconst (v := 2) hx hb dX7_count_75 (by decide) ?_
          refine va_lald hx hb hkn.1 hP 1 1 rfl rfl (vp_in_nI (n := 2) (by omega) (by decide)) dX7_count_76 ?_
          refine lv_eql (show _ = nw 2 from rfl) ?_
          refine lv_land hx hb dX7_count_77 ?_
          refine cS_i (As := [.long (((nw 0) &&& (nw 1)) &&& (nw 2))]) (rest := []) hx hb hml hown hw hkn hS hl (c_X7_ones l g _ (((nw 0) &&& (nw 1)) &&& (nw 2)) ) sf_X7_ones mw_254 ⟨(Nat.le_of_ble_eq_true rfl), (Nat.le_of_ble_eq_true rfl)⟩ rfl rfl rfl rfl (Nat.le_of_ble_eq_true rfl) dX7_count_78 ⟨(Nat.le_of_ble_eq_true rfl), (Nat.le_of_ble_eq_true rfl)⟩ ?_
          exact eR_i hx hb hr hlocks (by unfold qCt; rw [if_neg c_1, if_neg c_2, if_neg c_3, if_pos c_4]) dX7_count_81
        · skip
          by_cases c_5 : x0 = 4
          · skip
            refine lv_tableIn (off := 81) (tgt := 82) hx hb dX7_count_1 (by rw [c_5]; decide) (by rw [c_5]; decide) (by rw [c_5]; rfl) (by decide) ?_
            refine lv_aload_n hx hb dX7_count_82 rfl (lv_at hl 0 rfl) ?_
            refine va_get (D := g.1) (ci := 6) (v := .int (nI an)) (C := RX7) (T := TX7) (N := 19) hx hb hw inlX7 hown hkn.1 hP 0 rfl rfl 6 (by decide) (hw _ mw_253) (fun _ h9 => h9) rfl dX7_count_83 ?_
            exact eR_i hx hb hr hlocks (by unfold qCt; rw [if_neg c_1, if_neg c_2, if_neg c_3, if_neg c_4, if_pos c_5]) dX7_count_86
          · skip
            by_cases c_6 : x0 = 5
            · skip
              refine lv_tableIn (off := 86) (tgt := 87) hx hb dX7_count_1 (by rw [c_6]; decide) (by rw [c_6]; decide) (by rw [c_6]; rfl) (by decide) ?_
              refine lv_aload_n hx hb dX7_count_87 rfl (lv_at hl 0 rfl) ?_
              refine va_get (D := g.1) (ci := 6) (v := .int (nI zn)) (C := RX7) (T := TX7) (N := 19) hx hb hw inlX7 hown hkn.1 hP 0 rfl rfl 13 (by decide) (hw _ mw_626) (fun _ h9 => h9) rfl dX7_count_88 ?_
              exact eR_i hx hb hr hlocks (by unfold qCt; rw [if_neg c_1, if_neg c_2, if_neg c_3, if_neg c_4, if_neg c_5, if_pos c_6]) dX7_count_91
            · skip
              refine lv_tableOut (tgt := 92) hx hb dX7_count_1 (sw_out (lo := 0) (hi := 5) (fun k h1 h2 => by have hk : k = 0 ∨ k = 1 ∨ k = 2 ∨ k = 3 ∨ k = 4 ∨ k = 5 := (by omega); rcases hk with rfl | rfl | rfl | rfl | rfl | rfl <;> assumption)) (by decide) ?_
              refine lv_bipush (v := (-2)) hx hb dX7_count_92 (by decide) ?_
              exact eR_i hx hb hr hlocks (by unfold qCt; rw [if_neg c_1, if_neg c_2, if_neg c_3, if_neg c_4, if_neg c_5, if_neg c_6]) dX7_count_94
set_option maxHeartbeats 4000000 in
set_option maxRecDepth 100000 in
theorem c_X7_init (l : Launch) (g : GG) (sz : Nat) (h0 : Nat) (z1 : Int32) (z2 : Int64) (z3 : Int32) (z4 : Int32) (z6 : Int32) (z7 : Int32) (z12 : Int32) (z13 : Int32) (z16 : Int64)  : Met l yX7_init (Cond.code yX7_init cX7_init 1 none :: wsL_law) ({ frames := 1, cells := 10, slots := 345, locals := 20 }) (PM g [.ref h0] [(h0, .inr (6, [.null, .int z1, .long z2, .int z3, .int z4, .null, .int z6, .int z7, .null, .null, .null, .null, .int z12, .int z13, .null, .null, .long z16, .null, .null]))] sz) (QAv g (fun (u : Nat × Nat × Nat × Nat × Nat × Nat × Nat × Nat × Nat × Nat) => True) (fun (u : Nat × Nat × Nat × Nat × Nat × Nat × Nat × Nat × Nat × Nat) => [(h0, .inr (6, [.ref u.1, .int z1, .long z2, .int z3, .int z4, .ref u.2.1, .int z6, .int z7, .ref u.2.2.1, .ref u.2.2.2.1, .ref u.2.2.2.2.1, .ref u.2.2.2.2.2.1, .int z12, .int z13, .ref u.2.2.2.2.2.2.1, .ref u.2.2.2.2.2.2.2.1, .long z16, .ref u.2.2.2.2.2.2.2.2.1, .ref u.2.2.2.2.2.2.2.2.2])), (u.1, .inl (gI g, 64, .inl (fun _ => 0))), (u.2.1, .inl (gJ g, 6, .inr (.inl (fun _ => 0)))), (u.2.2.1, .inl (gJ g, 42, .inr (.inl (fun _ => 0)))), (u.2.2.2.1, .inl (gI g, 85, .inl (fun _ => 0))), (u.2.2.2.2.1, .inl (gI g, 64, .inl (fun _ => 0))), (u.2.2.2.2.2.1, .inl (gI g, 64, .inl (fun _ => 0))), (u.2.2.2.2.2.2.1, .inl (gI g, 6, .inl (fun _ => 0))), (u.2.2.2.2.2.2.2.1, .inl (gI g, 6, .inl (fun _ => 0))), (u.2.2.2.2.2.2.2.2.1, .inl (gZ g, 2, .inl (fun _ => 0))), (u.2.2.2.2.2.2.2.2.2, .inl (gJ g, 6, .inr (.inl (fun _ => 0))))]) (va_A [(h0, .inr (6, [.null, .int z1, .long z2, .int z3, .int z4, .null, .int z6, .int z7, .null, .null, .null, .null, .int z12, .int z13, .null, .null, .long z16, .null, .null]))] sz)) 10 345 (va_A [(h0, .inr (6, [.null, .int z1, .long z2, .int z3, .int z4, .null, .int z6, .int z7, .null, .null, .null, .null, .int z12, .int z13, .null, .null, .long z16, .null, .null]))] sz) := by
  refine Met.M (Qc := fun A => QAv g (fun (u : Nat × Nat × Nat × Nat × Nat × Nat × Nat × Nat × Nat × Nat) => True) (fun (u : Nat × Nat × Nat × Nat × Nat × Nat × Nat × Nat × Nat × Nat) => [(h0, .inr (6, [.ref u.1, .int z1, .long z2, .int z3, .int z4, .ref u.2.1, .int z6, .int z7, .ref u.2.2.1, .ref u.2.2.2.1, .ref u.2.2.2.2.1, .ref u.2.2.2.2.2.1, .int z12, .int z13, .ref u.2.2.2.2.2.2.1, .ref u.2.2.2.2.2.2.2.1, .long z16, .ref u.2.2.2.2.2.2.2.2.1, .ref u.2.2.2.2.2.2.2.2.2])), (u.1, .inl (gI g, 64, .inl (fun _ => 0))), (u.2.1, .inl (gJ g, 6, .inr (.inl (fun _ => 0)))), (u.2.2.1, .inl (gJ g, 42, .inr (.inl (fun _ => 0)))), (u.2.2.2.1, .inl (gI g, 85, .inl (fun _ => 0))), (u.2.2.2.2.1, .inl (gI g, 64, .inl (fun _ => 0))), (u.2.2.2.2.2.1, .inl (gI g, 64, .inl (fun _ => 0))), (u.2.2.2.2.2.2.1, .inl (gI g, 6, .inl (fun _ => 0))), (u.2.2.2.2.2.2.2.1, .inl (gI g, 6, .inl (fun _ => 0))), (u.2.2.2.2.2.2.2.2.1, .inl (gZ g, 2, .inl (fun _ => 0))), (u.2.2.2.2.2.2.2.2.2, .inl (gJ g, 6, .inr (.inl (fun _ => 0))))]) A) (by decide) (Nat.le_of_ble_eq_true rfl) rfl ?_
  intro p e s m below meth c hx hb hr hml hw hown hlocks hin A hA hkn hP hD ls hl
  have hl : lv_has ls 1 [(0, .ref h0)] := hl
  have hS : va_S A s.heap s.heap [] := va_S.rf
  obtain ⟨H, hHe⟩ : ∃ H, H = s.heap := ⟨_, rfl⟩
  obtain ⟨locs, hLe⟩ : ∃ locs : List Loc, locs = [] := ⟨_, rfl⟩
  have hP : va_P g.1 vwCl [(h0, .inr (6, [.null, .int z1, .long z2, .int z3, .int z4, .null, .int z6, .int z7, .null, .null, .null, .null, .int z12, .int z13, .null, .null, .long z16, .null, .null]))] H := by rw [hHe]; exact hP
  have hS : va_S A s.heap H locs := by rw [hHe, hLe]; exact hS
  have hgo : W p l e ({ frames := 1, cells := 10, slots := 345, locals := 20 } : Room) s m ([.ref h0] : List Value).toArray below meth c H locs 0 0 (MQ below (QAv g (fun (u : Nat × Nat × Nat × Nat × Nat × Nat × Nat × Nat × Nat × Nat) => True) (fun (u : Nat × Nat × Nat × Nat × Nat × Nat × Nat × Nat × Nat × Nat) => [(h0, .inr (6, [.ref u.1, .int z1, .long z2, .int z3, .int z4, .ref u.2.1, .int z6, .int z7, .ref u.2.2.1, .ref u.2.2.2.1, .ref u.2.2.2.2.1, .ref u.2.2.2.2.2.1, .int z12, .int z13, .ref u.2.2.2.2.2.2.1, .ref u.2.2.2.2.2.2.2.1, .long z16, .ref u.2.2.2.2.2.2.2.2.1, .ref u.2.2.2.2.2.2.2.2.2])), (u.1, .inl (gI g, 64, .inl (fun _ => 0))), (u.2.1, .inl (gJ g, 6, .inr (.inl (fun _ => 0)))), (u.2.2.1, .inl (gJ g, 42, .inr (.inl (fun _ => 0)))), (u.2.2.2.1, .inl (gI g, 85, .inl (fun _ => 0))), (u.2.2.2.2.1, .inl (gI g, 64, .inl (fun _ => 0))), (u.2.2.2.2.2.1, .inl (gI g, 64, .inl (fun _ => 0))), (u.2.2.2.2.2.2.1, .inl (gI g, 6, .inl (fun _ => 0))), (u.2.2.2.2.2.2.2.1, .inl (gI g, 6, .inl (fun _ => 0))), (u.2.2.2.2.2.2.2.2.1, .inl (gZ g, 2, .inl (fun _ => 0))), (u.2.2.2.2.2.2.2.2.2, .inl (gJ g, 6, .inr (.inl (fun _ => 0))))]) A) ([.ref h0] : List Value).toArray s 10 345 A) (F0 m 0 ls []) := ?_
  · rw [hHe, hLe] at hgo; exact hgo
  clear hHe hLe
  refine lv_aload_n hx hb dX7_init_0 rfl (lv_at hl 0 rfl) ?_
  refine W.objInit hx hb hown (hw _ mw_72) (hw _ mw_11) (hw _ mw_12) rfl (by rw [hml]; exact hl.1) rfl dX7_init_1 (Nat.le_of_ble_eq_true rfl) (Nat.le_of_ble_eq_true rfl) ?_
  refine W.eq (g2 := F0 m 4 ls []) rfl ?_
  refine lv_aload_n hx hb dX7_init_4 rfl (lv_at hl 0 rfl) ?_
  refine lv_bipush (v := 64) hx hb dX7_init_5 (by decide) ?_
  refine va_newG (t0 := 0) (atype := .int) (a0 := (64, .inl (fun _ => 0))) hx hb (hw _ mw_35) (ty := .int) rfl hkn.1 rfl hP hD hS hA (fun _ => rfl) (by decide) (by decide) (by decide) (Nat.le_of_ble_eq_true rfl) (Nat.le_of_ble_eq_true rfl) dX7_init_7 (fun q7 H hP hD hS => ?_)
  have hP : va_P g.1 vwCl [(h0, .inr (6, [.null, .int z1, .long z2, .int z3, .int z4, .null, .int z6, .int z7, .null, .null, .null, .null, .int z12, .int z13, .null, .null, .long z16, .null, .null])), (q7, .inl (gI g, 64, .inl (fun _ => 0)))] H := hP
  have hD : va_D A [(h0, .inr (6, [.null, .int z1, .long z2, .int z3, .int z4, .null, .int z6, .int z7, .null, .null, .null, .null, .int z12, .int z13, .null, .null, .long z16, .null, .null])), (q7, .inl (gI g, 64, .inl (fun _ => 0)))] := hD
  refine W.widen (k := 1) (n := 64) (by omega) (by omega) ?_
  refine va_putF (D := g.1) (ci := 6) (v := .ref q7) (ty := (.array .int)) (C := RX7) (T := TX7) (N := 19) hx hb hw inlX7 tyX7 tyX7_ok nmX7 hown hkn.1 hP hD hS 0 rfl rfl 0 (by decide) (hw _ mw_73) (fun _ h9 => h9) rfl hin rfl (by decide +kernel) rfl rfl (Nat.le_of_ble_eq_true rfl) dX7_init_9 (fun H locs hP hD hS => ?_)
  have hP : va_P g.1 vwCl [(h0, .inr (6, [.ref q7, .int z1, .long z2, .int z3, .int z4, .null, .int z6, .int z7, .null, .null, .null, .null, .int z12, .int z13, .null, .null, .long z16, .null, .null])), (q7, .inl (gI g, 64, .inl (fun _ => 0)))] H := hP
  have hD : va_D A [(h0, .inr (6, [.ref q7, .int z1, .long z2, .int z3, .int z4, .null, .int z6, .int z7, .null, .null, .null, .null, .int z12, .int z13, .null, .null, .long z16, .null, .null])), (q7, .inl (gI g, 64, .inl (fun _ => 0)))] := hD
  refine lv_aload_n hx hb dX7_init_12 rfl (lv_at hl 0 rfl) ?_
  refine lv_bipush (v := 6) hx hb dX7_init_13 (by decide) ?_
  refine va_newG (t0 := 1) (atype := .long) (a0 := (6, .inr (.inl (fun _ => 0)))) hx hb (hw _ mw_41) (ty := .long) rfl hkn.1 rfl hP hD hS hA (fun _ => rfl) (by decide) (by decide) (by decide) (Nat.le_of_ble_eq_true rfl) (Nat.le_of_ble_eq_true rfl) dX7_init_15 (fun q15 H hP hD hS => ?_)
  have hP : va_P g.1 vwCl [(h0, .inr (6, [.ref q7, .int z1, .long z2, .int z3, .int z4, .null, .int z6, .int z7, .null, .null, .null, .null, .int z12, .int z13, .null, .null, .long z16, .null, .null])), (q7, .inl (gI g, 64, .inl (fun _ => 0))), (q15, .inl (gJ g, 6, .inr (.inl (fun _ => 0))))] H := hP
  have hD : va_D A [(h0, .inr (6, [.ref q7, .int z1, .long z2, .int z3, .int z4, .null, .int z6, .int z7, .null, .null, .null, .null, .int z12, .int z13, .null, .null, .long z16, .null, .null])), (q7, .inl (gI g, 64, .inl (fun _ => 0))), (q15, .inl (gJ g, 6, .inr (.inl (fun _ => 0))))] := hD
  refine W.widen (k := 2) (n := 70) (by omega) (by omega) ?_
  refine va_putF (D := g.1) (ci := 6) (v := .ref q15) (ty := (.array .long)) (C := RX7) (T := TX7) (N := 19) hx hb hw inlX7 tyX7 tyX7_ok nmX7 hown hkn.1 hP hD hS 0 rfl rfl 5 (by decide) (hw _ mw_74) (fun _ h9 => h9) rfl hin rfl (by decide +kernel) rfl rfl (Nat.le_of_ble_eq_true rfl) dX7_init_17 (fun H locs hP hD hS => ?_)
  have hP : va_P g.1 vwCl [(h0, .inr (6, [.ref q7, .int z1, .long z2, .int z3, .int z4, .ref q15, .int z6, .int z7, .null, .null, .null, .null, .int z12, .int z13, .null, .null, .long z16, .null, .null])), (q7, .inl (gI g, 64, .inl (fun _ => 0))), (q15, .inl (gJ g, 6, .inr (.inl (fun _ => 0))))] H := hP
  have hD : va_D A [(h0, .inr (6, [.ref q7, .int z1, .long z2, .int z3, .int z4, .ref q15, .int z6, .int z7, .null, .null, .null, .null, .int z12, .int z13, .null, .null, .long z16, .null, .null])), (q7, .inl (gI g, 64, .inl (fun _ => 0))), (q15, .inl (gJ g, 6, .inr (.inl (fun _ => 0))))] := hD
  refine lv_aload_n hx hb dX7_init_20 rfl (lv_at hl 0 rfl) ?_
  refine lv_bipush (v := 42) hx hb dX7_init_21 (by decide) ?_
  refine va_newG (t0 := 1) (atype := .long) (a0 := (42, .inr (.inl (fun _ => 0)))) hx hb (hw _ mw_41) (ty := .long) rfl hkn.1 rfl hP hD hS hA (fun _ => rfl) (by decide) (by decide) (by decide) (Nat.le_of_ble_eq_true rfl) (Nat.le_of_ble_eq_true rfl) dX7_init_23 (fun q23 H hP hD hS => ?_)
  have hP : va_P g.1 vwCl [(h0, .inr (6, [.ref q7, .int z1, .long z2, .int z3, .int z4, .ref q15, .int z6, .int z7, .null, .null, .null, .null, .int z12, .int z13, .null, .null, .long z16, .null, .null])), (q7, .inl (gI g, 64, .inl (fun _ => 0))), (q15, .inl (gJ g, 6, .inr (.inl (fun _ => 0)))), (q23, .inl (gJ g, 42, .inr (.inl (fun _ => 0))))] H := hP
  have hD : va_D A [(h0, .inr (6, [.ref q7, .int z1, .long z2, .int z3, .int z4, .ref q15, .int z6, .int z7, .null, .null, .null, .null, .int z12, .int z13, .null, .null, .long z16, .null, .null])), (q7, .inl (gI g, 64, .inl (fun _ => 0))), (q15, .inl (gJ g, 6, .inr (.inl (fun _ => 0)))), (q23, .inl (gJ g, 42, .inr (.inl (fun _ => 0))))] := hD
  refine W.widen (k := 3) (n := 112) (by omega) (by omega) ?_
  refine va_putF (D := g.1) (ci := 6) (v := .ref q23) (ty := (.array .long)) (C := RX7) (T := TX7) (N := 19) hx hb hw inlX7 tyX7 tyX7_ok nmX7 hown hkn.1 hP hD hS 0 rfl rfl 8 (by decide) (hw _ mw_75) (fun _ h9 => h9) rfl hin rfl (by decide +kernel) rfl rfl (Nat.le_of_ble_eq_true rfl) dX7_init_25 (fun H locs hP hD hS => ?_)
  have hP : va_P g.1 vwCl [(h0, .inr (6, [.ref q7, .int z1, .long z2, .int z3, .int z4, .ref q15, .int z6, .int z7, .ref q23, .null, .null, .null, .int z12, .int z13, .null, .null, .long z16, .null, .null])), (q7, .inl (gI g, 64, .inl (fun _ => 0))), (q15, .inl (gJ g, 6, .inr (.inl (fun _ => 0)))), (q23, .inl (gJ g, 42, .inr (.inl (fun _ => 0))))] H := hP
  have hD : va_D A [(h0, .inr (6, [.ref q7, .int z1, .long z2, .int z3, .int z4, .ref q15, .int z6, .int z7, .ref q23, .null, .null, .null, .int z12, .int z13, .null, .null, .long z16, .null, .null])), (q7, .inl (gI g, 64, .inl (fun _ => 0))), (q15, .inl (gJ g, 6, .inr (.inl (fun _ => 0)))), (q23, .inl (gJ g, 42, .inr (.inl (fun _ => 0))))] := hD
  refine lv_aload_n hx hb dX7_init_28 rfl (lv_at hl 0 rfl) ?_
  refine lv_bipush (v := 85) hx hb dX7_init_29 (by decide) ?_
  refine va_newG (t0 := 0) (atype := .int) (a0 := (85, .inl (fun _ => 0))) hx hb (hw _ mw_35) (ty := .int) rfl hkn.1 rfl hP hD hS hA (fun _ => rfl) (by decide) (by decide) (by decide) (Nat.le_of_ble_eq_true rfl) (Nat.le_of_ble_eq_true rfl) dX7_init_31 (fun q31 H hP hD hS => ?_)
  have hP : va_P g.1 vwCl [(h0, .inr (6, [.ref q7, .int z1, .long z2, .int z3, .int z4, .ref q15, .int z6, .int z7, .ref q23, .null, .null, .null, .int z12, .int z13, .null, .null, .long z16, .null, .null])), (q7, .inl (gI g, 64, .inl (fun _ => 0))), (q15, .inl (gJ g, 6, .inr (.inl (fun _ => 0)))), (q23, .inl (gJ g, 42, .inr (.inl (fun _ => 0)))), (q31, .inl (gI g, 85, .inl (fun _ => 0)))] H := hP
  have hD : va_D A [(h0, .inr (6, [.ref q7, .int z1, .long z2, .int z3, .int z4, .ref q15, .int z6, .int z7, .ref q23, .null, .null, .null, .int z12, .int z13, .null, .null, .long z16, .null, .null])), (q7, .inl (gI g, 64, .inl (fun _ => 0))), (q15, .inl (gJ g, 6, .inr (.inl (fun _ => 0)))), (q23, .inl (gJ g, 42, .inr (.inl (fun _ => 0)))), (q31, .inl (gI g, 85, .inl (fun _ => 0)))] := hD
  refine W.widen (k := 4) (n := 197) (by omega) (by omega) ?_
  refine va_putF (D := g.1) (ci := 6) (v := .ref q31) (ty := (.array .int)) (C := RX7) (T := TX7) (N := 19) hx hb hw inlX7 tyX7 tyX7_ok nmX7 hown hkn.1 hP hD hS 0 rfl rfl 9 (by decide) (hw _ mw_76) (fun _ h9 => h9) rfl hin rfl (by decide +kernel) rfl rfl (Nat.le_of_ble_eq_true rfl) dX7_init_33 (fun H locs hP hD hS => ?_)
  have hP : va_P g.1 vwCl [(h0, .inr (6, [.ref q7, .int z1, .long z2, .int z3, .int z4, .ref q15, .int z6, .int z7, .ref q23, .ref q31, .null, .null, .int z12, .int z13, .null, .null, .long z16, .null, .null])), (q7, .inl (gI g, 64, .inl (fun _ => 0))), (q15, .inl (gJ g, 6, .inr (.inl (fun _ => 0)))), (q23, .inl (gJ g, 42, .inr (.inl (fun _ => 0)))), (q31, .inl (gI g, 85, .inl (fun _ => 0)))] H := hP
  have hD : va_D A [(h0, .inr (6, [.ref q7, .int z1, .long z2, .int z3, .int z4, .ref q15, .int z6, .int z7, .ref q23, .ref q31, .null, .null, .int z12, .int z13, .null, .null, .long z16, .null, .null])), (q7, .inl (gI g, 64, .inl (fun _ => 0))), (q15, .inl (gJ g, 6, .inr (.inl (fun _ => 0)))), (q23, .inl (gJ g, 42, .inr (.inl (fun _ => 0)))), (q31, .inl (gI g, 85, .inl (fun _ => 0)))] := hD
  refine lv_aload_n hx hb dX7_init_36 rfl (lv_at hl 0 rfl) ?_
  refine lv_bipush (v := 64) hx hb dX7_init_37 (by decide) ?_
  refine va_newG (t0 := 0) (atype := .int) (a0 := (64, .inl (fun _ => 0))) hx hb (hw _ mw_35) (ty := .int) rfl hkn.1 rfl hP hD hS hA (fun _ => rfl) (by decide) (by decide) (by decide) (Nat.le_of_ble_eq_true rfl) (Nat.le_of_ble_eq_true rfl) dX7_init_39 (fun q39 H hP hD hS => ?_)
  have hP : va_P g.1 vwCl [(h0, .inr (6, [.ref q7, .int z1, .long z2, .int z3, .int z4, .ref q15, .int z6, .int z7, .ref q23, .ref q31, .null, .null, .int z12, .int z13, .null, .null, .long z16, .null, .null])), (q7, .inl (gI g, 64, .inl (fun _ => 0))), (q15, .inl (gJ g, 6, .inr (.inl (fun _ => 0)))), (q23, .inl (gJ g, 42, .inr (.inl (fun _ => 0)))), (q31, .inl (gI g, 85, .inl (fun _ => 0))), (q39, .inl (gI g, 64, .inl (fun _ => 0)))] H := hP
  have hD : va_D A [(h0, .inr (6, [.ref q7, .int z1, .long z2, .int z3, .int z4, .ref q15, .int z6, .int z7, .ref q23, .ref q31, .null, .null, .int z12, .int z13, .null, .null, .long z16, .null, .null])), (q7, .inl (gI g, 64, .inl (fun _ => 0))), (q15, .inl (gJ g, 6, .inr (.inl (fun _ => 0)))), (q23, .inl (gJ g, 42, .inr (.inl (fun _ => 0)))), (q31, .inl (gI g, 85, .inl (fun _ => 0))), (q39, .inl (gI g, 64, .inl (fun _ => 0)))] := hD
  refine W.widen (k := 5) (n := 261) (by omega) (by omega) ?_
  refine va_putF (D := g.1) (ci := 6) (v := .ref q39) (ty := (.array .int)) (C := RX7) (T := TX7) (N := 19) hx hb hw inlX7 tyX7 tyX7_ok nmX7 hown hkn.1 hP hD hS 0 rfl rfl 10 (by decide) (hw _ mw_77) (fun _ h9 => h9) rfl hin rfl (by decide +kernel) rfl rfl (Nat.le_of_ble_eq_true rfl) dX7_init_41 (fun H locs hP hD hS => ?_)
  have hP : va_P g.1 vwCl [(h0, .inr (6, [.ref q7, .int z1, .long z2, .int z3, .int z4, .ref q15, .int z6, .int z7, .ref q23, .ref q31, .ref q39, .null, .int z12, .int z13, .null, .null, .long z16, .null, .null])), (q7, .inl (gI g, 64, .inl (fun _ => 0))), (q15, .inl (gJ g, 6, .inr (.inl (fun _ => 0)))), (q23, .inl (gJ g, 42, .inr (.inl (fun _ => 0)))), (q31, .inl (gI g, 85, .inl (fun _ => 0))), (q39, .inl (gI g, 64, .inl (fun _ => 0)))] H := hP
  have hD : va_D A [(h0, .inr (6, [.ref q7, .int z1, .long z2, .int z3, .int z4, .ref q15, .int z6, .int z7, .ref q23, .ref q31, .ref q39, .null, .int z12, .int z13, .null, .null, .long z16, .null, .null])), (q7, .inl (gI g, 64, .inl (fun _ => 0))), (q15, .inl (gJ g, 6, .inr (.inl (fun _ => 0)))), (q23, .inl (gJ g, 42, .inr (.inl (fun _ => 0)))), (q31, .inl (gI g, 85, .inl (fun _ => 0))), (q39, .inl (gI g, 64, .inl (fun _ => 0)))] := hD
  refine lv_aload_n hx hb dX7_init_44 rfl (lv_at hl 0 rfl) ?_
  refine lv_bipush (v := 64) hx hb dX7_init_45 (by decide) ?_
  refine va_newG (t0 := 0) (atype := .int) (a0 := (64, .inl (fun _ => 0))) hx hb (hw _ mw_35) (ty := .int) rfl hkn.1 rfl hP hD hS hA (fun _ => rfl) (by decide) (by decide) (by decide) (Nat.le_of_ble_eq_true rfl) (Nat.le_of_ble_eq_true rfl) dX7_init_47 (fun q47 H hP hD hS => ?_)
  have hP : va_P g.1 vwCl [(h0, .inr (6, [.ref q7, .int z1, .long z2, .int z3, .int z4, .ref q15, .int z6, .int z7, .ref q23, .ref q31, .ref q39, .null, .int z12, .int z13, .null, .null, .long z16, .null, .null])), (q7, .inl (gI g, 64, .inl (fun _ => 0))), (q15, .inl (gJ g, 6, .inr (.inl (fun _ => 0)))), (q23, .inl (gJ g, 42, .inr (.inl (fun _ => 0)))), (q31, .inl (gI g, 85, .inl (fun _ => 0))), (q39, .inl (gI g, 64, .inl (fun _ => 0))), (q47, .inl (gI g, 64, .inl (fun _ => 0)))] H := hP
  have hD : va_D A [(h0, .inr (6, [.ref q7, .int z1, .long z2, .int z3, .int z4, .ref q15, .int z6, .int z7, .ref q23, .ref q31, .ref q39, .null, .int z12, .int z13, .null, .null, .long z16, .null, .null])), (q7, .inl (gI g, 64, .inl (fun _ => 0))), (q15, .inl (gJ g, 6, .inr (.inl (fun _ => 0)))), (q23, .inl (gJ g, 42, .inr (.inl (fun _ => 0)))), (q31, .inl (gI g, 85, .inl (fun _ => 0))), (q39, .inl (gI g, 64, .inl (fun _ => 0))), (q47, .inl (gI g, 64, .inl (fun _ => 0)))] := hD
  refine W.widen (k := 6) (n := 325) (by omega) (by omega) ?_
  refine va_putF (D := g.1) (ci := 6) (v := .ref q47) (ty := (.array .int)) (C := RX7) (T := TX7) (N := 19) hx hb hw inlX7 tyX7 tyX7_ok nmX7 hown hkn.1 hP hD hS 0 rfl rfl 11 (by decide) (hw _ mw_78) (fun _ h9 => h9) rfl hin rfl (by decide +kernel) rfl rfl (Nat.le_of_ble_eq_true rfl) dX7_init_49 (fun H locs hP hD hS => ?_)
  have hP : va_P g.1 vwCl [(h0, .inr (6, [.ref q7, .int z1, .long z2, .int z3, .int z4, .ref q15, .int z6, .int z7, .ref q23, .ref q31, .ref q39, .ref q47, .int z12, .int z13, .null, .null, .long z16, .null, .null])), (q7, .inl (gI g, 64, .inl (fun _ => 0))), (q15, .inl (gJ g, 6, .inr (.inl (fun _ => 0)))), (q23, .inl (gJ g, 42, .inr (.inl (fun _ => 0)))), (q31, .inl (gI g, 85, .inl (fun _ => 0))), (q39, .inl (gI g, 64, .inl (fun _ => 0))), (q47, .inl (gI g, 64, .inl (fun _ => 0)))] H := hP
  have hD : va_D A [(h0, .inr (6, [.ref q7, .int z1, .long z2, .int z3, .int z4, .ref q15, .int z6, .int z7, .ref q23, .ref q31, .ref q39, .ref q47, .int z12, .int z13, .null, .null, .long z16, .null, .null])), (q7, .inl (gI g, 64, .inl (fun _ => 0))), (q15, .inl (gJ g, 6, .inr (.inl (fun _ => 0)))), (q23, .inl (gJ g, 42, .inr (.inl (fun _ => 0)))), (q31, .inl (gI g, 85, .inl (fun _ => 0))), (q39, .inl (gI g, 64, .inl (fun _ => 0))), (q47, .inl (gI g, 64, .inl (fun _ => 0)))] := hD
  refine lv_aload_n hx hb dX7_init_52 rfl (lv_at hl 0 rfl) ?_
  refine lv_bipush (v := 6) hx hb dX7_init_53 (by decide) ?_
  refine va_newG (t0 := 0) (atype := .int) (a0 := (6, .inl (fun _ => 0))) hx hb (hw _ mw_35) (ty := .int) rfl hkn.1 rfl hP hD hS hA (fun _ => rfl) (by decide) (by decide) (by decide) (Nat.le_of_ble_eq_true rfl) (Nat.le_of_ble_eq_true rfl) dX7_init_55 (fun q55 H hP hD hS => ?_)
  have hP : va_P g.1 vwCl [(h0, .inr (6, [.ref q7, .int z1, .long z2, .int z3, .int z4, .ref q15, .int z6, .int z7, .ref q23, .ref q31, .ref q39, .ref q47, .int z12, .int z13, .null, .null, .long z16, .null, .null])), (q7, .inl (gI g, 64, .inl (fun _ => 0))), (q15, .inl (gJ g, 6, .inr (.inl (fun _ => 0)))), (q23, .inl (gJ g, 42, .inr (.inl (fun _ => 0)))), (q31, .inl (gI g, 85, .inl (fun _ => 0))), (q39, .inl (gI g, 64, .inl (fun _ => 0))), (q47, .inl (gI g, 64, .inl (fun _ => 0))), (q55, .inl (gI g, 6, .inl (fun _ => 0)))] H := hP
  have hD : va_D A [(h0, .inr (6, [.ref q7, .int z1, .long z2, .int z3, .int z4, .ref q15, .int z6, .int z7, .ref q23, .ref q31, .ref q39, .ref q47, .int z12, .int z13, .null, .null, .long z16, .null, .null])), (q7, .inl (gI g, 64, .inl (fun _ => 0))), (q15, .inl (gJ g, 6, .inr (.inl (fun _ => 0)))), (q23, .inl (gJ g, 42, .inr (.inl (fun _ => 0)))), (q31, .inl (gI g, 85, .inl (fun _ => 0))), (q39, .inl (gI g, 64, .inl (fun _ => 0))), (q47, .inl (gI g, 64, .inl (fun _ => 0))), (q55, .inl (gI g, 6, .inl (fun _ => 0)))] := hD
  refine W.widen (k := 7) (n := 331) (by omega) (by omega) ?_
  refine va_putF (D := g.1) (ci := 6) (v := .ref q55) (ty := (.array .int)) (C := RX7) (T := TX7) (N := 19) hx hb hw inlX7 tyX7 tyX7_ok nmX7 hown hkn.1 hP hD hS 0 rfl rfl 14 (by decide) (hw _ mw_79) (fun _ h9 => h9) rfl hin rfl (by decide +kernel) rfl rfl (Nat.le_of_ble_eq_true rfl) dX7_init_57 (fun H locs hP hD hS => ?_)
  have hP : va_P g.1 vwCl [(h0, .inr (6, [.ref q7, .int z1, .long z2, .int z3, .int z4, .ref q15, .int z6, .int z7, .ref q23, .ref q31, .ref q39, .ref q47, .int z12, .int z13, .ref q55, .null, .long z16, .null, .null])), (q7, .inl (gI g, 64, .inl (fun _ => 0))), (q15, .inl (gJ g, 6, .inr (.inl (fun _ => 0)))), (q23, .inl (gJ g, 42, .inr (.inl (fun _ => 0)))), (q31, .inl (gI g, 85, .inl (fun _ => 0))), (q39, .inl (gI g, 64, .inl (fun _ => 0))), (q47, .inl (gI g, 64, .inl (fun _ => 0))), (q55, .inl (gI g, 6, .inl (fun _ => 0)))] H := hP
  have hD : va_D A [(h0, .inr (6, [.ref q7, .int z1, .long z2, .int z3, .int z4, .ref q15, .int z6, .int z7, .ref q23, .ref q31, .ref q39, .ref q47, .int z12, .int z13, .ref q55, .null, .long z16, .null, .null])), (q7, .inl (gI g, 64, .inl (fun _ => 0))), (q15, .inl (gJ g, 6, .inr (.inl (fun _ => 0)))), (q23, .inl (gJ g, 42, .inr (.inl (fun _ => 0)))), (q31, .inl (gI g, 85, .inl (fun _ => 0))), (q39, .inl (gI g, 64, .inl (fun _ => 0))), (q47, .inl (gI g, 64, .inl (fun _ => 0))), (q55, .inl (gI g, 6, .inl (fun _ => 0)))] := hD
  refine lv_aload_n hx hb dX7_init_60 rfl (lv_at hl 0 rfl) ?_
  refine lv_bipush (v := 6) hx hb dX7_init_61 (by decide) ?_
  refine va_newG (t0 := 0) (atype := .int) (a0 := (6, .inl (fun _ => 0))) hx hb (hw _ mw_35) (ty := .int) rfl hkn.1 rfl hP hD hS hA (fun _ => rfl) (by decide) (by decide) (by decide) (Nat.le_of_ble_eq_true rfl) (Nat.le_of_ble_eq_true rfl) dX7_init_63 (fun q63 H hP hD hS => ?_)
  have hP : va_P g.1 vwCl [(h0, .inr (6, [.ref q7, .int z1, .long z2, .int z3, .int z4, .ref q15, .int z6, .int z7, .ref q23, .ref q31, .ref q39, .ref q47, .int z12, .int z13, .ref q55, .null, .long z16, .null, .null])), (q7, .inl (gI g, 64, .inl (fun _ => 0))), (q15, .inl (gJ g, 6, .inr (.inl (fun _ => 0)))), (q23, .inl (gJ g, 42, .inr (.inl (fun _ => 0)))), (q31, .inl (gI g, 85, .inl (fun _ => 0))), (q39, .inl (gI g, 64, .inl (fun _ => 0))), (q47, .inl (gI g, 64, .inl (fun _ => 0))), (q55, .inl (gI g, 6, .inl (fun _ => 0))), (q63, .inl (gI g, 6, .inl (fun _ => 0)))] H := hP
  have hD : va_D A [(h0, .inr (6, [.ref q7, .int z1, .long z2, .int z3, .int z4, .ref q15, .int z6, .int z7, .ref q23, .ref q31, .ref q39, .ref q47, .int z12, .int z13, .ref q55, .null, .long z16, .null, .null])), (q7, .inl (gI g, 64, .inl (fun _ => 0))), (q15, .inl (gJ g, 6, .inr (.inl (fun _ => 0)))), (q23, .inl (gJ g, 42, .inr (.inl (fun _ => 0)))), (q31, .inl (gI g, 85, .inl (fun _ => 0))), (q39, .inl (gI g, 64, .inl (fun _ => 0))), (q47, .inl (gI g, 64, .inl (fun _ => 0))), (q55, .inl (gI g, 6, .inl (fun _ => 0))), (q63, .inl (gI g, 6, .inl (fun _ => 0)))] := hD
  refine W.widen (k := 8) (n := 337) (by omega) (by omega) ?_
  refine va_putF (D := g.1) (ci := 6) (v := .ref q63) (ty := (.array .int)) (C := RX7) (T := TX7) (N := 19) hx hb hw inlX7 tyX7 tyX7_ok nmX7 hown hkn.1 hP hD hS 0 rfl rfl 15 (by decide) (hw _ mw_80) (fun _ h9 => h9) rfl hin rfl (by decide +kernel) rfl rfl (Nat.le_of_ble_eq_true rfl) dX7_init_65 (fun H locs hP hD hS => ?_)
  have hP : va_P g.1 vwCl [(h0, .inr (6, [.ref q7, .int z1, .long z2, .int z3, .int z4, .ref q15, .int z6, .int z7, .ref q23, .ref q31, .ref q39, .ref q47, .int z12, .int z13, .ref q55, .ref q63, .long z16, .null, .null])), (q7, .inl (gI g, 64, .inl (fun _ => 0))), (q15, .inl (gJ g, 6, .inr (.inl (fun _ => 0)))), (q23, .inl (gJ g, 42, .inr (.inl (fun _ => 0)))), (q31, .inl (gI g, 85, .inl (fun _ => 0))), (q39, .inl (gI g, 64, .inl (fun _ => 0))), (q47, .inl (gI g, 64, .inl (fun _ => 0))), (q55, .inl (gI g, 6, .inl (fun _ => 0))), (q63, .inl (gI g, 6, .inl (fun _ => 0)))] H := hP
  have hD : va_D A [(h0, .inr (6, [.ref q7, .int z1, .long z2, .int z3, .int z4, .ref q15, .int z6, .int z7, .ref q23, .ref q31, .ref q39, .ref q47, .int z12, .int z13, .ref q55, .ref q63, .long z16, .null, .null])), (q7, .inl (gI g, 64, .inl (fun _ => 0))), (q15, .inl (gJ g, 6, .inr (.inl (fun _ => 0)))), (q23, .inl (gJ g, 42, .inr (.inl (fun _ => 0)))), (q31, .inl (gI g, 85, .inl (fun _ => 0))), (q39, .inl (gI g, 64, .inl (fun _ => 0))), (q47, .inl (gI g, 64, .inl (fun _ => 0))), (q55, .inl (gI g, 6, .inl (fun _ => 0))), (q63, .inl (gI g, 6, .inl (fun _ => 0)))] := hD
  refine lv_aload_n hx hb dX7_init_68 rfl (lv_at hl 0 rfl) ?_
  refine lv_iconst (v := 2) hx hb dX7_init_69 (by decide) ?_
  refine va_newG (t0 := 2) (atype := .boolean) (a0 := (2, .inl (fun _ => 0))) hx hb (hw _ mw_66) (ty := .boolean) rfl hkn.1 rfl hP hD hS hA (fun _ => rfl) (by decide) (by decide) (by decide) (Nat.le_of_ble_eq_true rfl) (Nat.le_of_ble_eq_true rfl) dX7_init_70 (fun q70 H hP hD hS => ?_)
  have hP : va_P g.1 vwCl [(h0, .inr (6, [.ref q7, .int z1, .long z2, .int z3, .int z4, .ref q15, .int z6, .int z7, .ref q23, .ref q31, .ref q39, .ref q47, .int z12, .int z13, .ref q55, .ref q63, .long z16, .null, .null])), (q7, .inl (gI g, 64, .inl (fun _ => 0))), (q15, .inl (gJ g, 6, .inr (.inl (fun _ => 0)))), (q23, .inl (gJ g, 42, .inr (.inl (fun _ => 0)))), (q31, .inl (gI g, 85, .inl (fun _ => 0))), (q39, .inl (gI g, 64, .inl (fun _ => 0))), (q47, .inl (gI g, 64, .inl (fun _ => 0))), (q55, .inl (gI g, 6, .inl (fun _ => 0))), (q63, .inl (gI g, 6, .inl (fun _ => 0))), (q70, .inl (gZ g, 2, .inl (fun _ => 0)))] H := hP
  have hD : va_D A [(h0, .inr (6, [.ref q7, .int z1, .long z2, .int z3, .int z4, .ref q15, .int z6, .int z7, .ref q23, .ref q31, .ref q39, .ref q47, .int z12, .int z13, .ref q55, .ref q63, .long z16, .null, .null])), (q7, .inl (gI g, 64, .inl (fun _ => 0))), (q15, .inl (gJ g, 6, .inr (.inl (fun _ => 0)))), (q23, .inl (gJ g, 42, .inr (.inl (fun _ => 0)))), (q31, .inl (gI g, 85, .inl (fun _ => 0))), (q39, .inl (gI g, 64, .inl (fun _ => 0))), (q47, .inl (gI g, 64, .inl (fun _ => 0))), (q55, .inl (gI g, 6, .inl (fun _ => 0))), (q63, .inl (gI g, 6, .inl (fun _ => 0))), (q70, .inl (gZ g, 2, .inl (fun _ => 0)))] := hD
  refine W.widen (k := 9) (n := 339) (by omega) (by omega) ?_
  refine va_putF (D := g.1) (ci := 6) (v := .ref q70) (ty := (.array .boolean)) (C := RX7) (T := TX7) (N := 19) hx hb hw inlX7 tyX7 tyX7_ok nmX7 hown hkn.1 hP hD hS 0 rfl rfl 17 (by decide) (hw _ mw_81) (fun _ h9 => h9) rfl hin rfl (by decide +kernel) rfl rfl (Nat.le_of_ble_eq_true rfl) dX7_init_72 (fun H locs hP hD hS => ?_)
  have hP : va_P g.1 vwCl [(h0, .inr (6, [.ref q7, .int z1, .long z2, .int z3, .int z4, .ref q15, .int z6, .int z7, .ref q23, .ref q31, .ref q39, .ref q47, .int z12, .int z13, .ref q55, .ref q63, .long z16, .ref q70, .null])), (q7, .inl (gI g, 64, .inl (fun _ => 0))), (q15, .inl (gJ g, 6, .inr (.inl (fun _ => 0)))), (q23, .inl (gJ g, 42, .inr (.inl (fun _ => 0)))), (q31, .inl (gI g, 85, .inl (fun _ => 0))), (q39, .inl (gI g, 64, .inl (fun _ => 0))), (q47, .inl (gI g, 64, .inl (fun _ => 0))), (q55, .inl (gI g, 6, .inl (fun _ => 0))), (q63, .inl (gI g, 6, .inl (fun _ => 0))), (q70, .inl (gZ g, 2, .inl (fun _ => 0)))] H := hP
  have hD : va_D A [(h0, .inr (6, [.ref q7, .int z1, .long z2, .int z3, .int z4, .ref q15, .int z6, .int z7, .ref q23, .ref q31, .ref q39, .ref q47, .int z12, .int z13, .ref q55, .ref q63, .long z16, .ref q70, .null])), (q7, .inl (gI g, 64, .inl (fun _ => 0))), (q15, .inl (gJ g, 6, .inr (.inl (fun _ => 0)))), (q23, .inl (gJ g, 42, .inr (.inl (fun _ => 0)))), (q31, .inl (gI g, 85, .inl (fun _ => 0))), (q39, .inl (gI g, 64, .inl (fun _ => 0))), (q47, .inl (gI g, 64, .inl (fun _ => 0))), (q55, .inl (gI g, 6, .inl (fun _ => 0))), (q63, .inl (gI g, 6, .inl (fun _ => 0))), (q70, .inl (gZ g, 2, .inl (fun _ => 0)))] := hD
  refine lv_aload_n hx hb dX7_init_75 rfl (lv_at hl 0 rfl) ?_
  refine lv_bipush (v := 6) hx hb dX7_init_76 (by decide) ?_
  refine va_newG (t0 := 1) (atype := .long) (a0 := (6, .inr (.inl (fun _ => 0)))) hx hb (hw _ mw_41) (ty := .long) rfl hkn.1 rfl hP hD hS hA (fun _ => rfl) (by decide) (by decide) (by decide) (Nat.le_of_ble_eq_true rfl) (Nat.le_of_ble_eq_true rfl) dX7_init_78 (fun q78 H hP hD hS => ?_)
  have hP : va_P g.1 vwCl [(h0, .inr (6, [.ref q7, .int z1, .long z2, .int z3, .int z4, .ref q15, .int z6, .int z7, .ref q23, .ref q31, .ref q39, .ref q47, .int z12, .int z13, .ref q55, .ref q63, .long z16, .ref q70, .null])), (q7, .inl (gI g, 64, .inl (fun _ => 0))), (q15, .inl (gJ g, 6, .inr (.inl (fun _ => 0)))), (q23, .inl (gJ g, 42, .inr (.inl (fun _ => 0)))), (q31, .inl (gI g, 85, .inl (fun _ => 0))), (q39, .inl (gI g, 64, .inl (fun _ => 0))), (q47, .inl (gI g, 64, .inl (fun _ => 0))), (q55, .inl (gI g, 6, .inl (fun _ => 0))), (q63, .inl (gI g, 6, .inl (fun _ => 0))), (q70, .inl (gZ g, 2, .inl (fun _ => 0))), (q78, .inl (gJ g, 6, .inr (.inl (fun _ => 0))))] H := hP
  have hD : va_D A [(h0, .inr (6, [.ref q7, .int z1, .long z2, .int z3, .int z4, .ref q15, .int z6, .int z7, .ref q23, .ref q31, .ref q39, .ref q47, .int z12, .int z13, .ref q55, .ref q63, .long z16, .ref q70, .null])), (q7, .inl (gI g, 64, .inl (fun _ => 0))), (q15, .inl (gJ g, 6, .inr (.inl (fun _ => 0)))), (q23, .inl (gJ g, 42, .inr (.inl (fun _ => 0)))), (q31, .inl (gI g, 85, .inl (fun _ => 0))), (q39, .inl (gI g, 64, .inl (fun _ => 0))), (q47, .inl (gI g, 64, .inl (fun _ => 0))), (q55, .inl (gI g, 6, .inl (fun _ => 0))), (q63, .inl (gI g, 6, .inl (fun _ => 0))), (q70, .inl (gZ g, 2, .inl (fun _ => 0))), (q78, .inl (gJ g, 6, .inr (.inl (fun _ => 0))))] := hD
  refine W.widen (k := 10) (n := 345) (by omega) (by omega) ?_
  refine va_putF (D := g.1) (ci := 6) (v := .ref q78) (ty := (.array .long)) (C := RX7) (T := TX7) (N := 19) hx hb hw inlX7 tyX7 tyX7_ok nmX7 hown hkn.1 hP hD hS 0 rfl rfl 18 (by decide) (hw _ mw_82) (fun _ h9 => h9) rfl hin rfl (by decide +kernel) rfl rfl (Nat.le_of_ble_eq_true rfl) dX7_init_80 (fun H locs hP hD hS => ?_)
  have hP : va_P g.1 vwCl [(h0, .inr (6, [.ref q7, .int z1, .long z2, .int z3, .int z4, .ref q15, .int z6, .int z7, .ref q23, .ref q31, .ref q39, .ref q47, .int z12, .int z13, .ref q55, .ref q63, .long z16, .ref q70, .ref q78])), (q7, .inl (gI g, 64, .inl (fun _ => 0))), (q15, .inl (gJ g, 6, .inr (.inl (fun _ => 0)))), (q23, .inl (gJ g, 42, .inr (.inl (fun _ => 0)))), (q31, .inl (gI g, 85, .inl (fun _ => 0))), (q39, .inl (gI g, 64, .inl (fun _ => 0))), (q47, .inl (gI g, 64, .inl (fun _ => 0))), (q55, .inl (gI g, 6, .inl (fun _ => 0))), (q63, .inl (gI g, 6, .inl (fun _ => 0))), (q70, .inl (gZ g, 2, .inl (fun _ => 0))), (q78, .inl (gJ g, 6, .inr (.inl (fun _ => 0))))] H := hP
  have hD : va_D A [(h0, .inr (6, [.ref q7, .int z1, .long z2, .int z3, .int z4, .ref q15, .int z6, .int z7, .ref q23, .ref q31, .ref q39, .ref q47, .int z12, .int z13, .ref q55, .ref q63, .long z16, .ref q70, .ref q78])), (q7, .inl (gI g, 64, .inl (fun _ => 0))), (q15, .inl (gJ g, 6, .inr (.inl (fun _ => 0)))), (q23, .inl (gJ g, 42, .inr (.inl (fun _ => 0)))), (q31, .inl (gI g, 85, .inl (fun _ => 0))), (q39, .inl (gI g, 64, .inl (fun _ => 0))), (q47, .inl (gI g, 64, .inl (fun _ => 0))), (q55, .inl (gI g, 6, .inl (fun _ => 0))), (q63, .inl (gI g, 6, .inl (fun _ => 0))), (q70, .inl (gZ g, 2, .inl (fun _ => 0))), (q78, .inl (gJ g, 6, .inr (.inl (fun _ => 0))))] := hD
  exact eM_v (g := g) hx hb hr hlocks (q7, q15, q23, q31, q39, q47, q55, q63, q70, q78) (trivial) (hP.sub [0, 1, 2, 3, 4, 5, 6, 7, 8, 9, 10] rfl) (hD.sub [0, 1, 2, 3, 4, 5, 6, 7, 8, 9, 10] (by decide) rfl) hS dX7_init_83
