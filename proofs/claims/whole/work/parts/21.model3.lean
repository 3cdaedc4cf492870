/-! The reference: acts, looks. -/
theorem pic_i {f : Nat → Int64} {x : Int32} (h : isPic x = true) : picS f x = f x.toNatClampNeg := if_pos h
theorem set_i {f : Nat → Int64} {x : Int32} {v : Int64} (h : isPic x = true) : setS f x v = vp_updL f x.toNatClampNeg v := if_pos h
theorem updL_at (f : Nat → Int64) (k : Nat) (v : Int64) : vp_updL f k v k = v := if_pos rfl
theorem mx_cmb {a b : Int64} : mxS 0 a b = cmbS 1 a b ∧ mxS 1 a b = cmbS 2 a b ∧ mxS 2 a b = cmbS 3 a b := ⟨rfl, rfl, rfl⟩
def tcF (mk : Int64) (x : Int32) (f : Nat → Int32) : Nat → Int32 := fun k => if bt mk k = true then x else f k
theorem tc_y {mk : Int64} {x : Int32} {f : Nat → Int32} {i : Nat} (h : bt mk i = true) : upd (fun k => if bt mk k = true ∧ k < i then x else f k) i x = fun k => if bt mk k = true ∧ k < i + 1 then x else f k := by
  funext k
  unfold upd
  by_cases q : k = i
  · subst q; rw [if_pos rfl, if_pos ⟨h, by omega⟩]
  · rw [if_neg q]
    dsimp only
    by_cases z : bt mk k = true ∧ k < i
    · rw [if_pos z, if_pos ⟨z.1, by omega⟩]
    · rw [if_neg z, if_neg (fun y => z ⟨y.1, by omega⟩)]
theorem tc_n {mk : Int64} {x : Int32} {f : Nat → Int32} {i : Nat} (h : ¬ bt mk i = true) : (fun k => if bt mk k = true ∧ k < i then x else f k) = fun k => if bt mk k = true ∧ k < i + 1 then x else f k := by
  funext k
  by_cases z : bt mk k = true ∧ k < i
  · rw [if_pos z, if_pos ⟨z.1, by omega⟩]
  · rw [if_neg z, if_neg (fun y => z ⟨y.1, by
      have : k ≠ i := fun q => h (by rw [← q]; exact y.1)
      omega⟩)]
theorem tc_end {mk : Int64} {x : Int32} {f : Nat → Int32} : tcF mk x f = fun k => if bt mk k = true ∧ k < 64 then x else f k := by
  funext k
  unfold tcF
  by_cases z : bt mk k = true
  · rw [if_pos z, if_pos ⟨z, by
      by_cases q : k < 64
      · exact q
      · rw [bt_big (by omega)] at z; exact absurd z (by decide)⟩]
  · rw [if_neg z, if_neg (fun y => z y.1)]
theorem ord_le {p d : Nat} (ho : okW p d) : ordW p d ≤ 88 := by have h1 := ho.1; have h2 := ho.2.1; unfold ordW; omega
theorem ord_lt {p d : Nat} (ho : okW p d) (hp : p < 64) : ordW p d < 85 := ok_fin (P := fun p d => ordW p d < 85) (by decide +kernel) ho hp
theorem lett_s {v : Int64} {i : Nat} {l : Nat → Int32} {x : Int32} (h : lettQ v i l) (hp : (wkS v i).1 < 64) (hx : x = sgW v (wkS v i).1 (wkS v i).2) : lettQ v (i + 1) (upd l i x) := by
  intro j hj
  by_cases q : j = i
  · subst q; exact ⟨hp, by unfold upd; rw [if_pos rfl]; exact hx⟩
  · have h9 := h j (by omega)
    exact ⟨h9.1, by unfold upd; rw [if_neg q]; exact h9.2⟩
set_option maxHeartbeats 4000000 in
set_option maxRecDepth 100000 in
theorem c_X7_keepAct (l : Launch) (g : GG) (sz : Nat) (h0 : Nat) (d1 : Nat) (ln : Nat) (rd : Int64) (xd : Int32) (xq : Int32) (d2 : Nat) (an : Nat) (nx : Nat) (d3 : Nat) (d4 : Nat) (d5 : Nat) (d6 : Nat) (xm : Int32) (zn : Nat) (d7 : Nat) (d8 : Nat) (sd : Int64) (d9 : Nat) (d0 : Nat) (nw : Nat → Int64) (rw : Nat → Int64) (han : an ≤ 14) (hnx : nx < 14) : Met l yX7_keepAct (Cond.code yX7_keepAct cX7_keepAct 2 none :: wsL_law) ({ frames := 0, cells := 0, slots := 0, locals := 0 }) (PM g [.ref h0] [(h0, .inr (6, [.ref d1, .int (nI ln), .long rd, .int xd, .int xq, .ref d2, .int (nI an), .int (nI nx), .ref d3, .ref d4, .ref d5, .ref d6, .int xm, .int (nI zn), .ref d7, .ref d8, .long sd, .ref d9, .ref d0])), (d2, .inl (gJ g, 6, .inr (.inl nw))), (d3, .inl (gJ g, 42, .inr (.inl rw)))] sz) (QAv g (fun (u : Unit) => True) (fun (u : Unit) => [(h0, .inr (6, [.ref d1, .int (nI ln), .long rd, .int xd, .int xq, .ref d2, .int (nI (acN an)), .int (nI ((nx + 1) % 14)), .ref d3, .ref d4, .ref d5, .ref d6, .int xm, .int (nI zn), .ref d7, .ref d8, .long sd, .ref d9, .ref d0])), (d2, .inl (gJ g, 6, .inr (.inl nw))), (d3, .inl (gJ g, 42, .inr (.inl (rkF nx nw rw))))]) (va_A [(h0, .inr (6, [.ref d1, .int (nI ln), .long rd, .int xd, .int xq, .ref d2, .int (nI an), .int (nI nx), .ref d3, .ref d4, .ref d5, .ref d6, .int xm, .int (nI zn), .ref d7, .ref d8, .long sd, .ref d9, .ref d0])), (d2, .inl (gJ g, 6, .inr (.inl nw))), (d3, .inl (gJ g, 42, .inr (.inl rw)))] sz)) 0 0 (va_A [(h0, .inr (6, [.ref d1, .int (nI ln), .long rd, .int xd, .int xq, .ref d2, .int (nI an), .int (nI nx), .ref d3, .ref d4, .ref d5, .ref d6, .int xm, .int (nI zn), .ref d7, .ref d8, .long sd, .ref d9, .ref d0])), (d2, .inl (gJ g, 6, .inr (.inl nw))), (d3, .inl (gJ g, 42, .inr (.inl rw)))] sz) := by
  refine Met.M (Qc := fun A => QAv g (fun (u : Unit) => True) (fun (u : Unit) => [(h0, .inr (6, [.ref d1, .int (nI ln), .long rd, .int xd, .int xq, .ref d2, .int (nI (acN an)), .int (nI ((nx + 1) % 14)), .ref d3, .ref d4, .ref d5, .ref d6, .int xm, .int (nI zn), .ref d7, .ref d8, .long sd, .ref d9, .ref d0])), (d2, .inl (gJ g, 6, .inr (.inl nw))), (d3, .inl (gJ g, 42, .inr (.inl (rkF nx nw rw))))]) A) (by decide) (Nat.le_of_ble_eq_true rfl) rfl ?_
  intro p e s m below meth c hx hb hr hml hw hown hlocks hin A hA hkn hP hD ls hl
  have hl : lv_has ls 2 [(0, .ref h0)] := hl
  have hS : va_S A s.heap s.heap [] := va_S.rf
  obtain ⟨H, hHe⟩ : ∃ H, H = s.heap := ⟨_, rfl⟩
  obtain ⟨locs, hLe⟩ : ∃ locs : List Loc, locs = [] := ⟨_, rfl⟩
  have hP : va_P g.1 vwCl [(h0, .inr (6, [.ref d1, .int (nI ln), .long rd, .int xd, .int xq, .ref d2, .int (nI an), .int (nI nx), .ref d3, .ref d4, .ref d5, .ref d6, .int xm, .int (nI zn), .ref d7, .ref d8, .long sd, .ref d9, .ref d0])), (d2, .inl (gJ g, 6, .inr (.inl nw))), (d3, .inl (gJ g, 42, .inr (.inl rw)))] H := by rw [hHe]; exact hP
  have hS : va_S A s.heap H locs := by rw [hHe, hLe]; exact hS
  have hgo : W p l e ({ frames := 0, cells := 0, slots := 0, locals := 0 } : Room) s m ([.ref h0] : List Value).toArray below meth c H locs 0 0 (MQ below (QAv g (fun (u : Unit) => True) (fun (u : Unit) => [(h0, .inr (6, [.ref d1, .int (nI ln), .long rd, .int xd, .int xq, .ref d2, .int (nI (acN an)), .int (nI ((nx + 1) % 14)), .ref d3, .ref d4, .ref d5, .ref d6, .int xm, .int (nI zn), .ref d7, .ref d8, .long sd, .ref d9, .ref d0])), (d2, .inl (gJ g, 6, .inr (.inl nw))), (d3, .inl (gJ g, 42, .inr (.inl (rkF nx nw rw))))]) A) ([.ref h0] : List Value).toArray s 0 0 A) (F0 m 0 ls []) := ?_
  · rw [hHe, hLe] at hgo; exact hgo
  clear hHe hLe
  refine lv_iconst (v := 0) hx hb dX7_keepAct_0 (by decide) ?_
  refine lv_istore_n (lv' := [(1, .int 0), (0, .ref h0)]) hx hb dX7_keepAct_1 rfl hl (by decide) rfl (fun ls hl => ?_)
  have lp_2 : ∀ (n_2 : Nat) (i : Nat) (r1 : Nat → Int64), (i ≤ 3) → (r1 = fun t => if 3 * nx ≤ t ∧ t < 3 * nx + i then nw (t - 3 * nx) else rw t) → 3 < i + n_2 → ∀ (H : Heap) (locs : List Loc), va_P g.1 vwCl [(h0, .inr (6, [.ref d1, .int (nI ln), .long rd, .int xd, .int xq, .ref d2, .int (nI an), .int (nI nx), .ref d3, .ref d4, .ref d5, .ref d6, .int xm, .int (nI zn), .ref d7, .ref d8, .long sd, .ref d9, .ref d0])), (d2, .inl (gJ g, 6, .inr (.inl nw))), (d3, .inl (gJ g, 42, .inr (.inl r1)))] H → va_D A [(h0, .inr (6, [.ref d1, .int (nI ln), .long rd, .int xd, .int xq, .ref d2, .int (nI an), .int (nI nx), .ref d3, .ref d4, .ref d5, .ref d6, .int xm, .int (nI zn), .ref d7, .ref d8, .long sd, .ref d9, .ref d0])), (d2, .inl (gJ g, 6, .inr (.inl nw))), (d3, .inl (gJ g, 42, .inr (.inl r1)))] → va_S A s.heap H locs → ∀ (ls : Array Slot), lv_has ls 2 [(1, .int (nI i)), (0, .ref h0)] → W p l e ({ frames := 0, cells := 0, slots := 0, locals := 0 } : Room) s m ([.ref h0] : List Value).toArray below meth c H locs 0 0 (MQ below (QAv g (fun (u : Unit) => True) (fun (u : Unit) => [(h0, .inr (6, [.ref d1, .int (nI ln), .long rd, .int xd, .int xq, .ref d2, .int (nI (acN an)), .int (nI ((nx + 1) % 14)), .ref d3, .ref d4, .ref d5, .ref d6, .int xm, .int (nI zn), .ref d7, .ref d8, .long sd, .ref d9, .ref d0])), (d2, .inl (gJ g, 6, .inr (.inl nw))), (d3, .inl (gJ g, 42, .inr (.inl (rkF nx nw rw))))]) A) ([.ref h0] : List Value).toArray s 0 0 A) (F0 m 2 ls []) := by
    intro n_2
    induction n_2 with
    | zero => intro i r1 h_i h_r hfu_2; exact absurd hfu_2 (by omega)
    | succ n_2 ih_2 =>
      intro i r1 h_i h_r hfu_2 H locs hP hD hS ls hl
      refine lv_iload_n hx hb dX7_keepAct_2 rfl (lv_at hl 0 rfl) ?_
      refine lv_iconst (v := 3) hx hb dX7_keepAct_3 (by decide) ?_
      refine ic_ge (a := i) (d := 3) (tgt := 32) hx hb dX7_keepAct_4 (by decide) rfl rfl (by omega) (by omega) (fun c_1 => ?_) (fun c_1 => ?_)
      · skip
        refine lv_aload_n hx hb dX7_keepAct_32 rfl (lv_at hl 1 rfl) ?_
        refine lv_aload_n hx hb dX7_keepAct_33 rfl (lv_at hl 1 rfl) ?_
        refine va_get (D := g.1) (ci := 6) (v := .int (nI nx)) (C := RX7) (T := TX7) (N := 19) hx hb hw inlX7 hown hkn.1 hP 0 rfl rfl 7 (by decide) (hw _ mw_252) (fun _ h9 => h9) rfl dX7_keepAct_34 ?_
        refine lv_iconst (v := 1) hx hb dX7_keepAct_37 (by decide) ?_
        refine lv_iadd hx hb dX7_keepAct_38 ?_
        refine lv_eqi (nI_add nx 1) ?_
        refine lv_bipush (v := 14) hx hb dX7_keepAct_39 (by decide) ?_
        refine lv_irem hx hb dX7_keepAct_41 (by decide) ?_
        refine lv_eqi (pk_rem (a := nx + 1) (d := 14) (by omega) (by omega) (by omega)) ?_
        refine va_put (D := g.1) (ci := 6) (v := .int (nI ((nx + 1) % 14))) (ty := .int) (C := RX7) (T := TX7) (N := 19) hx hb hw inlX7 tyX7 tyX7_ok nmX7 hown hkn.1 hP hD hS 0 rfl rfl 7 (by decide) (hw _ mw_252) (fun _ h9 => h9) rfl (by decide +kernel) rfl rfl (Nat.le_of_ble_eq_true rfl) dX7_keepAct_42 (fun H locs hP hD hS => ?_)
        have hP : va_P g.1 vwCl [(h0, .inr (6, [.ref d1, .int (nI ln), .long rd, .int xd, .int xq, .ref d2, .int (nI an), .int (nI ((nx + 1) % 14)), .ref d3, .ref d4, .ref d5, .ref d6, .int xm, .int (nI zn), .ref d7, .ref d8, .long sd, .ref d9, .ref d0])), (d2, .inl (gJ g, 6, .inr (.inl nw))), (d3, .inl (gJ g, 42, .inr (.inl r1)))] H := hP
        have hD : va_D A [(h0, .inr (6, [.ref d1, .int (nI ln), .long rd, .int xd, .int xq, .ref d2, .int (nI an), .int (nI ((nx + 1) % 14)), .ref d3, .ref d4, .ref d5, .ref d6, .int xm, .int (nI zn), .ref d7, .ref d8, .long sd, .ref d9, .ref d0])), (d2, .inl (gJ g, 6, .inr (.inl nw))), (d3, .inl (gJ g, 42, .inr (.inl r1)))] := hD
        refine lv_aload_n hx hb dX7_keepAct_45 rfl (lv_at hl 1 rfl) ?_
        refine lv_aload_n hx hb dX7_keepAct_46 rfl (lv_at hl 1 rfl) ?_
        refine va_get (D := g.1) (ci := 6) (v := .int (nI an)) (C := RX7) (T := TX7) (N := 19) hx hb hw inlX7 hown hkn.1 hP 0 rfl rfl 6 (by decide) (hw _ mw_253) (fun _ h9 => h9) rfl dX7_keepAct_47 ?_
        refine lv_bipush (v := 14) hx hb dX7_keepAct_50 (by decide) ?_
        have mg_66 : W p l e ({ frames := 0, cells := 0, slots := 0, locals := 0 } : Room) s m ([.ref h0] : List Value).toArray below meth c H locs 0 0 (MQ below (QAv g (fun (u : Unit) => True) (fun (u : Unit) => [(h0, .inr (6, [.ref d1, .int (nI ln), .long rd, .int xd, .int xq, .ref d2, .int (nI (acN an)), .int (nI ((nx + 1) % 14)), .ref d3, .ref d4, .ref d5, .ref d6, .int xm, .int (nI zn), .ref d7, .ref d8, .long sd, .ref d9, .ref d0])), (d2, .inl (gJ g, 6, .inr (.inl nw))), (d3, .inl (gJ g, 42, .inr (.inl (rkF nx nw rw))))]) A) ([.ref h0] : List Value).toArray s 0 0 A) (F0 m 66 ls (.int (if 14 ≤ an then 14 else (nI (an + 1))) :: [.ref h0])) := by
          refine lv_eqi (show _ = (nI (if 14 ≤ an then 14 else an + 1)) from ifI rfl rfl) ?_
          refine va_put (D := g.1) (ci := 6) (v := .int (nI (if 14 ≤ an then 14 else an + 1))) (ty := .int) (C := RX7) (T := TX7) (N := 19) hx hb hw inlX7 tyX7 tyX7_ok nmX7 hown hkn.1 hP hD hS 0 rfl rfl 6 (by decide) (hw _ mw_253) (fun _ h9 => h9) rfl (by decide +kernel) rfl rfl (Nat.le_of_ble_eq_true rfl) dX7_keepAct_66 (fun H locs hP hD hS => ?_)
          have hP : va_P g.1 vwCl [(h0, .inr (6, [.ref d1, .int (nI ln), .long rd, .int xd, .int xq, .ref d2, .int (nI (if 14 ≤ an then 14 else an + 1)), .int (nI ((nx + 1) % 14)), .ref d3, .ref d4, .ref d5, .ref d6, .int xm, .int (nI zn), .ref d7, .ref d8, .long sd, .ref d9, .ref d0])), (d2, .inl (gJ g, 6, .inr (.inl nw))), (d3, .inl (gJ g, 42, .inr (.inl r1)))] H := hP
          have hD : va_D A [(h0, .inr (6, [.ref d1, .int (nI ln), .long rd, .int xd, .int xq, .ref d2, .int (nI (if 14 ≤ an then 14 else an + 1)), .int (nI ((nx + 1) % 14)), .ref d3, .ref d4, .ref d5, .ref d6, .int xm, .int (nI zn), .ref d7, .ref d8, .long sd, .ref d9, .ref d0])), (d2, .inl (gJ g, 6, .inr (.inl nw))), (d3, .inl (gJ g, 42, .inr (.inl r1)))] := hD
          obtain rfl : i = 3 := by omega
          subst h_r
          have e1 : acN an = if 14 ≤ an then 14 else an + 1 := by unfold acN; split <;> split <;> omega
          exact eM_v (g := g) hx hb hr hlocks () (trivial) (show va_P g.1 vwCl [(h0, .inr (6, [.ref d1, .int (nI ln), .long rd, .int xd, .int xq, .ref d2, .int (nI (acN an)), .int (nI ((nx + 1) % 14)), .ref d3, .ref d4, .ref d5, .ref d6, .int xm, .int (nI zn), .ref d7, .ref d8, .long sd, .ref d9, .ref d0])), (d2, .inl (gJ g, 6, .inr (.inl nw))), (d3, .inl (gJ g, 42, .inr (.inl (rkF nx nw rw))))] H by rw [e1]; exact hP.sub [0, 1, 2] rfl) (show va_D A [(h0, .inr (6, [.ref d1, .int (nI ln), .long rd, .int xd, .int xq, .ref d2, .int (nI (acN an)), .int (nI ((nx + 1) % 14)), .ref d3, .ref d4, .ref d5, .ref d6, .int xm, .int (nI zn), .ref d7, .ref d8, .long sd, .ref d9, .ref d0])), (d2, .inl (gJ g, 6, .inr (.inl nw))), (d3, .inl (gJ g, 42, .inr (.inl (rkF nx nw rw))))] by rw [e1]; exact hD.sub [0, 1, 2] (by decide) rfl) hS dX7_keepAct_69
        refine ic_ge (a := an) (d := 14) (tgt := 64) hx hb dX7_keepAct_52 (by decide) rfl rfl (by omega) (by omega) (fun c_2 => ?_) (fun c_2 => ?_)
        · skip
          refine lv_bipush (v := 14) hx hb dX7_keepAct_64 (by decide) ?_
          exact lv_eqi (by rw [if_pos c_2]) mg_66
        · skip
          refine lv_aload_n hx hb dX7_keepAct_55 rfl (lv_at hl 1 rfl) ?_
          refine va_get (D := g.1) (ci := 6) (v := .int (nI an)) (C := RX7) (T := TX7) (N := 19) hx hb hw inlX7 hown hkn.1 hP 0 rfl rfl 6 (by decide) (hw _ mw_253) (fun _ h9 => h9) rfl dX7_keepAct_56 ?_
          refine lv_iconst (v := 1) hx hb dX7_keepAct_59 (by decide) ?_
          refine lv_iadd hx hb dX7_keepAct_60 ?_
          refine lv_eqi (nI_add an 1) ?_
          refine lv_goto (tgt := 66) hx hb dX7_keepAct_61 (by decide) ?_
          exact lv_eqi (by rw [if_neg (Nat.not_le.mpr c_2)]) mg_66
      · skip
        refine lv_aload_n hx hb dX7_keepAct_7 rfl (lv_at hl 1 rfl) ?_
        refine va_get (D := g.1) (ci := 6) (v := .ref d3) (C := RX7) (T := TX7) (N := 19) hx hb hw inlX7 hown hkn.1 hP 0 rfl rfl 8 (by decide) (hw _ mw_75) (fun _ h9 => h9) rfl dX7_keepAct_8 ?_
        refine lv_iconst (v := 3) hx hb dX7_keepAct_11 (by decide) ?_
        refine lv_aload_n hx hb dX7_keepAct_12 rfl (lv_at hl 1 rfl) ?_
        refine va_get (D := g.1) (ci := 6) (v := .int (nI nx)) (C := RX7) (T := TX7) (N := 19) hx hb hw inlX7 hown hkn.1 hP 0 rfl rfl 7 (by decide) (hw _ mw_252) (fun _ h9 => h9) rfl dX7_keepAct_13 ?_
        refine lv_imul hx hb dX7_keepAct_16 ?_
        refine lv_eqi (pk_mul 3 nx) ?_
        refine lv_iload_n hx hb dX7_keepAct_17 rfl (lv_at hl 0 rfl) ?_
        refine lv_iadd hx hb dX7_keepAct_18 ?_
        refine lv_eqi (nI_add (3 * nx) i) ?_
        refine lv_aload_n hx hb dX7_keepAct_19 rfl (lv_at hl 1 rfl) ?_
        refine va_get (D := g.1) (ci := 6) (v := .ref d2) (C := RX7) (T := TX7) (N := 19) hx hb hw inlX7 hown hkn.1 hP 0 rfl rfl 5 (by decide) (hw _ mw_74) (fun _ h9 => h9) rfl dX7_keepAct_20 ?_
        refine lv_iload_n hx hb dX7_keepAct_23 rfl (lv_at hl 0 rfl) ?_
        refine va_lald hx hb hkn.1 hP 1 1 rfl rfl (vp_in_nI (n := i) (by omega) (by decide)) dX7_keepAct_24 ?_
        refine lv_eql (show _ = nw i by rw [nI_clamp (n := i) (by omega)]) ?_
        refine va_last hx hb hkn.1 hP hD hS 2 1 rfl rfl (vp_in_nI (n := 3 * nx + i) (by omega) (by decide)) dX7_keepAct_25 (fun H locs hP hD hS => ?_)
        rw [nI_clamp (n := 3 * nx + i) (by omega)] at hP hD
        have hP : va_P g.1 vwCl [(h0, .inr (6, [.ref d1, .int (nI ln), .long rd, .int xd, .int xq, .ref d2, .int (nI an), .int (nI nx), .ref d3, .ref d4, .ref d5, .ref d6, .int xm, .int (nI zn), .ref d7, .ref d8, .long sd, .ref d9, .ref d0])), (d2, .inl (gJ g, 6, .inr (.inl nw))), (d3, .inl (gJ g, 42, .inr (.inl (vp_updL r1 (3 * nx + i) (nw i)))))] H := hP
        have hD : va_D A [(h0, .inr (6, [.ref d1, .int (nI ln), .long rd, .int xd, .int xq, .ref d2, .int (nI an), .int (nI nx), .ref d3, .ref d4, .ref d5, .ref d6, .int xm, .int (nI zn), .ref d7, .ref d8, .long sd, .ref d9, .ref d0])), (d2, .inl (gJ g, 6, .inr (.inl nw))), (d3, .inl (gJ g, 42, .inr (.inl (vp_updL r1 (3 * nx + i) (nw i)))))] := hD
        refine lv_iinc (v := (nI (i + 1))) (lv' := [(1, .int (nI (i + 1))), (0, .ref h0)]) hx hb dX7_keepAct_26 hl (k := 0) rfl (nI_1 i) (by decide) rfl (fun ls hl => ?_)
        refine lv_goto (tgt := 2) hx hb dX7_keepAct_29 (by decide) ?_
        exact ih_2 (i + 1) (vp_updL r1 (3 * nx + i) (nw i)) (by omega) (by rw [h_r]; exact rk_step) (by omega) _ _ hP hD hS ls (lv_sub hl [0, 1] rfl)
  exact lp_2 4 0 rw (by omega) (by funext t; rw [if_neg (by omega)]) (by omega) _ _ hP hD hS ls (lv_sub hl [0, 1] rfl)
set_option maxHeartbeats 4000000 in
set_option maxRecDepth 100000 in
theorem c_X7_put (l : Launch) (g : GG) (sz : Nat) (h0 : Nat) (x0 : Int32) (d1 : Nat) (ln : Nat) (rd : Int64) (xd : Int32) (xq : Int32) (d2 : Nat) (an : Nat) (nx : Nat) (d3 : Nat) (d4 : Nat) (d5 : Nat) (d6 : Nat) (xm : Int32) (zn : Nat) (d7 : Nat) (d8 : Nat) (sd : Int64) (d9 : Nat) (d0 : Nat) (tl : Nat → Int32) (nw : Nat → Int64) (rw : Nat → Int64) (hln : ln ≤ 64) (han : an ≤ 14) (hnx : nx < 14) : Met l yX7_put (Cond.code yX7_put cX7_put 2 (some .int) :: wsL_law) ({ frames := 4, cells := 0, slots := 0, locals := 94 }) (PM g [.ref h0, .int x0] [(h0, .inr (6, [.ref d1, .int (nI ln), .long rd, .int xd, .int xq, .ref d2, .int (nI an), .int (nI nx), .ref d3, .ref d4, .ref d5, .ref d6, .int xm, .int (nI zn), .ref d7, .ref d8, .long sd, .ref d9, .ref d0])), (d1, .inl (gI g, 64, .inl tl)), (d2, .inl (gJ g, 6, .inr (.inl nw))), (d3, .inl (gJ g, 42, .inr (.inl rw)))] sz) (QAi g (fun (r : Int32) (u : Int64 × Int32 × Int32) => r = qPu tl ln x0) (fun (u : Int64 × Int32 × Int32) => [(h0, .inr (6, [.ref d1, .int (nI ln), .long u.1, .int u.2.1, .int u.2.2, .ref d2, .int (nI (cond (qPuB tl ln x0) (acN an) an)), .int (nI (cond (qPuB tl ln x0) ((nx + 1) % 14) nx)), .ref d3, .ref d4, .ref d5, .ref d6, .int xm, .int (nI zn), .ref d7, .ref d8, .long sd, .ref d9, .ref d0])), (d1, .inl (gI g, 64, .inl tl)), (d2, .inl (gJ g, 6, .inr (.inl (cond (qPuB tl ln x0) (setS nw x0 (ffA tl ln).2) nw)))), (d3, .inl (gJ g, 42, .inr (.inl (cond (qPuB tl ln x0) (rkF nx nw rw) rw))))]) (va_A [(h0, .inr (6, [.ref d1, .int (nI ln), .long rd, .int xd, .int xq, .ref d2, .int (nI an), .int (nI nx), .ref d3, .ref d4, .ref d5, .ref d6, .int xm, .int (nI zn), .ref d7, .ref d8, .long sd, .ref d9, .ref d0])), (d1, .inl (gI g, 64, .inl tl)), (d2, .inl (gJ g, 6, .inr (.inl nw))), (d3, .inl (gJ g, 42, .inr (.inl rw)))] sz)) 0 0 (va_A [(h0, .inr (6, [.ref d1, .int (nI ln), .long rd, .int xd, .int xq, .ref d2, .int (nI an), .int (nI nx), .ref d3, .ref d4, .ref d5, .ref d6, .int xm, .int (nI zn), .ref d7, .ref d8, .long sd, .ref d9, .ref d0])), (d1, .inl (gI g, 64, .inl tl)), (d2, .inl (gJ g, 6, .inr (.inl nw))), (d3, .inl (gJ g, 42, .inr (.inl rw)))] sz) := by
  refine Met.M (Qc := fun A => QAi g (fun (r : Int32) (u : Int64 × Int32 × Int32) => r = qPu tl ln x0) (fun (u : Int64 × Int32 × Int32) => [(h0, .inr (6, [.ref d1, .int (nI ln), .long u.1, .int u.2.1, .int u.2.2, .ref d2, .int (nI (cond (qPuB tl ln x0) (acN an) an)), .int (nI (cond (qPuB tl ln x0) ((nx + 1) % 14) nx)), .ref d3, .ref d4, .ref d5, .ref d6, .int xm, .int (nI zn), .ref d7, .ref d8, .long sd, .ref d9, .ref d0])), (d1, .inl (gI g, 64, .inl tl)), (d2, .inl (gJ g, 6, .inr (.inl (cond (qPuB tl ln x0) (setS nw x0 (ffA tl ln).2) nw)))), (d3, .inl (gJ g, 42, .inr (.inl (cond (qPuB tl ln x0) (rkF nx nw rw) rw))))]) A) (by decide) (Nat.le_of_ble_eq_true rfl) rfl ?_
  intro p e s m below meth c hx hb hr hml hw hown hlocks hin A hA hkn hP hD ls hl
  have hl : lv_has ls 2 [(0, .ref h0), (1, .int x0)] := hl
  have hS : va_S A s.heap s.heap [] := va_S.rf
  obtain ⟨H, hHe⟩ : ∃ H, H = s.heap := ⟨_, rfl⟩
  obtain ⟨locs, hLe⟩ : ∃ locs : List Loc, locs = [] := ⟨_, rfl⟩
  have hP : va_P g.1 vwCl [(h0, .inr (6, [.ref d1, .int (nI ln), .long rd, .int xd, .int xq, .ref d2, .int (nI an), .int (nI nx), .ref d3, .ref d4, .ref d5, .ref d6, .int xm, .int (nI zn), .ref d7, .ref d8, .long sd, .ref d9, .ref d0])), (d1, .inl (gI g, 64, .inl tl)), (d2, .inl (gJ g, 6, .inr (.inl nw))), (d3, .inl (gJ g, 42, .inr (.inl rw)))] H := by rw [hHe]; exact hP
  have hS : va_S A s.heap H locs := by rw [hHe, hLe]; exact hS
  have hgo : W p l e ({ frames := 4, cells := 0, slots := 0, locals := 94 } : Room) s m ([.ref h0, .int x0] : List Value).toArray below meth c H locs 0 0 (MQ below (QAi g (fun (r : Int32) (u : Int64 × Int32 × Int32) => r = qPu tl ln x0) (fun (u : Int64 × Int32 × Int32) => [(h0, .inr (6, [.ref d1, .int (nI ln), .long u.1, .int u.2.1, .int u.2.2, .ref d2, .int (nI (cond (qPuB tl ln x0) (acN an) an)), .int (nI (cond (qPuB tl ln x0) ((nx + 1) % 14) nx)), .ref d3, .ref d4, .ref d5, .ref d6, .int xm, .int (nI zn), .ref d7, .ref d8, .long sd, .ref d9, .ref d0])), (d1, .inl (gI g, 64, .inl tl)), (d2, .inl (gJ g, 6, .inr (.inl (cond (qPuB tl ln x0) (setS nw x0 (ffA tl ln).2) nw)))), (d3, .inl (gJ g, 42, .inr (.inl (cond (qPuB tl ln x0) (rkF nx nw rw) rw))))]) A) ([.ref h0, .int x0] : List Value).toArray s 0 0 A) (F0 m 0 ls []) := ?_
  · rw [hHe, hLe] at hgo; exact hgo
  clear hHe hLe
  refine lv_iload_n hx hb dX7_put_0 rfl (lv_at hl 1 rfl) ?_
  refine cS_i (As := [.int x0]) (rest := []) hx hb hml hown hw hkn hS hl (c_X7_isPicture l g _ x0 ) sf_X7_isPicture mw_245 ⟨(Nat.le_of_ble_eq_true rfl), (Nat.le_of_ble_eq_true rfl)⟩ rfl rfl rfl rfl (Nat.le_of_ble_eq_true rfl) dX7_put_1 ⟨(Nat.le_of_ble_eq_true rfl), (Nat.le_of_ble_eq_true rfl)⟩ ?_
  refine lv_ifneB (b := isPic x0) (tgt := 9) hx hb dX7_put_4 (by decide) (fun c_1 => ?_) (fun c_1 => ?_)
  · skip
    refine lv_aload_n hx hb dX7_put_9 rfl (lv_at hl 0 rfl) ?_
    refine cVM_i (As := []) (rest := []) (q0 := 0) (wc := [(h0, .inr (6, [.ref d1, .int (nI ln), .long rd, .int xd, .int xq, .ref d2, .int (nI an), .int (nI nx), .ref d3, .ref d4, .ref d5, .ref d6, .int xm, .int (nI zn), .ref d7, .ref d8, .long sd, .ref d9, .ref d0])), (d1, .inl (gI g, 64, .inl tl))]) (wr := [(d2, .inl (gJ g, 6, .inr (.inl nw))), (d3, .inl (gJ g, 42, .inr (.inl rw)))]) hx hb hml hown hw hkn hS hl hA hP hD [0, 1] [2, 3] rfl rfl (by decide) (by decide) (by decide) (c_X7_readText l g _ h0 d1 ln rd xd xq d2 an nx d3 d4 d5 d6 xm zn d7 d8 sd d9 d0 tl (by omega)) vf_X7_readText mw_173 rfl rfl ⟨(Nat.le_of_ble_eq_true rfl), (Nat.le_of_ble_eq_true rfl)⟩ rfl rfl rfl rfl (Nat.le_of_ble_eq_true rfl) dX7_put_10 ⟨(Nat.le_of_ble_eq_true rfl), (Nat.le_of_ble_eq_true rfl)⟩ (fun r u H locs hq hP hD hS => ?_)
    obtain ⟨r9_2, y1_2, y2_2⟩ := u
    dsimp only at hq hP hD
    obtain ⟨hr_2, hq_2⟩ := hq
    subst hr_2
    have hP : va_P g.1 vwCl [(h0, .inr (6, [.ref d1, .int (nI ln), .long r9_2, .int y1_2, .int y2_2, .ref d2, .int (nI an), .int (nI nx), .ref d3, .ref d4, .ref d5, .ref d6, .int xm, .int (nI zn), .ref d7, .ref d8, .long sd, .ref d9, .ref d0])), (d1, .inl (gI g, 64, .inl tl)), (d2, .inl (gJ g, 6, .inr (.inl nw))), (d3, .inl (gJ g, 42, .inr (.inl rw)))] H := hP.sub [2, 3, 0, 1] rfl
    have hD : va_D A [(h0, .inr (6, [.ref d1, .int (nI ln), .long r9_2, .int y1_2, .int y2_2, .ref d2, .int (nI an), .int (nI nx), .ref d3, .ref d4, .ref d5, .ref d6, .int xm, .int (nI zn), .ref d7, .ref d8, .long sd, .ref d9, .ref d0])), (d1, .inl (gI g, 64, .inl tl)), (d2, .inl (gJ g, 6, .inr (.inl nw))), (d3, .inl (gJ g, 42, .inr (.inl rw)))] := hD.sub [2, 3, 0, 1] (by decide) rfl
    subst hq_2
    refine lv_bipush (v := (-9)) hx hb dX7_put_13 (by decide) ?_
    refine lv_icmp_eq (tgt := 21) hx hb dX7_put_15 (by decide) (fun c_3 => ?_) (fun c_3 => ?_)
    · skip
      refine lv_aload_n hx hb dX7_put_21 rfl (lv_at hl 0 rfl) ?_
      refine cVM_v (As := []) (rest := []) (q0 := 0) (wc := [(h0, .inr (6, [.ref d1, .int (nI ln), .long ((ffA tl ln).2), .int y1_2, .int y2_2, .ref d2, .int (nI an), .int (nI nx), .ref d3, .ref d4, .ref d5, .ref d6, .int xm, .int (nI zn), .ref d7, .ref d8, .long sd, .ref d9, .ref d0])), (d2, .inl (gJ g, 6, .inr (.inl nw))), (d3, .inl (gJ g, 42, .inr (.inl rw)))]) (wr := [(d1, .inl (gI g, 64, .inl tl))]) hx hb hml hown hw hkn hS hl hA hP hD [0, 2, 3] [1] rfl rfl (by decide) (by decide) (by decide) (c_X7_keepAct l g _ h0 d1 ln ((ffA tl ln).2) y1_2 y2_2 d2 an nx d3 d4 d5 d6 xm zn d7 d8 sd d9 d0 nw rw (by omega) (by omega)) vf_X7_keepAct mw_248 rfl rfl ⟨(Nat.le_of_ble_eq_true rfl), (Nat.le_of_ble_eq_true rfl)⟩ rfl rfl rfl rfl (Nat.le_of_ble_eq_true rfl) dX7_put_22 ⟨(Nat.le_of_ble_eq_true rfl), (Nat.le_of_ble_eq_true rfl)⟩ (fun u H locs hq hP hD hS => ?_)
      have hP : va_P g.1 vwCl [(h0, .inr (6, [.ref d1, .int (nI ln), .long ((ffA tl ln).2), .int y1_2, .int y2_2, .ref d2, .int (nI (acN an)), .int (nI ((nx + 1) % 14)), .ref d3, .ref d4, .ref d5, .ref d6, .int xm, .int (nI zn), .ref d7, .ref d8, .long sd, .ref d9, .ref d0])), (d1, .inl (gI g, 64, .inl tl)), (d2, .inl (gJ g, 6, .inr (.inl nw))), (d3, .inl (gJ g, 42, .inr (.inl (rkF nx nw rw))))] H := hP.sub [1, 0, 2, 3] rfl
      have hD : va_D A [(h0, .inr (6, [.ref d1, .int (nI ln), .long ((ffA tl ln).2), .int y1_2, .int y2_2, .ref d2, .int (nI (acN an)), .int (nI ((nx + 1) % 14)), .ref d3, .ref d4, .ref d5, .ref d6, .int xm, .int (nI zn), .ref d7, .ref d8, .long sd, .ref d9, .ref d0])), (d1, .inl (gI g, 64, .inl tl)), (d2, .inl (gJ g, 6, .inr (.inl nw))), (d3, .inl (gJ g, 42, .inr (.inl (rkF nx nw rw))))] := hD.sub [1, 0, 2, 3] (by decide) rfl
      refine lv_aload_n hx hb dX7_put_25 rfl (lv_at hl 0 rfl) ?_
      refine va_get (D := g.1) (ci := 6) (v := .ref d2) (C := RX7) (T := TX7) (N := 19) hx hb hw inlX7 hown hkn.1 hP 0 rfl rfl 5 (by decide) (hw _ mw_74) (fun _ h9 => h9) rfl dX7_put_26 ?_
      refine lv_iload_n hx hb dX7_put_29 rfl (lv_at hl 1 rfl) ?_
      refine lv_aload_n hx hb dX7_put_30 rfl (lv_at hl 0 rfl) ?_
      refine va_get (D := g.1) (ci := 6) (v := .long ((ffA tl ln).2)) (C := RX7) (T := TX7) (N := 19) hx hb hw inlX7 hown hkn.1 hP 0 rfl rfl 2 (by decide) (hw _ mw_179) (fun _ h9 => h9) rfl dX7_put_31 ?_
      refine va_last hx hb hkn.1 hP hD hS 2 1 rfl rfl (isPic_vp6 c_1) dX7_put_34 (fun H locs hP hD hS => ?_)
      have hP : va_P g.1 vwCl [(h0, .inr (6, [.ref d1, .int (nI ln), .long ((ffA tl ln).2), .int y1_2, .int y2_2, .ref d2, .int (nI (acN an)), .int (nI ((nx + 1) % 14)), .ref d3, .ref d4, .ref d5, .ref d6, .int xm, .int (nI zn), .ref d7, .ref d8, .long sd, .ref d9, .ref d0])), (d1, .inl (gI g, 64, .inl tl)), (d2, .inl (gJ g, 6, .inr (.inl (vp_updL nw (x0).toNatClampNeg ((ffA tl ln).2))))), (d3, .inl (gJ g, 42, .inr (.inl (rkF nx nw rw))))] H := hP
      have hD : va_D A [(h0, .inr (6, [.ref d1, .int (nI ln), .long ((ffA tl ln).2), .int y1_2, .int y2_2, .ref d2, .int (nI (acN an)), .int (nI ((nx + 1) % 14)), .ref d3, .ref d4, .ref d5, .ref d6, .int xm, .int (nI zn), .ref d7, .ref d8, .long sd, .ref d9, .ref d0])), (d1, .inl (gI g, 64, .inl tl)), (d2, .inl (gJ g, 6, .inr (.inl (vp_updL nw (x0).toNatClampNeg ((ffA tl ln).2))))), (d3, .inl (gJ g, 42, .inr (.inl (rkF nx nw rw))))] := hD
      refine lv_aload_n hx hb dX7_put_35 rfl (lv_at hl 0 rfl) ?_
      refine va_get (D := g.1) (ci := 6) (v := .long ((ffA tl ln).2)) (C := RX7) (T := TX7) (N := 19) hx hb hw inlX7 hown hkn.1 hP 0 rfl rfl 2 (by decide) (hw _ mw_179) (fun _ h9 => h9) rfl dX7_put_36 ?_
      refine cS_i (As := [.long ((ffA tl ln).2)]) (rest := []) hx hb hml hown hw hkn hS hl (c_X7_ones l g _ ((ffA tl ln).2) ) sf_X7_ones mw_254 ⟨(Nat.le_of_ble_eq_true rfl), (Nat.le_of_ble_eq_true rfl)⟩ rfl rfl rfl rfl (Nat.le_of_ble_eq_true rfl) dX7_put_39 ⟨(Nat.le_of_ble_eq_true rfl), (Nat.le_of_ble_eq_true rfl)⟩ ?_
      have eb : qPuB tl ln x0 = true := by unfold qPuB; rw [c_1]; exact decide_eq_true c_3
      exact eM_i (g := g) hx hb hr hlocks ((ffA tl ln).2, y1_2, y2_2) (by unfold qPu; rw [if_pos c_1, if_pos c_3]) (show va_P g.1 vwCl [(h0, .inr (6, [.ref d1, .int (nI ln), .long (ffA tl ln).2, .int y1_2, .int y2_2, .ref d2, .int (nI (cond (qPuB tl ln x0) (acN an) an)), .int (nI (cond (qPuB tl ln x0) ((nx + 1) % 14) nx)), .ref d3, .ref d4, .ref d5, .ref d6, .int xm, .int (nI zn), .ref d7, .ref d8, .long sd, .ref d9, .ref d0])), (d1, .inl (gI g, 64, .inl tl)), (d2, .inl (gJ g, 6, .inr (.inl (cond (qPuB tl ln x0) (setS nw x0 (ffA tl ln).2) nw)))), (d3, .inl (gJ g, 42, .inr (.inl (cond (qPuB tl ln x0) (rkF nx nw rw) rw))))] H by rw [eb, set_i c_1]; exact hP.sub [0, 1, 2, 3] rfl) (show va_D A [(h0, .inr (6, [.ref d1, .int (nI ln), .long (ffA tl ln).2, .int y1_2, .int y2_2, .ref d2, .int (nI (cond (qPuB tl ln x0) (acN an) an)), .int (nI (cond (qPuB tl ln x0) ((nx + 1) % 14) nx)), .ref d3, .ref d4, .ref d5, .ref d6, .int xm, .int (nI zn), .ref d7, .ref d8, .long sd, .ref d9, .ref d0])), (d1, .inl (gI g, 64, .inl tl)), (d2, .inl (gJ g, 6, .inr (.inl (cond (qPuB tl ln x0) (setS nw x0 (ffA tl ln).2) nw)))), (d3, .inl (gJ g, 42, .inr (.inl (cond (qPuB tl ln x0) (rkF nx nw rw) rw))))] by rw [eb, set_i c_1]; exact hD.sub [0, 1, 2, 3] (by decide) rfl) hS dX7_put_42
    · skip
      refine lv_bipush (v := (-3)) hx hb dX7_put_18 (by decide) ?_
      have eb : qPuB tl ln x0 = false := by unfold qPuB; rw [c_1]; exact decide_eq_false c_3
      exact eM_i (g := g) hx hb hr hlocks ((ffA tl ln).2, y1_2, y2_2) (by unfold qPu; rw [if_pos c_1, if_neg c_3]) (show va_P g.1 vwCl [(h0, .inr (6, [.ref d1, .int (nI ln), .long (ffA tl ln).2, .int y1_2, .int y2_2, .ref d2, .int (nI (cond (qPuB tl ln x0) (acN an) an)), .int (nI (cond (qPuB tl ln x0) ((nx + 1) % 14) nx)), .ref d3, .ref d4, .ref d5, .ref d6, .int xm, .int (nI zn), .ref d7, .ref d8, .long sd, .ref d9, .ref d0])), (d1, .inl (gI g, 64, .inl tl)), (d2, .inl (gJ g, 6, .inr (.inl (cond (qPuB tl ln x0) (setS nw x0 (ffA tl ln).2) nw)))), (d3, .inl (gJ g, 42, .inr (.inl (cond (qPuB tl ln x0) (rkF nx nw rw) rw))))] H by rw [eb]; exact hP.sub [0, 1, 2, 3] rfl) (show va_D A [(h0, .inr (6, [.ref d1, .int (nI ln), .long (ffA tl ln).2, .int y1_2, .int y2_2, .ref d2, .int (nI (cond (qPuB tl ln x0) (acN an) an)), .int (nI (cond (qPuB tl ln x0) ((nx + 1) % 14) nx)), .ref d3, .ref d4, .ref d5, .ref d6, .int xm, .int (nI zn), .ref d7, .ref d8, .long sd, .ref d9, .ref d0])), (d1, .inl (gI g, 64, .inl tl)), (d2, .inl (gJ g, 6, .inr (.inl (cond (qPuB tl ln x0) (setS nw x0 (ffA tl ln).2) nw)))), (d3, .inl (gJ g, 42, .inr (.inl (cond (qPuB tl ln x0) (rkF nx nw rw) rw))))] by rw [eb]; exact hD.sub [0, 1, 2, 3] (by decide) rfl) hS dX7_put_20
  · skip
    refine lv_iconst (v := (-1)) hx hb dX7_put_7 (by decide) ?_
    have eb : qPuB tl ln x0 = false := by unfold qPuB; rw [c_1]; rfl
    exact eM_i (g := g) hx hb hr hlocks (rd, xd, xq) (by unfold qPu; rw [if_neg (nt_of c_1)]) (show va_P g.1 vwCl [(h0, .inr (6, [.ref d1, .int (nI ln), .long rd, .int xd, .int xq, .ref d2, .int (nI (cond (qPuB tl ln x0) (acN an) an)), .int (nI (cond (qPuB tl ln x0) ((nx + 1) % 14) nx)), .ref d3, .ref d4, .ref d5, .ref d6, .int xm, .int (nI zn), .ref d7, .ref d8, .long sd, .ref d9, .ref d0])), (d1, .inl (gI g, 64, .inl tl)), (d2, .inl (gJ g, 6, .inr (.inl (cond (qPuB tl ln x0) (setS nw x0 (ffA tl ln).2) nw)))), (d3, .inl (gJ g, 42, .inr (.inl (cond (qPuB tl ln x0) (rkF nx nw rw) rw))))] H by rw [eb]; exact hP.sub [0, 1, 2, 3] rfl) (show va_D A [(h0, .inr (6, [.ref d1, .int (nI ln), .long rd, .int xd, .int xq, .ref d2, .int (nI (cond (qPuB tl ln x0) (acN an) an)), .int (nI (cond (qPuB tl ln x0) ((nx + 1) % 14) nx)), .ref d3, .ref d4, .ref d5, .ref d6, .int xm, .int (nI zn), .ref d7, .ref d8, .long sd, .ref d9, .ref d0])), (d1, .inl (gI g, 64, .inl tl)), (d2, .inl (gJ g, 6, .inr (.inl (cond (qPuB tl ln x0) (setS nw x0 (ffA tl ln).2) nw)))), (d3, .inl (gJ g, 42, .inr (.inl (cond (qPuB tl ln x0) (rkF nx nw rw) rw))))] by rw [eb]; exact hD.sub [0, 1, 2, 3] (by decide) rfl) hS dX7_put_8
set_option maxHeartbeats 4000000 in
set_option maxRecDepth 100000 in
theorem c_X7_mixOn (l : Launch) (g : GG) (sz : Nat) (h0 : Nat) (lv : Nat) (ho : Int32) (a : Nat) (b : Nat) (d1 : Nat) (ln : Nat) (rd : Int64) (xd : Int32) (xq : Int32) (d2 : Nat) (an : Nat) (nx : Nat) (d3 : Nat) (d4 : Nat) (d5 : Nat) (d6 : Nat) (xm : Int32) (zn : Nat) (d7 : Nat) (d8 : Nat) (sd : Int64) (d9 : Nat) (d0 : Nat) (nw : Nat → Int64) (hlv : lv < 2) (ha3 : a < 3) (hb3 : b < 3) : Met l yX7_mixOn (Cond.code yX7_mixOn cX7_mixOn 9 none :: wsL_law) ({ frames := 0, cells := 0, slots := 0, locals := 0 }) (PM g [.ref h0, .int (nI lv), .int ho, .int (nI a), .int (nI b)] [(h0, .inr (6, [.ref d1, .int (nI ln), .long rd, .int xd, .int xq, .ref d2, .int (nI an), .int (nI nx), .ref d3, .ref d4, .ref d5, .ref d6, .int xm, .int (nI zn), .ref d7, .ref d8, .long sd, .ref d9, .ref d0])), (d2, .inl (gJ g, 6, .inr (.inl nw)))] sz) (QAv g (fun (u : Unit) => True) (fun (u : Unit) => [(h0, .inr (6, [.ref d1, .int (nI ln), .long rd, .int xd, .int xq, .ref d2, .int (nI an), .int (nI nx), .ref d3, .ref d4, .ref d5, .ref d6, .int xm, .int (nI zn), .ref d7, .ref d8, .long sd, .ref d9, .ref d0])), (d2, .inl (gJ g, 6, .inr (.inl (vp_updL nw (3 * lv + a) (mxS ho (nw (3 * lv + a)) (nw (3 * lv + b)))))))]) (va_A [(h0, .inr (6, [.ref d1, .int (nI ln), .long rd, .int xd, .int xq, .ref d2, .int (nI an), .int (nI nx), .ref d3, .ref d4, .ref d5, .ref d6, .int xm, .int (nI zn), .ref d7, .ref d8, .long sd, .ref d9, .ref d0])), (d2, .inl (gJ g, 6, .inr (.inl nw)))] sz)) 0 0 (va_A [(h0, .inr (6, [.ref d1, .int (nI ln), .long rd, .int xd, .int xq, .ref d2, .int (nI an), .int (nI nx), .ref d3, .ref d4, .ref d5, .ref d6, .int xm, .int (nI zn), .ref d7, .ref d8, .long sd, .ref d9, .ref d0])), (d2, .inl (gJ g, 6, .inr (.inl nw)))] sz) := by
  refine Met.M (Qc := fun A => QAv g (fun (u : Unit) => True) (fun (u : Unit) => [(h0, .inr (6, [.ref d1, .int (nI ln), .long rd, .int xd, .int xq, .ref d2, .int (nI an), .int (nI nx), .ref d3, .ref d4, .ref d5, .ref d6, .int xm, .int (nI zn), .ref d7, .ref d8, .long sd, .ref d9, .ref d0])), (d2, .inl (gJ g, 6, .inr (.inl (vp_updL nw (3 * lv + a) (mxS ho (nw (3 * lv + a)) (nw (3 * lv + b)))))))]) A) (by decide) (Nat.le_of_ble_eq_true rfl) rfl ?_
  intro p e s m below meth c hx hb hr hml hw hown hlocks hin A hA hkn hP hD ls hl
  have hl : lv_has ls 9 [(0, .ref h0), (1, .int (nI lv)), (2, .int ho), (3, .int (nI a)), (4, .int (nI b))] := hl
  have hS : va_S A s.heap s.heap [] := va_S.rf
  obtain ⟨H, hHe⟩ : ∃ H, H = s.heap := ⟨_, rfl⟩
  obtain ⟨locs, hLe⟩ : ∃ locs : List Loc, locs = [] := ⟨_, rfl⟩
  have hP : va_P g.1 vwCl [(h0, .inr (6, [.ref d1, .int (nI ln), .long rd, .int xd, .int xq, .ref d2, .int (nI an), .int (nI nx), .ref d3, .ref d4, .ref d5, .ref d6, .int xm, .int (nI zn), .ref d7, .ref d8, .long sd, .ref d9, .ref d0])), (d2, .inl (gJ g, 6, .inr (.inl nw)))] H := by rw [hHe]; exact hP
  have hS : va_S A s.heap H locs := by rw [hHe, hLe]; exact hS
  have hgo : W p l e ({ frames := 0, cells := 0, slots := 0, locals := 0 } : Room) s m ([.ref h0, .int (nI lv), .int ho, .int (nI a), .int (nI b)] : List Value).toArray below meth c H locs 0 0 (MQ below (QAv g (fun (u : Unit) => True) (fun (u : Unit) => [(h0, .inr (6, [.ref d1, .int (nI ln), .long rd, .int xd, .int xq, .ref d2, .int (nI an), .int (nI nx), .ref d3, .ref d4, .ref d5, .ref d6, .int xm, .int (nI zn), .ref d7, .ref d8, .long sd, .ref d9, .ref d0])), (d2, .inl (gJ g, 6, .inr (.inl (vp_updL nw (3 * lv + a) (mxS ho (nw (3 * lv + a)) (nw (3 * lv + b)))))))]) A) ([.ref h0, .int (nI lv), .int ho, .int (nI a), .int (nI b)] : List Value).toArray s 0 0 A) (F0 m 0 ls []) := ?_
  · rw [hHe, hLe] at hgo; exact hgo
  clear hHe hLe
  refine lv_aload_n hx hb dX7_mixOn_0 rfl (lv_at hl 0 rfl) ?_
  refine va_get (D := g.1) (ci := 6) (v := .ref d2) (C := RX7) (T := TX7) (N := 19) hx hb hw inlX7 hown hkn.1 hP 0 rfl rfl 5 (by decide) (hw _ mw_74) (fun _ h9 => h9) rfl dX7_mixOn_1 ?_
  refine lv_iconst (v := 3) hx hb dX7_mixOn_4 (by decide) ?_
  refine lv_iload_n hx hb dX7_mixOn_5 rfl (lv_at hl 1 rfl) ?_
  refine lv_imul hx hb dX7_mixOn_6 ?_
  refine lv_eqi (pk_mul 3 lv) ?_
  refine lv_iload_n hx hb dX7_mixOn_7 rfl (lv_at hl 3 rfl) ?_
  refine lv_iadd hx hb dX7_mixOn_8 ?_
  refine lv_eqi (nI_add (3 * lv) a) ?_
  refine va_lald hx hb hkn.1 hP 1 1 rfl rfl (vp_in_nI (n := 3 * lv + a) (by omega) (by decide)) dX7_mixOn_9 ?_
  refine lv_eql (show _ = nw (3 * lv + a) by rw [nI_clamp (n := 3 * lv + a) (by omega)]) ?_
  refine lv_lstore (lv' := [(5, .long (nw (3 * lv + a))), (0, .ref h0), (1, .int (nI lv)), (2, .int ho), (3, .int (nI a)), (4, .int (nI b))]) hx hb dX7_mixOn_10 hl (by decide) rfl (fun ls hl => ?_)
  refine lv_aload_n hx hb dX7_mixOn_12 rfl (lv_at hl 1 rfl) ?_
  refine va_get (D := g.1) (ci := 6) (v := .ref d2) (C := RX7) (T := TX7) (N := 19) hx hb hw inlX7 hown hkn.1 hP 0 rfl rfl 5 (by decide) (hw _ mw_74) (fun _ h9 => h9) rfl dX7_mixOn_13 ?_
  refine lv_iconst (v := 3) hx hb dX7_mixOn_16 (by decide) ?_
  refine lv_iload_n hx hb dX7_mixOn_17 rfl (lv_at hl 2 rfl) ?_
  refine lv_imul hx hb dX7_mixOn_18 ?_
  refine lv_eqi (pk_mul 3 lv) ?_
  refine lv_iload hx hb dX7_mixOn_19 (lv_at hl 5 rfl) ?_
  refine lv_iadd hx hb dX7_mixOn_21 ?_
  refine lv_eqi (nI_add (3 * lv) b) ?_
  refine va_lald hx hb hkn.1 hP 1 1 rfl rfl (vp_in_nI (n := 3 * lv + b) (by omega) (by decide)) dX7_mixOn_22 ?_
  refine lv_eql (show _ = nw (3 * lv + b) by rw [nI_clamp (n := 3 * lv + b) (by omega)]) ?_
  refine lv_lstore (lv' := [(7, .long (nw (3 * lv + b))), (5, .long (nw (3 * lv + a))), (0, .ref h0), (1, .int (nI lv)), (2, .int ho), (3, .int (nI a)), (4, .int (nI b))]) hx hb dX7_mixOn_23 hl (by decide) rfl (fun ls hl => ?_)
  refine lv_aload_n hx hb dX7_mixOn_25 rfl (lv_at hl 2 rfl) ?_
  refine va_get (D := g.1) (ci := 6) (v := .ref d2) (C := RX7) (T := TX7) (N := 19) hx hb hw inlX7 hown hkn.1 hP 0 rfl rfl 5 (by decide) (hw _ mw_74) (fun _ h9 => h9) rfl dX7_mixOn_26 ?_
  refine lv_iconst (v := 3) hx hb dX7_mixOn_29 (by decide) ?_
  refine lv_iload_n hx hb dX7_mixOn_30 rfl (lv_at hl 3 rfl) ?_
  refine lv_imul hx hb dX7_mixOn_31 ?_
  refine lv_eqi (pk_mul 3 lv) ?_
  refine lv_iload_n hx hb dX7_mixOn_32 rfl (lv_at hl 5 rfl) ?_
  refine lv_iadd hx hb dX7_mixOn_33 ?_
  refine lv_eqi (nI_add (3 * lv) a) ?_
  refine lv_iload_n hx hb dX7_mixOn_34 rfl (lv_at hl 4 rfl) ?_
  have mg_68 : W p l e ({ frames := 0, cells := 0, slots := 0, locals := 0 } : Room) s m ([.ref h0, .int (nI lv), .int ho, .int (nI a), .int (nI b)] : List Value).toArray below meth c H locs 0 0 (MQ below (QAv g (fun (u : Unit) => True) (fun (u : Unit) => [(h0, .inr (6, [.ref d1, .int (nI ln), .long rd, .int xd, .int xq, .ref d2, .int (nI an), .int (nI nx), .ref d3, .ref d4, .ref d5, .ref d6, .int xm, .int (nI zn), .ref d7, .ref d8, .long sd, .ref d9, .ref d0])), (d2, .inl (gJ g, 6, .inr (.inl (vp_updL nw (3 * lv + a) (mxS ho (nw (3 * lv + a)) (nw (3 * lv + b)))))))]) A) ([.ref h0, .int (nI lv), .int ho, .int (nI a), .int (nI b)] : List Value).toArray s 0 0 A) (F0 m 68 ls (.long (if ho = 0 then ((nw (3 * lv + a)) ||| (nw (3 * lv + b))) else (if ho = 1 then ((nw (3 * lv + a)) &&& (nw (3 * lv + b))) else ((nw (3 * lv + a)) &&& ((nw (3 * lv + b)) ^^^ (-1))))) :: [.int (nI (3 * lv + a)), .ref d2])) := by
    refine lv_eql (show _ = (mxS ho (nw (3 * lv + a)) (nw (3 * lv + b))) from rfl) ?_
    refine va_last hx hb hkn.1 hP hD hS 1 1 rfl rfl (vp_in_nI (n := 3 * lv + a) (by omega) (by decide)) dX7_mixOn_68 (fun H locs hP hD hS => ?_)
    rw [nI_clamp (n := 3 * lv + a) (by omega)] at hP hD
    have hP : va_P g.1 vwCl [(h0, .inr (6, [.ref d1, .int (nI ln), .long rd, .int xd, .int xq, .ref d2, .int (nI an), .int (nI nx), .ref d3, .ref d4, .ref d5, .ref d6, .int xm, .int (nI zn), .ref d7, .ref d8, .long sd, .ref d9, .ref d0])), (d2, .inl (gJ g, 6, .inr (.inl (vp_updL nw (3 * lv + a) (mxS ho (nw (3 * lv + a)) (nw (3 * lv + b)))))))] H := hP
    have hD : va_D A [(h0, .inr (6, [.ref d1, .int (nI ln), .long rd, .int xd, .int xq, .ref d2, .int (nI an), .int (nI nx), .ref d3, .ref d4, .ref d5, .ref d6, .int xm, .int (nI zn), .ref d7, .ref d8, .long sd, .ref d9, .ref d0])), (d2, .inl (gJ g, 6, .inr (.inl (vp_updL nw (3 * lv + a) (mxS ho (nw (3 * lv + a)) (nw (3 * lv + b)))))))] := hD
    exact eM_v (g := g) hx hb hr hlocks () (trivial) (hP.sub [0, 1] rfl) (hD.sub [0, 1] (by decide) rfl) hS dX7_mixOn_69
  refine lv_if_ne (tgt := 46) hx hb dX7_mixOn_35 (by decide) (fun c_1 => ?_) (fun c_1 => ?_)
  · skip
    refine lv_iload_n hx hb dX7_mixOn_46 rfl (lv_at hl 4 rfl) ?_
    refine lv_iconst (v := 1) hx hb dX7_mixOn_47 (by decide) ?_
    refine lv_icmp_ne (tgt := 59) hx hb dX7_mixOn_48 (by decide) (fun c_2 => ?_) (fun c_2 => ?_)
    · skip
      refine lv_lload hx hb dX7_mixOn_59 (lv_at hl 1 rfl) ?_
      refine lv_lload hx hb dX7_mixOn_61 (lv_at hl 0 rfl) ?_
      refine lv_ldc2 hx hb hown (hw _ mw_280) dX7_mixOn_63 ?_
      refine lv_lxor hx hb dX7_mixOn_66 ?_
      refine lv_land hx hb dX7_mixOn_67 ?_
      exact lv_eql (by rw [if_neg c_1, if_neg c_2]) mg_68
    · skip
      refine lv_lload hx hb dX7_mixOn_51 (lv_at hl 1 rfl) ?_
      refine lv_lload hx hb dX7_mixOn_53 (lv_at hl 0 rfl) ?_
      refine lv_land hx hb dX7_mixOn_55 ?_
      refine lv_goto (tgt := 68) hx hb dX7_mixOn_56 (by decide) ?_
      exact lv_eql (by rw [if_neg c_1, if_pos c_2]) mg_68
  · skip
    refine lv_lload hx hb dX7_mixOn_38 (lv_at hl 1 rfl) ?_
    refine lv_lload hx hb dX7_mixOn_40 (lv_at hl 0 rfl) ?_
    refine lv_lor hx hb dX7_mixOn_42 ?_
    refine lv_goto (tgt := 68) hx hb dX7_mixOn_43 (by decide) ?_
    exact lv_eql (by rw [if_pos c_1]) mg_68
set_option maxHeartbeats 4000000 in
set_option maxRecDepth 100000 in
theorem c_X7_mix (l : Launch) (g : GG) (sz : Nat) (h0 : Nat) (ho : Int32) (x0 : Int32) (y0 : Int32) (d1 : Nat) (ln : Nat) (rd : Int64) (xd : Int32) (xq : Int32) (d2 : Nat) (an : Nat) (nx : Nat) (d3 : Nat) (d4 : Nat) (d5 : Nat) (d6 : Nat) (xm : Int32) (zn : Nat) (d7 : Nat) (d8 : Nat) (sd : Int64) (d9 : Nat) (d0 : Nat) (nw : Nat → Int64) (rw : Nat → Int64) (han : an ≤ 14) (hnx : nx < 14) : Met l yX7_mix (Cond.code yX7_mix cX7_mix 4 (some .int) :: wsL_law) ({ frames := 2, cells := 0, slots := 0, locals := 45 }) (PM g [.ref h0, .int ho, .int x0, .int y0] [(h0, .inr (6, [.ref d1, .int (nI ln), .long rd, .int xd, .int xq, .ref d2, .int (nI an), .int (nI nx), .ref d3, .ref d4, .ref d5, .ref d6, .int xm, .int (nI zn), .ref d7, .ref d8, .long sd, .ref d9, .ref d0])), (d2, .inl (gJ g, 6, .inr (.inl nw))), (d3, .inl (gJ g, 42, .inr (.inl rw)))] sz) (QAi g (fun (r : Int32) (u : Unit) => r = mMx nw ho x0 y0) (fun (u : Unit) => [(h0, .inr (6, [.ref d1, .int (nI ln), .long rd, .int xd, .int xq, .ref d2, .int (nI (cond (cbB x0 y0) (acN an) an)), .int (nI (cond (cbB x0 y0) ((nx + 1) % 14) nx)), .ref d3, .ref d4, .ref d5, .ref d6, .int xm, .int (nI zn), .ref d7, .ref d8, .long sd, .ref d9, .ref d0])), (d2, .inl (gJ g, 6, .inr (.inl (cond (cbB x0 y0) (setS nw x0 (mxS ho (picS nw x0) (picS nw y0))) nw)))), (d3, .inl (gJ g, 42, .inr (.inl (cond (cbB x0 y0) (rkF nx nw rw) rw))))]) (va_A [(h0, .inr (6, [.ref d1, .int (nI ln), .long rd, .int xd, .int xq, .ref d2, .int (nI an), .int (nI nx), .ref d3, .ref d4, .ref d5, .ref d6, .int xm, .int (nI zn), .ref d7, .ref d8, .long sd, .ref d9, .ref d0])), (d2, .inl (gJ g, 6, .inr (.inl nw))), (d3, .inl (gJ g, 42, .inr (.inl rw)))] sz)) 0 0 (va_A [(h0, .inr (6, [.ref d1, .int (nI ln), .long rd, .int xd, .int xq, .ref d2, .int (nI an), .int (nI nx), .ref d3, .ref d4, .ref d5, .ref d6, .int xm, .int (nI zn), .ref d7, .ref d8, .long sd, .ref d9, .ref d0])), (d2, .inl (gJ g, 6, .inr (.inl nw))), (d3, .inl (gJ g, 42, .inr (.inl rw)))] sz) := by
  refine Met.M (Qc := fun A => QAi g (fun (r : Int32) (u : Unit) => r = mMx nw ho x0 y0) (fun (u : Unit) => [(h0, .inr (6, [.ref d1, .int (nI ln), .long rd, .int xd, .int xq, .ref d2, .int (nI (cond (cbB x0 y0) (acN an) an)), .int (nI (cond (cbB x0 y0) ((nx + 1) % 14) nx)), .ref d3, .ref d4, .ref d5, .ref d6, .int xm, .int (nI zn), .ref d7, .ref d8, .long sd, .ref d9, .ref d0])), (d2, .inl (gJ g, 6, .inr (.inl (cond (cbB x0 y0) (setS nw x0 (mxS ho (picS nw x0) (picS nw y0))) nw)))), (d3, .inl (gJ g, 42, .inr (.inl (cond (cbB x0 y0) (rkF nx nw rw) rw))))]) A) (by decide) (Nat.le_of_ble_eq_true rfl) rfl ?_
  intro p e s m below meth c hx hb hr hml hw hown hlocks hin A hA hkn hP hD ls hl
  have hl : lv_has ls 4 [(0, .ref h0), (1, .int ho), (2, .int x0), (3, .int y0)] := hl
  have hS : va_S A s.heap s.heap [] := va_S.rf
  obtain ⟨H, hHe⟩ : ∃ H, H = s.heap := ⟨_, rfl⟩
  obtain ⟨locs, hLe⟩ : ∃ locs : List Loc, locs = [] := ⟨_, rfl⟩
  have hP : va_P g.1 vwCl [(h0, .inr (6, [.ref d1, .int (nI ln), .long rd, .int xd, .int xq, .ref d2, .int (nI an), .int (nI nx), .ref d3, .ref d4, .ref d5, .ref d6, .int xm, .int (nI zn), .ref d7, .ref d8, .long sd, .ref d9, .ref d0])), (d2, .inl (gJ g, 6, .inr (.inl nw))), (d3, .inl (gJ g, 42, .inr (.inl rw)))] H := by rw [hHe]; exact hP
  have hS : va_S A s.heap H locs := by rw [hHe, hLe]; exact hS
  have hgo : W p l e ({ frames := 2, cells := 0, slots := 0, locals := 45 } : Room) s m ([.ref h0, .int ho, .int x0, .int y0] : List Value).toArray below meth c H locs 0 0 (MQ below (QAi g (fun (r : Int32) (u : Unit) => r = mMx nw ho x0 y0) (fun (u : Unit) => [(h0, .inr (6, [.ref d1, .int (nI ln), .long rd, .int xd, .int xq, .ref d2, .int (nI (cond (cbB x0 y0) (acN an) an)), .int (nI (cond (cbB x0 y0) ((nx + 1) % 14) nx)), .ref d3, .ref d4, .ref d5, .ref d6, .int xm, .int (nI zn), .ref d7, .ref d8, .long sd, .ref d9, .ref d0])), (d2, .inl (gJ g, 6, .inr (.inl (cond (cbB x0 y0) (setS nw x0 (mxS ho (picS nw x0) (picS nw y0))) nw)))), (d3, .inl (gJ g, 42, .inr (.inl (cond (cbB x0 y0) (rkF nx nw rw) rw))))]) A) ([.ref h0, .int ho, .int x0, .int y0] : List Value).toArray s 0 0 A) (F0 m 0 ls []) := ?_
  · rw [hHe, hLe] at hgo; exact hgo
  clear hHe hLe
  refine lv_iload_n hx hb dX7_mix_0 rfl (lv_at hl 2 rfl) ?_
  refine cS_i (As := [.int x0]) (rest := []) hx hb hml hown hw hkn hS hl (c_X7_isPicture l g _ x0 ) sf_X7_isPicture mw_245 ⟨(Nat.le_of_ble_eq_true rfl), (Nat.le_of_ble_eq_true rfl)⟩ rfl rfl rfl rfl (Nat.le_of_ble_eq_true rfl) dX7_mix_1 ⟨(Nat.le_of_ble_eq_true rfl), (Nat.le_of_ble_eq_true rfl)⟩ ?_
  refine lv_ifeqB (b := isPic x0) (tgt := 14) hx hb dX7_mix_4 (by decide) (fun c_1 => ?_) (fun c_1 => ?_)
  · skip
    refine lv_iconst (v := (-1)) hx hb dX7_mix_14 (by decide) ?_
    have eb : cbB x0 y0 = false := by simp [cbB, c_1]
    exact eM_i (g := g) hx hb hr hlocks () (by unfold mMx; rw [if_neg (nt_of c_1)]) (show va_P g.1 vwCl [(h0, .inr (6, [.ref d1, .int (nI ln), .long rd, .int xd, .int xq, .ref d2, .int (nI (cond (cbB x0 y0) (acN an) an)), .int (nI (cond (cbB x0 y0) ((nx + 1) % 14) nx)), .ref d3, .ref d4, .ref d5, .ref d6, .int xm, .int (nI zn), .ref d7, .ref d8, .long sd, .ref d9, .ref d0])), (d2, .inl (gJ g, 6, .inr (.inl (cond (cbB x0 y0) (setS nw x0 (mxS ho (picS nw x0) (picS nw y0))) nw)))), (d3, .inl (gJ g, 42, .inr (.inl (cond (cbB x0 y0) (rkF nx nw rw) rw))))] H by rw [eb]; exact hP.sub [0, 1, 2] rfl) (show va_D A [(h0, .inr (6, [.ref d1, .int (nI ln), .long rd, .int xd, .int xq, .ref d2, .int (nI (cond (cbB x0 y0) (acN an) an)), .int (nI (cond (cbB x0 y0) ((nx + 1) % 14) nx)), .ref d3, .ref d4, .ref d5, .ref d6, .int xm, .int (nI zn), .ref d7, .ref d8, .long sd, .ref d9, .ref d0])), (d2, .inl (gJ g, 6, .inr (.inl (cond (cbB x0 y0) (setS nw x0 (mxS ho (picS nw x0) (picS nw y0))) nw)))), (d3, .inl (gJ g, 42, .inr (.inl (cond (cbB x0 y0) (rkF nx nw rw) rw))))] by rw [eb]; exact hD.sub [0, 1, 2] (by decide) rfl) hS dX7_mix_15
  · skip
    refine lv_iload_n hx hb dX7_mix_7 rfl (lv_at hl 3 rfl) ?_
    refine cS_i (As := [.int y0]) (rest := []) hx hb hml hown hw hkn hS hl (c_X7_isPicture l g _ y0 ) sf_X7_isPicture mw_245 ⟨(Nat.le_of_ble_eq_true rfl), (Nat.le_of_ble_eq_true rfl)⟩ rfl rfl rfl rfl (Nat.le_of_ble_eq_true rfl) dX7_mix_8 ⟨(Nat.le_of_ble_eq_true rfl), (Nat.le_of_ble_eq_true rfl)⟩ ?_
    refine lv_ifneB (b := isPic y0) (tgt := 16) hx hb dX7_mix_11 (by decide) (fun c_2 => ?_) (fun c_2 => ?_)
    · skip
      refine lv_iload_n hx hb dX7_mix_16 rfl (lv_at hl 2 rfl) ?_
      refine lv_iload_n hx hb dX7_mix_17 rfl (lv_at hl 3 rfl) ?_
      refine lv_icmp_ne (tgt := 24) hx hb dX7_mix_18 (by decide) (fun c_3 => ?_) (fun c_3 => ?_)
      · skip
        obtain ⟨x9, hx9, ex9⟩ := isPic_of c_1
        obtain ⟨y9, hy9, ey9⟩ := isPic_of c_2
        refine lv_aload_n hx hb dX7_mix_24 rfl (lv_at hl 0 rfl) ?_
        refine cVM_v (As := []) (rest := []) (q0 := 0) (wc := [(h0, .inr (6, [.ref d1, .int (nI ln), .long rd, .int xd, .int xq, .ref d2, .int (nI an), .int (nI nx), .ref d3, .ref d4, .ref d5, .ref d6, .int xm, .int (nI zn), .ref d7, .ref d8, .long sd, .ref d9, .ref d0])), (d2, .inl (gJ g, 6, .inr (.inl nw))), (d3, .inl (gJ g, 42, .inr (.inl rw)))]) (wr := []) hx hb hml hown hw hkn hS hl hA hP hD [0, 1, 2] [] rfl rfl (by decide) (by decide) (by decide) (c_X7_keepAct l g _ h0 d1 ln rd xd xq d2 an nx d3 d4 d5 d6 xm zn d7 d8 sd d9 d0 nw rw (by omega) (by omega)) vf_X7_keepAct mw_248 rfl rfl ⟨(Nat.le_of_ble_eq_true rfl), (Nat.le_of_ble_eq_true rfl)⟩ rfl rfl rfl rfl (Nat.le_of_ble_eq_true rfl) dX7_mix_25 ⟨(Nat.le_of_ble_eq_true rfl), (Nat.le_of_ble_eq_true rfl)⟩ (fun u H locs hq hP hD hS => ?_)
        have hP : va_P g.1 vwCl [(h0, .inr (6, [.ref d1, .int (nI ln), .long rd, .int xd, .int xq, .ref d2, .int (nI (acN an)), .int (nI ((nx + 1) % 14)), .ref d3, .ref d4, .ref d5, .ref d6, .int xm, .int (nI zn), .ref d7, .ref d8, .long sd, .ref d9, .ref d0])), (d2, .inl (gJ g, 6, .inr (.inl nw))), (d3, .inl (gJ g, 42, .inr (.inl (rkF nx nw rw))))] H := hP.sub [0, 1, 2] rfl
        have hD : va_D A [(h0, .inr (6, [.ref d1, .int (nI ln), .long rd, .int xd, .int xq, .ref d2, .int (nI (acN an)), .int (nI ((nx + 1) % 14)), .ref d3, .ref d4, .ref d5, .ref d6, .int xm, .int (nI zn), .ref d7, .ref d8, .long sd, .ref d9, .ref d0])), (d2, .inl (gJ g, 6, .inr (.inl nw))), (d3, .inl (gJ g, 42, .inr (.inl (rkF nx nw rw))))] := hD.sub [0, 1, 2] (by decide) rfl
        refine lv_aload_n hx hb dX7_mix_28 rfl (lv_at hl 0 rfl) ?_
        refine lv_iconst (v := 0) hx hb dX7_mix_29 (by decide) ?_
        refine lv_iload_n hx hb dX7_mix_30 rfl (lv_at hl 1 rfl) ?_
        refine lv_iload_n hx hb dX7_mix_31 rfl (lv_at hl 2 rfl) ?_
        refine lv_eqi (show _ = (nI x9) from ex9) ?_
        refine lv_iload_n hx hb dX7_mix_32 rfl (lv_at hl 3 rfl) ?_
        refine lv_eqi (show _ = (nI y9) from ey9) ?_
        refine cVM_v (As := [.int 0, .int ho, .int (nI x9), .int (nI y9)]) (rest := []) (q0 := 0) (wc := [(h0, .inr (6, [.ref d1, .int (nI ln), .long rd, .int xd, .int xq, .ref d2, .int (nI (acN an)), .int (nI ((nx + 1) % 14)), .ref d3, .ref d4, .ref d5, .ref d6, .int xm, .int (nI zn), .ref d7, .ref d8, .long sd, .ref d9, .ref d0])), (d2, .inl (gJ g, 6, .inr (.inl nw)))]) (wr := [(d3, .inl (gJ g, 42, .inr (.inl (rkF nx nw rw))))]) hx hb hml hown hw hkn hS hl hA hP hD [0, 1] [2] rfl rfl (by decide) (by decide) (by decide) (c_X7_mixOn l g _ h0 0 ho x9 y9 d1 ln rd xd xq d2 (acN an) ((nx + 1) % 14) d3 d4 d5 d6 xm zn d7 d8 sd d9 d0 nw (by omega) (by omega) (by omega)) vf_X7_mixOn mw_276 rfl rfl ⟨(Nat.le_of_ble_eq_true rfl), (Nat.le_of_ble_eq_true rfl)⟩ rfl rfl rfl rfl (Nat.le_of_ble_eq_true rfl) dX7_mix_33 ⟨(Nat.le_of_ble_eq_true rfl), (Nat.le_of_ble_eq_true rfl)⟩ (fun u H locs hq hP hD hS => ?_)
        have hP : va_P g.1 vwCl [(h0, .inr (6, [.ref d1, .int (nI ln), .long rd, .int xd, .int xq, .ref d2, .int (nI (acN an)), .int (nI ((nx + 1) % 14)), .ref d3, .ref d4, .ref d5, .ref d6, .int xm, .int (nI zn), .ref d7, .ref d8, .long sd, .ref d9, .ref d0])), (d2, .inl (gJ g, 6, .inr (.inl (vp_updL nw (3 * 0 + x9) (mxS ho (nw (3 * 0 + x9)) (nw (3 * 0 + y9))))))), (d3, .inl (gJ g, 42, .inr (.inl (rkF nx nw rw))))] H := hP.sub [1, 2, 0] rfl
        have hD : va_D A [(h0, .inr (6, [.ref d1, .int (nI ln), .long rd, .int xd, .int xq, .ref d2, .int (nI (acN an)), .int (nI ((nx + 1) % 14)), .ref d3, .ref d4, .ref d5, .ref d6, .int xm, .int (nI zn), .ref d7, .ref d8, .long sd, .ref d9, .ref d0])), (d2, .inl (gJ g, 6, .inr (.inl (vp_updL nw (3 * 0 + x9) (mxS ho (nw (3 * 0 + x9)) (nw (3 * 0 + y9))))))), (d3, .inl (gJ g, 42, .inr (.inl (rkF nx nw rw))))] := hD.sub [1, 2, 0] (by decide) rfl
        refine lv_aload_n hx hb dX7_mix_36 rfl (lv_at hl 0 rfl) ?_
        refine va_get (D := g.1) (ci := 6) (v := .ref d2) (C := RX7) (T := TX7) (N := 19) hx hb hw inlX7 hown hkn.1 hP 0 rfl rfl 5 (by decide) (hw _ mw_74) (fun _ h9 => h9) rfl dX7_mix_37 ?_
        refine lv_iload_n hx hb dX7_mix_40 rfl (lv_at hl 2 rfl) ?_
        refine lv_eqi (show _ = (nI x9) from ex9) ?_
        refine va_lald hx hb hkn.1 hP 1 1 rfl rfl (vp_in_nI (n := x9) (by omega) (by decide)) dX7_mix_41 ?_
        refine lv_eql (show _ = (vp_updL nw (3 * 0 + x9) (mxS ho (nw (3 * 0 + x9)) (nw (3 * 0 + y9)))) x9 by rw [nI_clamp (n := x9) (by omega)]) ?_
        refine cS_i (As := [.long ((vp_updL nw (3 * 0 + x9) (mxS ho (nw (3 * 0 + x9)) (nw (3 * 0 + y9)))) x9)]) (rest := []) hx hb hml hown hw hkn hS hl (c_X7_ones l g _ ((vp_updL nw (3 * 0 + x9) (mxS ho (nw (3 * 0 + x9)) (nw (3 * 0 + y9)))) x9) ) sf_X7_ones mw_254 ⟨(Nat.le_of_ble_eq_true rfl), (Nat.le_of_ble_eq_true rfl)⟩ rfl rfl rfl rfl (Nat.le_of_ble_eq_true rfl) dX7_mix_42 ⟨(Nat.le_of_ble_eq_true rfl), (Nat.le_of_ble_eq_true rfl)⟩ ?_
        have eb : cbB x0 y0 = true := by simp [cbB, c_1, c_2, c_3]
        have e1 : setS nw x0 (mxS ho (picS nw x0) (picS nw y0)) = (vp_updL nw (3 * 0 + x9) (mxS ho (nw (3 * 0 + x9)) (nw (3 * 0 + y9)))) := by rw [ex9, ey9, setS_nI hx9, picS_nI hx9, picS_nI hy9, Nat.mul_zero, Nat.zero_add, Nat.zero_add]
        exact eM_i (g := g) hx hb hr hlocks () (by unfold mMx; rw [if_pos c_1, if_pos c_2, if_neg c_3, ex9, ey9, picS_nI hx9, picS_nI hy9]; show nI (pcn (vp_updL nw (3 * 0 + x9) (mxS ho (nw (3 * 0 + x9)) (nw (3 * 0 + y9))) x9)) = _; rw [Nat.mul_zero, Nat.zero_add, Nat.zero_add, updL_at]) (show va_P g.1 vwCl [(h0, .inr (6, [.ref d1, .int (nI ln), .long rd, .int xd, .int xq, .ref d2, .int (nI (cond (cbB x0 y0) (acN an) an)), .int (nI (cond (cbB x0 y0) ((nx + 1) % 14) nx)), .ref d3, .ref d4, .ref d5, .ref d6, .int xm, .int (nI zn), .ref d7, .ref d8, .long sd, .ref d9, .ref d0])), (d2, .inl (gJ g, 6, .inr (.inl (cond (cbB x0 y0) (setS nw x0 (mxS ho (picS nw x0) (picS nw y0))) nw)))), (d3, .inl (gJ g, 42, .inr (.inl (cond (cbB x0 y0) (rkF nx nw rw) rw))))] H by rw [eb, e1]; exact hP.sub [0, 1, 2] rfl) (show va_D A [(h0, .inr (6, [.ref d1, .int (nI ln), .long rd, .int xd, .int xq, .ref d2, .int (nI (cond (cbB x0 y0) (acN an) an)), .int (nI (cond (cbB x0 y0) ((nx + 1) % 14) nx)), .ref d3, .ref d4, .ref d5, .ref d6, .int xm, .int (nI zn), .ref d7, .ref d8, .long sd, .ref d9, .ref d0])), (d2, .inl (gJ g, 6, .inr (.inl (cond (cbB x0 y0) (setS nw x0 (mxS ho (picS nw x0) (picS nw y0))) nw)))), (d3, .inl (gJ g, 42, .inr (.inl (cond (cbB x0 y0) (rkF nx nw rw) rw))))] by rw [eb, e1]; exact hD.sub [0, 1, 2] (by decide) rfl) hS dX7_mix_45
      · skip
        refine lv_bipush (v := (-2)) hx hb dX7_mix_21 (by decide) ?_
        have eb : cbB x0 y0 = false := by simp [cbB, c_1, c_2, c_3]
        exact eM_i (g := g) hx hb hr hlocks () (by unfold mMx; rw [if_pos c_1, if_pos c_2, if_pos c_3]) (show va_P g.1 vwCl [(h0, .inr (6, [.ref d1, .int (nI ln), .long rd, .int xd, .int xq, .ref d2, .int (nI (cond (cbB x0 y0) (acN an) an)), .int (nI (cond (cbB x0 y0) ((nx + 1) % 14) nx)), .ref d3, .ref d4, .ref d5, .ref d6, .int xm, .int (nI zn), .ref d7, .ref d8, .long sd, .ref d9, .ref d0])), (d2, .inl (gJ g, 6, .inr (.inl (cond (cbB x0 y0) (setS nw x0 (mxS ho (picS nw x0) (picS nw y0))) nw)))), (d3, .inl (gJ g, 42, .inr (.inl (cond (cbB x0 y0) (rkF nx nw rw) rw))))] H by rw [eb]; exact hP.sub [0, 1, 2] rfl) (show va_D A [(h0, .inr (6, [.ref d1, .int (nI ln), .long rd, .int xd, .int xq, .ref d2, .int (nI (cond (cbB x0 y0) (acN an) an)), .int (nI (cond (cbB x0 y0) ((nx + 1) % 14) nx)), .ref d3, .ref d4, .ref d5, .ref d6, .int xm, .int (nI zn), .ref d7, .ref d8, .long sd, .ref d9, .ref d0])), (d2, .inl (gJ g, 6, .inr (.inl (cond (cbB x0 y0) (setS nw x0 (mxS ho (picS nw x0) (picS nw y0))) nw)))), (d3, .inl (gJ g, 42, .inr (.inl (cond (cbB x0 y0) (rkF nx nw rw) rw))))] by rw [eb]; exact hD.sub [0, 1, 2] (by decide) rfl) hS dX7_mix_23
    · skip
      refine lv_iconst (v := (-1)) hx hb dX7_mix_14 (by decide) ?_
      have eb : cbB x0 y0 = false := by simp [cbB, c_1, c_2]
      exact eM_i (g := g) hx hb hr hlocks () (by unfold mMx; rw [if_pos c_1, if_neg (nt_of c_2)]) (show va_P g.1 vwCl [(h0, .inr (6, [.ref d1, .int (nI ln), .long rd, .int xd, .int xq, .ref d2, .int (nI (cond (cbB x0 y0) (acN an) an)), .int (nI (cond (cbB x0 y0) ((nx + 1) % 14) nx)), .ref d3, .ref d4, .ref d5, .ref d6, .int xm, .int (nI zn), .ref d7, .ref d8, .long sd, .ref d9, .ref d0])), (d2, .inl (gJ g, 6, .inr (.inl (cond (cbB x0 y0) (setS nw x0 (mxS ho (picS nw x0) (picS nw y0))) nw)))), (d3, .inl (gJ g, 42, .inr (.inl (cond (cbB x0 y0) (rkF nx nw rw) rw))))] H by rw [eb]; exact hP.sub [0, 1, 2] rfl) (show va_D A [(h0, .inr (6, [.ref d1, .int (nI ln), .long rd, .int xd, .int xq, .ref d2, .int (nI (cond (cbB x0 y0) (acN an) an)), .int (nI (cond (cbB x0 y0) ((nx + 1) % 14) nx)), .ref d3, .ref d4, .ref d5, .ref d6, .int xm, .int (nI zn), .ref d7, .ref d8, .long sd, .ref d9, .ref d0])), (d2, .inl (gJ g, 6, .inr (.inl (cond (cbB x0 y0) (setS nw x0 (mxS ho (picS nw x0) (picS nw y0))) nw)))), (d3, .inl (gJ g, 42, .inr (.inl (cond (cbB x0 y0) (rkF nx nw rw) rw))))] by rw [eb]; exact hD.sub [0, 1, 2] (by decide) rfl) hS dX7_mix_15
set_option maxHeartbeats 4000000 in
set_option maxRecDepth 100000 in
theorem c_X7_join (l : Launch) (g : GG) (sz : Nat) (h0 : Nat) (a : Int32) (b : Int32) (d1 : Nat) (ln : Nat) (rd : Int64) (xd : Int32) (xq : Int32) (d2 : Nat) (an : Nat) (nx : Nat) (d3 : Nat) (d4 : Nat) (d5 : Nat) (d6 : Nat) (xm : Int32) (zn : Nat) (d7 : Nat) (d8 : Nat) (sd : Int64) (d9 : Nat) (d0 : Nat) (nw : Nat → Int64) (rw : Nat → Int64) (han : an ≤ 14) (hnx : nx < 14) : Met l yX7_join (Cond.code yX7_join cX7_join 3 (some .int) :: wsL_law) ({ frames := 3, cells := 0, slots := 0, locals := 68 }) (PM g [.ref h0, .int a, .int b] [(h0, .inr (6, [.ref d1, .int (nI ln), .long rd, .int xd, .int xq, .ref d2, .int (nI an), .int (nI nx), .ref d3, .ref d4, .ref d5, .ref d6, .int xm, .int (nI zn), .ref d7, .ref d8, .long sd, .ref d9, .ref d0])), (d2, .inl (gJ g, 6, .inr (.inl nw))), (d3, .inl (gJ g, 42, .inr (.inl rw)))] sz) (QAi g (fun (r : Int32) (u : Unit) => r = mMx nw 0 a b) (fun (u : Unit) => [(h0, .inr (6, [.ref d1, .int (nI ln), .long rd, .int xd, .int xq, .ref d2, .int (nI (cond (cbB a b) (acN an) an)), .int (nI (cond (cbB a b) ((nx + 1) % 14) nx)), .ref d3, .ref d4, .ref d5, .ref d6, .int xm, .int (nI zn), .ref d7, .ref d8, .long sd, .ref d9, .ref d0])), (d2, .inl (gJ g, 6, .inr (.inl (cond (cbB a b) (setS nw a (mxS 0 (picS nw a) (picS nw b))) nw)))), (d3, .inl (gJ g, 42, .inr (.inl (cond (cbB a b) (rkF nx nw rw) rw))))]) (va_A [(h0, .inr (6, [.ref d1, .int (nI ln), .long rd, .int xd, .int xq, .ref d2, .int (nI an), .int (nI nx), .ref d3, .ref d4, .ref d5, .ref d6, .int xm, .int (nI zn), .ref d7, .ref d8, .long sd, .ref d9, .ref d0])), (d2, .inl (gJ g, 6, .inr (.inl nw))), (d3, .inl (gJ g, 42, .inr (.inl rw)))] sz)) 0 0 (va_A [(h0, .inr (6, [.ref d1, .int (nI ln), .long rd, .int xd, .int xq, .ref d2, .int (nI an), .int (nI nx), .ref d3, .ref d4, .ref d5, .ref d6, .int xm, .int (nI zn), .ref d7, .ref d8, .long sd, .ref d9, .ref d0])), (d2, .inl (gJ g, 6, .inr (.inl nw))), (d3, .inl (gJ g, 42, .inr (.inl rw)))] sz) := by
  refine Met.M (Qc := fun A => QAi g (fun (r : Int32) (u : Unit) => r = mMx nw 0 a b) (fun (u : Unit) => [(h0, .inr (6, [.ref d1, .int (nI ln), .long rd, .int xd, .int xq, .ref d2, .int (nI (cond (cbB a b) (acN an) an)), .int (nI (cond (cbB a b) ((nx + 1) % 14) nx)), .ref d3, .ref d4, .ref d5, .ref d6, .int xm, .int (nI zn), .ref d7, .ref d8, .long sd, .ref d9, .ref d0])), (d2, .inl (gJ g, 6, .inr (.inl (cond (cbB a b) (setS nw a (mxS 0 (picS nw a) (picS nw b))) nw)))), (d3, .inl (gJ g, 42, .inr (.inl (cond (cbB a b) (rkF nx nw rw) rw))))]) A) (by decide) (Nat.le_of_ble_eq_true rfl) rfl ?_
  intro p e s m below meth c hx hb hr hml hw hown hlocks hin A hA hkn hP hD ls hl
  have hl : lv_has ls 3 [(0, .ref h0), (1, .int a), (2, .int b)] := hl
  have hS : va_S A s.heap s.heap [] := va_S.rf
  obtain ⟨H, hHe⟩ : ∃ H, H = s.heap := ⟨_, rfl⟩
  obtain ⟨locs, hLe⟩ : ∃ locs : List Loc, locs = [] := ⟨_, rfl⟩
  have hP : va_P g.1 vwCl [(h0, .inr (6, [.ref d1, .int (nI ln), .long rd, .int xd, .int xq, .ref d2, .int (nI an), .int (nI nx), .ref d3, .ref d4, .ref d5, .ref d6, .int xm, .int (nI zn), .ref d7, .ref d8, .long sd, .ref d9, .ref d0])), (d2, .inl (gJ g, 6, .inr (.inl nw))), (d3, .inl (gJ g, 42, .inr (.inl rw)))] H := by rw [hHe]; exact hP
  have hS : va_S A s.heap H locs := by rw [hHe, hLe]; exact hS
  have hgo : W p l e ({ frames := 3, cells := 0, slots := 0, locals := 68 } : Room) s m ([.ref h0, .int a, .int b] : List Value).toArray below meth c H locs 0 0 (MQ below (QAi g (fun (r : Int32) (u : Unit) => r = mMx nw 0 a b) (fun (u : Unit) => [(h0, .inr (6, [.ref d1, .int (nI ln), .long rd, .int xd, .int xq, .ref d2, .int (nI (cond (cbB a b) (acN an) an)), .int (nI (cond (cbB a b) ((nx + 1) % 14) nx)), .ref d3, .ref d4, .ref d5, .ref d6, .int xm, .int (nI zn), .ref d7, .ref d8, .long sd, .ref d9, .ref d0])), (d2, .inl (gJ g, 6, .inr (.inl (cond (cbB a b) (setS nw a (mxS 0 (picS nw a) (picS nw b))) nw)))), (d3, .inl (gJ g, 42, .inr (.inl (cond (cbB a b) (rkF nx nw rw) rw))))]) A) ([.ref h0, .int a, .int b] : List Value).toArray s 0 0 A) (F0 m 0 ls []) := ?_
  · rw [hHe, hLe] at hgo; exact hgo
  clear hHe hLe
  refine lv_aload_n hx hb dX7_join_0 rfl (lv_at hl 0 rfl) ?_
  refine lv_iconst (v := 0) hx hb dX7_join_1 (by decide) ?_
  refine lv_iload_n hx hb dX7_join_2 rfl (lv_at hl 1 rfl) ?_
  refine lv_iload_n hx hb dX7_join_3 rfl (lv_at hl 2 rfl) ?_
  refine cVM_i (As := [.int 0, .int a, .int b]) (rest := []) (q0 := 0) (wc := [(h0, .inr (6, [.ref d1, .int (nI ln), .long rd, .int xd, .int xq, .ref d2, .int (nI an), .int (nI nx), .ref d3, .ref d4, .ref d5, .ref d6, .int xm, .int (nI zn), .ref d7, .ref d8, .long sd, .ref d9, .ref d0])), (d2, .inl (gJ g, 6, .inr (.inl nw))), (d3, .inl (gJ g, 42, .inr (.inl rw)))]) (wr := []) hx hb hml hown hw hkn hS hl hA hP hD [0, 1, 2] [] rfl rfl (by decide) (by decide) (by decide) (c_X7_mix l g _ h0 0 a b d1 ln rd xd xq d2 an nx d3 d4 d5 d6 xm zn d7 d8 sd d9 d0 nw rw (by omega) (by omega)) vf_X7_mix mw_272 rfl rfl ⟨(Nat.le_of_ble_eq_true rfl), (Nat.le_of_ble_eq_true rfl)⟩ rfl rfl rfl rfl (Nat.le_of_ble_eq_true rfl) dX7_join_4 ⟨(Nat.le_of_ble_eq_true rfl), (Nat.le_of_ble_eq_true rfl)⟩ (fun r u H locs hq hP hD hS => ?_)
  have hq : r = (mMx nw 0 a b) := hq
  subst hq
  have hP : va_P g.1 vwCl [(h0, .inr (6, [.ref d1, .int (nI ln), .long rd, .int xd, .int xq, .ref d2, .int (nI (cond (cbB a b) (acN an) an)), .int (nI (cond (cbB a b) ((nx + 1) % 14) nx)), .ref d3, .ref d4, .ref d5, .ref d6, .int xm, .int (nI zn), .ref d7, .ref d8, .long sd, .ref d9, .ref d0])), (d2, .inl (gJ g, 6, .inr (.inl (cond (cbB a b) (setS nw a (mxS 0 (picS nw a) (picS nw b))) nw)))), (d3, .inl (gJ g, 42, .inr (.inl (cond (cbB a b) (rkF nx nw rw) rw))))] H := hP.sub [0, 1, 2] rfl
  have hD : va_D A [(h0, .inr (6, [.ref d1, .int (nI ln), .long rd, .int xd, .int xq, .ref d2, .int (nI (cond (cbB a b) (acN an) an)), .int (nI (cond (cbB a b) ((nx + 1) % 14) nx)), .ref d3, .ref d4, .ref d5, .ref d6, .int xm, .int (nI zn), .ref d7, .ref d8, .long sd, .ref d9, .ref d0])), (d2, .inl (gJ g, 6, .inr (.inl (cond (cbB a b) (setS nw a (mxS 0 (picS nw a) (picS nw b))) nw)))), (d3, .inl (gJ g, 42, .inr (.inl (cond (cbB a b) (rkF nx nw rw) rw))))] := hD.sub [0, 1, 2] (by decide) rfl
  exact eM_i (g := g) hx hb hr hlocks () (rfl) (hP.sub [0, 1, 2] rfl) (hD.sub [0, 1, 2] (by decide) rfl) hS dX7_join_7
set_option maxHeartbeats 4000000 in
set_option maxRecDepth 100000 in
theorem c_X7_meet (l : Launch) (g : GG) (sz : Nat) (h0 : Nat) (a : Int32) (b : Int32) (d1 : Nat) (ln : Nat) (rd : Int64) (xd : Int32) (xq : Int32) (d2 : Nat) (an : Nat) (nx : Nat) (d3 : Nat) (d4 : Nat) (d5 : Nat) (d6 : Nat) (xm : Int32) (zn : Nat) (d7 : Nat) (d8 : Nat) (sd : Int64) (d9 : Nat) (d0 : Nat) (nw : Nat → Int64) (rw : Nat → Int64) (han : an ≤ 14) (hnx : nx < 14) : Met l yX7_meet (Cond.code yX7_meet cX7_meet 3 (some .int) :: wsL_law) ({ frames := 3, cells := 0, slots := 0, locals := 68 }) (PM g [.ref h0, .int a, .int b] [(h0, .inr (6, [.ref d1, .int (nI ln), .long rd, .int xd, .int xq, .ref d2, .int (nI an), .int (nI nx), .ref d3, .ref d4, .ref d5, .ref d6, .int xm, .int (nI zn), .ref d7, .ref d8, .long sd, .ref d9, .ref d0])), (d2, .inl (gJ g, 6, .inr (.inl nw))), (d3, .inl (gJ g, 42, .inr (.inl rw)))] sz) (QAi g (fun (r : Int32) (u : Unit) => r = mMx nw 1 a b) (fun (u : Unit) => [(h0, .inr (6, [.ref d1, .int (nI ln), .long rd, .int xd, .int xq, .ref d2, .int (nI (cond (cbB a b) (acN an) an)), .int (nI (cond (cbB a b) ((nx + 1) % 14) nx)), .ref d3, .ref d4, .ref d5, .ref d6, .int xm, .int (nI zn), .ref d7, .ref d8, .long sd, .ref d9, .ref d0])), (d2, .inl (gJ g, 6, .inr (.inl (cond (cbB a b) (setS nw a (mxS 1 (picS nw a) (picS nw b))) nw)))), (d3, .inl (gJ g, 42, .inr (.inl (cond (cbB a b) (rkF nx nw rw) rw))))]) (va_A [(h0, .inr (6, [.ref d1, .int (nI ln), .long rd, .int xd, .int xq, .ref d2, .int (nI an), .int (nI nx), .ref d3, .ref d4, .ref d5, .ref d6, .int xm, .int (nI zn), .ref d7, .ref d8, .long sd, .ref d9, .ref d0])), (d2, .inl (gJ g, 6, .inr (.inl nw))), (d3, .inl (gJ g, 42, .inr (.inl rw)))] sz)) 0 0 (va_A [(h0, .inr (6, [.ref d1, .int (nI ln), .long rd, .int xd, .int xq, .ref d2, .int (nI an), .int (nI nx), .ref d3, .ref d4, .ref d5, .ref d6, .int xm, .int (nI zn), .ref d7, .ref d8, .long sd, .ref d9, .ref d0])), (d2, .inl (gJ g, 6, .inr (.inl nw))), (d3, .inl (gJ g, 42, .inr (.inl rw)))] sz) := by
  refine Met.M (Qc := fun A => QAi g (fun (r : Int32) (u : Unit) => r = mMx nw 1 a b) (fun (u : Unit) => [(h0, .inr (6, [.ref d1, .int (nI ln), .long rd, .int xd, .int xq, .ref d2, .int (nI (cond (cbB a b) (acN an) an)), .int (nI (cond (cbB a b) ((nx + 1) % 14) nx)), .ref d3, .ref d4, .ref d5, .ref d6, .int xm, .int (nI zn), .ref d7, .ref d8, .long sd, .ref d9, .ref d0])), (d2, .inl (gJ g, 6, .inr (.inl (cond (cbB a b) (setS nw a (mxS 1 (picS nw a) (picS nw b))) nw)))), (d3, .inl (gJ g, 42, .inr (.inl (cond (cbB a b) (rkF nx nw rw) rw))))]) A) (by decide) (Nat.le_of_ble_eq_true rfl) rfl ?_
  intro p e s m below meth c hx hb hr hml hw hown hlocks hin A hA hkn hP hD ls hl
  have hl : lv_has ls 3 [(0, .ref h0), (1, .int a), (2, .int b)] := hl
  have hS : va_S A s.heap s.heap [] := va_S.rf
  obtain ⟨H, hHe⟩ : ∃ H, H = s.heap := ⟨_, rfl⟩
  obtain ⟨locs, hLe⟩ : ∃ locs : List Loc, locs = [] := ⟨_, rfl⟩
  have hP : va_P g.1 vwCl [(h0, .inr (6, [.ref d1, .int (nI ln), .long rd, .int xd, .int xq, .ref d2, .int (nI an), .int (nI nx), .ref d3, .ref d4, .ref d5, .ref d6, .int xm, .int (nI zn), .ref d7, .ref d8, .long sd, .ref d9, .ref d0])), (d2, .inl (gJ g, 6, .inr (.inl nw))), (d3, .inl (gJ g, 42, .inr (.inl rw)))] H := by rw [hHe]; exact hP
  have hS : va_S A s.heap H locs := by rw [hHe, hLe]; exact hS
  have hgo : W p l e ({ frames := 3, cells := 0, slots := 0, locals := 68 } : Room) s m ([.ref h0, .int a, .int b] : List Value).toArray below meth c H locs 0 0 (MQ below (QAi g (fun (r : Int32) (u : Unit) => r = mMx nw 1 a b) (fun (u : Unit) => [(h0, .inr (6, [.ref d1, .int (nI ln), .long rd, .int xd, .int xq, .ref d2, .int (nI (cond (cbB a b) (acN an) an)), .int (nI (cond (cbB a b) ((nx + 1) % 14) nx)), .ref d3, .ref d4, .ref d5, .ref d6, .int xm, .int (nI zn), .ref d7, .ref d8, .long sd, .ref d9, .ref d0])), (d2, .inl (gJ g, 6, .inr (.inl (cond (cbB a b) (setS nw a (mxS 1 (picS nw a) (picS nw b))) nw)))), (d3, .inl (gJ g, 42, .inr (.inl (cond (cbB a b) (rkF nx nw rw) rw))))]) A) ([.ref h0, .int a, .int b] : List Value).toArray s 0 0 A) (F0 m 0 ls []) := ?_
  · rw [hHe, hLe] at hgo; exact hgo
  clear hHe hLe
  refine lv_aload_n hx hb dX7_meet_0 rfl (lv_at hl 0 rfl) ?_
  refine lv_iconst (v := 1) hx hb dX7_meet_1 (by decide) ?_
  refine lv_iload_n hx hb dX7_meet_2 rfl (lv_at hl 1 rfl) ?_
  refine lv_iload_n hx hb dX7_meet_3 rfl (lv_at hl 2 rfl) ?_
  refine cVM_i (As := [.int 1, .int a, .int b]) (rest := []) (q0 := 0) (wc := [(h0, .inr (6, [.ref d1, .int (nI ln), .long rd, .int xd, .int xq, .ref d2, .int (nI an), .int (nI nx), .ref d3, .ref d4, .ref d5, .ref d6, .int xm, .int (nI zn), .ref d7, .ref d8, .long sd, .ref d9, .ref d0])), (d2, .inl (gJ g, 6, .inr (.inl nw))), (d3, .inl (gJ g, 42, .inr (.inl rw)))]) (wr := []) hx hb hml hown hw hkn hS hl hA hP hD [0, 1, 2] [] rfl rfl (by decide) (by decide) (by decide) (c_X7_mix l g _ h0 1 a b d1 ln rd xd xq d2 an nx d3 d4 d5 d6 xm zn d7 d8 sd d9 d0 nw rw (by omega) (by omega)) vf_X7_mix mw_272 rfl rfl ⟨(Nat.le_of_ble_eq_true rfl), (Nat.le_of_ble_eq_true rfl)⟩ rfl rfl rfl rfl (Nat.le_of_ble_eq_true rfl) dX7_meet_4 ⟨(Nat.le_of_ble_eq_true rfl), (Nat.le_of_ble_eq_true rfl)⟩ (fun r u H locs hq hP hD hS => ?_)
  have hq : r = (mMx nw 1 a b) := hq
  subst hq
  have hP : va_P g.1 vwCl [(h0, .inr (6, [.ref d1, .int (nI ln), .long rd, .int xd, .int xq, .ref d2, .int (nI (cond (cbB a b) (acN an) an)), .int (nI (cond (cbB a b) ((nx + 1) % 14) nx)), .ref d3, .ref d4, .ref d5, .ref d6, .int xm, .int (nI zn), .ref d7, .ref d8, .long sd, .ref d9, .ref d0])), (d2, .inl (gJ g, 6, .inr (.inl (cond (cbB a b) (setS nw a (mxS 1 (picS nw a) (picS nw b))) nw)))), (d3, .inl (gJ g, 42, .inr (.inl (cond (cbB a b) (rkF nx nw rw) rw))))] H := hP.sub [0, 1, 2] rfl
  have hD : va_D A [(h0, .inr (6, [.ref d1, .int (nI ln), .long rd, .int xd, .int xq, .ref d2, .int (nI (cond (cbB a b) (acN an) an)), .int (nI (cond (cbB a b) ((nx + 1) % 14) nx)), .ref d3, .ref d4, .ref d5, .ref d6, .int xm, .int (nI zn), .ref d7, .ref d8, .long sd, .ref d9, .ref d0])), (d2, .inl (gJ g, 6, .inr (.inl (cond (cbB a b) (setS nw a (mxS 1 (picS nw a) (picS nw b))) nw)))), (d3, .inl (gJ g, 42, .inr (.inl (cond (cbB a b) (rkF nx nw rw) rw))))] := hD.sub [0, 1, 2] (by decide) rfl
  exact eM_i (g := g) hx hb hr hlocks () (rfl) (hP.sub [0, 1, 2] rfl) (hD.sub [0, 1, 2] (by decide) rfl) hS dX7_meet_7
set_option maxHeartbeats 4000000 in
set_option maxRecDepth 100000 in
theorem c_X7_less (l : Launch) (g : GG) (sz : Nat) (h0 : Nat) (a : Int32) (b : Int32) (d1 : Nat) (ln : Nat) (rd : Int64) (xd : Int32) (xq : Int32) (d2 : Nat) (an : Nat) (nx : Nat) (d3 : Nat) (d4 : Nat) (d5 : Nat) (d6 : Nat) (xm : Int32) (zn : Nat) (d7 : Nat) (d8 : Nat) (sd : Int64) (d9 : Nat) (d0 : Nat) (nw : Nat → Int64) (rw : Nat → Int64) (han : an ≤ 14) (hnx : nx < 14) : Met l yX7_less (Cond.code yX7_less cX7_less 3 (some .int) :: wsL_law) ({ frames := 3, cells := 0, slots := 0, locals := 68 }) (PM g [.ref h0, .int a, .int b] [(h0, .inr (6, [.ref d1, .int (nI ln), .long rd, .int xd, .int xq, .ref d2, .int (nI an), .int (nI nx), .ref d3, .ref d4, .ref d5, .ref d6, .int xm, .int (nI zn), .ref d7, .ref d8, .long sd, .ref d9, .ref d0])), (d2, .inl (gJ g, 6, .inr (.inl nw))), (d3, .inl (gJ g, 42, .inr (.inl rw)))] sz) (QAi g (fun (r : Int32) (u : Unit) => r = mMx nw 2 a b) (fun (u : Unit) => [(h0, .inr (6, [.ref d1, .int (nI ln), .long rd, .int xd, .int xq, .ref d2, .int (nI (cond (cbB a b) (acN an) an)), .int (nI (cond (cbB a b) ((nx + 1) % 14) nx)), .ref d3, .ref d4, .ref d5, .ref d6, .int xm, .int (nI zn), .ref d7, .ref d8, .long sd, .ref d9, .ref d0])), (d2, .inl (gJ g, 6, .inr (.inl (cond (cbB a b) (setS nw a (mxS 2 (picS nw a) (picS nw b))) nw)))), (d3, .inl (gJ g, 42, .inr (.inl (cond (cbB a b) (rkF nx nw rw) rw))))]) (va_A [(h0, .inr (6, [.ref d1, .int (nI ln), .long rd, .int xd, .int xq, .ref d2, .int (nI an), .int (nI nx), .ref d3, .ref d4, .ref d5, .ref d6, .int xm, .int (nI zn), .ref d7, .ref d8, .long sd, .ref d9, .ref d0])), (d2, .inl (gJ g, 6, .inr (.inl nw))), (d3, .inl (gJ g, 42, .inr (.inl rw)))] sz)) 0 0 (va_A [(h0, .inr (6, [.ref d1, .int (nI ln), .long rd, .int xd, .int xq, .ref d2, .int (nI an), .int (nI nx), .ref d3, .ref d4, .ref d5, .ref d6, .int xm, .int (nI zn), .ref d7, .ref d8, .long sd, .ref d9, .ref d0])), (d2, .inl (gJ g, 6, .inr (.inl nw))), (d3, .inl (gJ g, 42, .inr (.inl rw)))] sz) := by
  refine Met.M (Qc := fun A => QAi g (fun (r : Int32) (u : Unit) => r = mMx nw 2 a b) (fun (u : Unit) => [(h0, .inr (6, [.ref d1, .int (nI ln), .long rd, .int xd, .int xq, .ref d2, .int (nI (cond (cbB a b) (acN an) an)), .int (nI (cond (cbB a b) ((nx + 1) % 14) nx)), .ref d3, .ref d4, .ref d5, .ref d6, .int xm, .int (nI zn), .ref d7, .ref d8, .long sd, .ref d9, .ref d0])), (d2, .inl (gJ g, 6, .inr (.inl (cond (cbB a b) (setS nw a (mxS 2 (picS nw a) (picS nw b))) nw)))), (d3, .inl (gJ g, 42, .inr (.inl (cond (cbB a b) (rkF nx nw rw) rw))))]) A) (by decide) (Nat.le_of_ble_eq_true rfl) rfl ?_
  intro p e s m below meth c hx hb hr hml hw hown hlocks hin A hA hkn hP hD ls hl
  have hl : lv_has ls 3 [(0, .ref h0), (1, .int a), (2, .int b)] := hl
  have hS : va_S A s.heap s.heap [] := va_S.rf
  obtain ⟨H, hHe⟩ : ∃ H, H = s.heap := ⟨_, rfl⟩
  obtain ⟨locs, hLe⟩ : ∃ locs : List Loc, locs = [] := ⟨_, rfl⟩
  have hP : va_P g.1 vwCl [(h0, .inr (6, [.ref d1, .int (nI ln), .long rd, .int xd, .int xq, .ref d2, .int (nI an), .int (nI nx), .ref d3, .ref d4, .ref d5, .ref d6, .int xm, .int (nI zn), .ref d7, .ref d8, .long sd, .ref d9, .ref d0])), (d2, .inl (gJ g, 6, .inr (.inl nw))), (d3, .inl (gJ g, 42, .inr (.inl rw)))] H := by rw [hHe]; exact hP
  have hS : va_S A s.heap H locs := by rw [hHe, hLe]; exact hS
  have hgo : W p l e ({ frames := 3, cells := 0, slots := 0, locals := 68 } : Room) s m ([.ref h0, .int a, .int b] : List Value).toArray below meth c H locs 0 0 (MQ below (QAi g (fun (r : Int32) (u : Unit) => r = mMx nw 2 a b) (fun (u : Unit) => [(h0, .inr (6, [.ref d1, .int (nI ln), .long rd, .int xd, .int xq, .ref d2, .int (nI (cond (cbB a b) (acN an) an)), .int (nI (cond (cbB a b) ((nx + 1) % 14) nx)), .ref d3, .ref d4, .ref d5, .ref d6, .int xm, .int (nI zn), .ref d7, .ref d8, .long sd, .ref d9, .ref d0])), (d2, .inl (gJ g, 6, .inr (.inl (cond (cbB a b) (setS nw a (mxS 2 (picS nw a) (picS nw b))) nw)))), (d3, .inl (gJ g, 42, .inr (.inl (cond (cbB a b) (rkF nx nw rw) rw))))]) A) ([.ref h0, .int a, .int b] : List Value).toArray s 0 0 A) (F0 m 0 ls []) := ?_
  · rw [hHe, hLe] at hgo; exact hgo
  clear hHe hLe
  refine lv_aload_n hx hb dX7_less_0 rfl (lv_at hl 0 rfl) ?_
  refine lv_iconst (v := 2) hx hb dX7_less_1 (by decide) ?_
  refine lv_iload_n hx hb dX7_less_2 rfl (lv_at hl 1 rfl) ?_
  refine lv_iload_n hx hb dX7_less_3 rfl (lv_at hl 2 rfl) ?_
  refine cVM_i (As := [.int 2, .int a, .int b]) (rest := []) (q0 := 0) (wc := [(h0, .inr (6, [.ref d1, .int (nI ln), .long rd, .int xd, .int xq, .ref d2, .int (nI an), .int (nI nx), .ref d3, .ref d4, .ref d5, .ref d6, .int xm, .int (nI zn), .ref d7, .ref d8, .long sd, .ref d9, .ref d0])), (d2, .inl (gJ g, 6, .inr (.inl nw))), (d3, .inl (gJ g, 42, .inr (.inl rw)))]) (wr := []) hx hb hml hown hw hkn hS hl hA hP hD [0, 1, 2] [] rfl rfl (by decide) (by decide) (by decide) (c_X7_mix l g _ h0 2 a b d1 ln rd xd xq d2 an nx d3 d4 d5 d6 xm zn d7 d8 sd d9 d0 nw rw (by omega) (by omega)) vf_X7_mix mw_272 rfl rfl ⟨(Nat.le_of_ble_eq_true rfl), (Nat.le_of_ble_eq_true rfl)⟩ rfl rfl rfl rfl (Nat.le_of_ble_eq_true rfl) dX7_less_4 ⟨(Nat.le_of_ble_eq_true rfl), (Nat.le_of_ble_eq_true rfl)⟩ (fun r u H locs hq hP hD hS => ?_)
  have hq : r = (mMx nw 2 a b) := hq
  subst hq
  have hP : va_P g.1 vwCl [(h0, .inr (6, [.ref d1, .int (nI ln), .long rd, .int xd, .int xq, .ref d2, .int (nI (cond (cbB a b) (acN an) an)), .int (nI (cond (cbB a b) ((nx + 1) % 14) nx)), .ref d3, .ref d4, .ref d5, .ref d6, .int xm, .int (nI zn), .ref d7, .ref d8, .long sd, .ref d9, .ref d0])), (d2, .inl (gJ g, 6, .inr (.inl (cond (cbB a b) (setS nw a (mxS 2 (picS nw a) (picS nw b))) nw)))), (d3, .inl (gJ g, 42, .inr (.inl (cond (cbB a b) (rkF nx nw rw) rw))))] H := hP.sub [0, 1, 2] rfl
  have hD : va_D A [(h0, .inr (6, [.ref d1, .int (nI ln), .long rd, .int xd, .int xq, .ref d2, .int (nI (cond (cbB a b) (acN an) an)), .int (nI (cond (cbB a b) ((nx + 1) % 14) nx)), .ref d3, .ref d4, .ref d5, .ref d6, .int xm, .int (nI zn), .ref d7, .ref d8, .long sd, .ref d9, .ref d0])), (d2, .inl (gJ g, 6, .inr (.inl (cond (cbB a b) (setS nw a (mxS 2 (picS nw a) (picS nw b))) nw)))), (d3, .inl (gJ g, 42, .inr (.inl (cond (cbB a b) (rkF nx nw rw) rw))))] := hD.sub [0, 1, 2] (by decide) rfl
  exact eM_i (g := g) hx hb hr hlocks () (rfl) (hP.sub [0, 1, 2] rfl) (hD.sub [0, 1, 2] (by decide) rfl) hS dX7_less_7
set_option maxHeartbeats 4000000 in
set_option maxRecDepth 100000 in
theorem c_X7_turn (l : Launch) (g : GG) (sz : Nat) (h0 : Nat) (x0 : Int32) (d1 : Nat) (ln : Nat) (rd : Int64) (xd : Int32) (xq : Int32) (d2 : Nat) (an : Nat) (nx : Nat) (d3 : Nat) (d4 : Nat) (d5 : Nat) (d6 : Nat) (xm : Int32) (zn : Nat) (d7 : Nat) (d8 : Nat) (sd : Int64) (d9 : Nat) (d0 : Nat) (nw : Nat → Int64) (rw : Nat → Int64) (han : an ≤ 14) (hnx : nx < 14) : Met l yX7_turn (Cond.code yX7_turn cX7_turn 2 (some .int) :: wsL_law) ({ frames := 3, cells := 0, slots := 0, locals := 74 }) (PM g [.ref h0, .int x0] [(h0, .inr (6, [.ref d1, .int (nI ln), .long rd, .int xd, .int xq, .ref d2, .int (nI an), .int (nI nx), .ref d3, .ref d4, .ref d5, .ref d6, .int xm, .int (nI zn), .ref d7, .ref d8, .long sd, .ref d9, .ref d0])), (d2, .inl (gJ g, 6, .inr (.inl nw))), (d3, .inl (gJ g, 42, .inr (.inl rw)))] sz) (QAi g (fun (r : Int32) (u : Unit) => r = qTu nw x0) (fun (u : Unit) => [(h0, .inr (6, [.ref d1, .int (nI ln), .long rd, .int xd, .int xq, .ref d2, .int (nI (cond (isPic x0) (acN an) an)), .int (nI (cond (isPic x0) ((nx + 1) % 14) nx)), .ref d3, .ref d4, .ref d5, .ref d6, .int xm, .int (nI zn), .ref d7, .ref d8, .long sd, .ref d9, .ref d0])), (d2, .inl (gJ g, 6, .inr (.inl (cond (isPic x0) (setS nw x0 (tuS (picS nw x0))) nw)))), (d3, .inl (gJ g, 42, .inr (.inl (cond (isPic x0) (rkF nx nw rw) rw))))]) (va_A [(h0, .inr (6, [.ref d1, .int (nI ln), .long rd, .int xd, .int xq, .ref d2, .int (nI an), .int (nI nx), .ref d3, .ref d4, .ref d5, .ref d6, .int xm, .int (nI zn), .ref d7, .ref d8, .long sd, .ref d9, .ref d0])), (d2, .inl (gJ g, 6, .inr (.inl nw))), (d3, .inl (gJ g, 42, .inr (.inl rw)))] sz)) 0 0 (va_A [(h0, .inr (6, [.ref d1, .int (nI ln), .long rd, .int xd, .int xq, .ref d2, .int (nI an), .int (nI nx), .ref d3, .ref d4, .ref d5, .ref d6, .int xm, .int (nI zn), .ref d7, .ref d8, .long sd, .ref d9, .ref d0])), (d2, .inl (gJ g, 6, .inr (.inl nw))), (d3, .inl (gJ g, 42, .inr (.inl rw)))] sz) := by
  refine Met.M (Qc := fun A => QAi g (fun (r : Int32) (u : Unit) => r = qTu nw x0) (fun (u : Unit) => [(h0, .inr (6, [.ref d1, .int (nI ln), .long rd, .int xd, .int xq, .ref d2, .int (nI (cond (isPic x0) (acN an) an)), .int (nI (cond (isPic x0) ((nx + 1) % 14) nx)), .ref d3, .ref d4, .ref d5, .ref d6, .int xm, .int (nI zn), .ref d7, .ref d8, .long sd, .ref d9, .ref d0])), (d2, .inl (gJ g, 6, .inr (.inl (cond (isPic x0) (setS nw x0 (tuS (picS nw x0))) nw)))), (d3, .inl (gJ g, 42, .inr (.inl (cond (isPic x0) (rkF nx nw rw) rw))))]) A) (by decide) (Nat.le_of_ble_eq_true rfl) rfl ?_
  intro p e s m below meth c hx hb hr hml hw hown hlocks hin A hA hkn hP hD ls hl
  have hl : lv_has ls 2 [(0, .ref h0), (1, .int x0)] := hl
  have hS : va_S A s.heap s.heap [] := va_S.rf
  obtain ⟨H, hHe⟩ : ∃ H, H = s.heap := ⟨_, rfl⟩
  obtain ⟨locs, hLe⟩ : ∃ locs : List Loc, locs = [] := ⟨_, rfl⟩
  have hP : va_P g.1 vwCl [(h0, .inr (6, [.ref d1, .int (nI ln), .long rd, .int xd, .int xq, .ref d2, .int (nI an), .int (nI nx), .ref d3, .ref d4, .ref d5, .ref d6, .int xm, .int (nI zn), .ref d7, .ref d8, .long sd, .ref d9, .ref d0])), (d2, .inl (gJ g, 6, .inr (.inl nw))), (d3, .inl (gJ g, 42, .inr (.inl rw)))] H := by rw [hHe]; exact hP
  have hS : va_S A s.heap H locs := by rw [hHe, hLe]; exact hS
  have hgo : W p l e ({ frames := 3, cells := 0, slots := 0, locals := 74 } : Room) s m ([.ref h0, .int x0] : List Value).toArray below meth c H locs 0 0 (MQ below (QAi g (fun (r : Int32) (u : Unit) => r = qTu nw x0) (fun (u : Unit) => [(h0, .inr (6, [.ref d1, .int (nI ln), .long rd, .int xd, .int xq, .ref d2, .int (nI (cond (isPic x0) (acN an) an)), .int (nI (cond (isPic x0) ((nx + 1) % 14) nx)), .ref d3, .ref d4, .ref d5, .ref d6, .int xm, .int (nI zn), .ref d7, .ref d8, .long sd, .ref d9, .ref d0])), (d2, .inl (gJ g, 6, .inr (.inl (cond (isPic x0) (setS nw x0 (tuS (picS nw x0))) nw)))), (d3, .inl (gJ g, 42, .inr (.inl (cond (isPic x0) (rkF nx nw rw) rw))))]) A) ([.ref h0, .int x0] : List Value).toArray s 0 0 A) (F0 m 0 ls []) := ?_
  · rw [hHe, hLe] at hgo; exact hgo
  clear hHe hLe
  refine lv_iload_n hx hb dX7_turn_0 rfl (lv_at hl 1 rfl) ?_
  refine cS_i (As := [.int x0]) (rest := []) hx hb hml hown hw hkn hS hl (c_X7_isPicture l g _ x0 ) sf_X7_isPicture mw_245 ⟨(Nat.le_of_ble_eq_true rfl), (Nat.le_of_ble_eq_true rfl)⟩ rfl rfl rfl rfl (Nat.le_of_ble_eq_true rfl) dX7_turn_1 ⟨(Nat.le_of_ble_eq_true rfl), (Nat.le_of_ble_eq_true rfl)⟩ ?_
  refine lv_ifneB (b := isPic x0) (tgt := 9) hx hb dX7_turn_4 (by decide) (fun c_1 => ?_) (fun c_1 => ?_)
  · skip
    refine lv_aload_n hx hb dX7_turn_9 rfl (lv_at hl 0 rfl) ?_
    refine cVM_v (As := []) (rest := []) (q0 := 0) (wc := [(h0, .inr (6, [.ref d1, .int (nI ln), .long rd, .int xd, .int xq, .ref d2, .int (nI an), .int (nI nx), .ref d3, .ref d4, .ref d5, .ref d6, .int xm, .int (nI zn), .ref d7, .ref d8, .long sd, .ref d9, .ref d0])), (d2, .inl (gJ g, 6, .inr (.inl nw))), (d3, .inl (gJ g, 42, .inr (.inl rw)))]) (wr := []) hx hb hml hown hw hkn hS hl hA hP hD [0, 1, 2] [] rfl rfl (by decide) (by decide) (by decide) (c_X7_keepAct l g _ h0 d1 ln rd xd xq d2 an nx d3 d4 d5 d6 xm zn d7 d8 sd d9 d0 nw rw (by omega) (by omega)) vf_X7_keepAct mw_248 rfl rfl ⟨(Nat.le_of_ble_eq_true rfl), (Nat.le_of_ble_eq_true rfl)⟩ rfl rfl rfl rfl (Nat.le_of_ble_eq_true rfl) dX7_turn_10 ⟨(Nat.le_of_ble_eq_true rfl), (Nat.le_of_ble_eq_true rfl)⟩ (fun u H locs hq hP hD hS => ?_)
    have hP : va_P g.1 vwCl [(h0, .inr (6, [.ref d1, .int (nI ln), .long rd, .int xd, .int xq, .ref d2, .int (nI (acN an)), .int (nI ((nx + 1) % 14)), .ref d3, .ref d4, .ref d5, .ref d6, .int xm, .int (nI zn), .ref d7, .ref d8, .long sd, .ref d9, .ref d0])), (d2, .inl (gJ g, 6, .inr (.inl nw))), (d3, .inl (gJ g, 42, .inr (.inl (rkF nx nw rw))))] H := hP.sub [0, 1, 2] rfl
    have hD : va_D A [(h0, .inr (6, [.ref d1, .int (nI ln), .long rd, .int xd, .int xq, .ref d2, .int (nI (acN an)), .int (nI ((nx + 1) % 14)), .ref d3, .ref d4, .ref d5, .ref d6, .int xm, .int (nI zn), .ref d7, .ref d8, .long sd, .ref d9, .ref d0])), (d2, .inl (gJ g, 6, .inr (.inl nw))), (d3, .inl (gJ g, 42, .inr (.inl (rkF nx nw rw))))] := hD.sub [0, 1, 2] (by decide) rfl
    refine lv_aload_n hx hb dX7_turn_13 rfl (lv_at hl 0 rfl) ?_
    refine va_get (D := g.1) (ci := 6) (v := .ref d2) (C := RX7) (T := TX7) (N := 19) hx hb hw inlX7 hown hkn.1 hP 0 rfl rfl 5 (by decide) (hw _ mw_74) (fun _ h9 => h9) rfl dX7_turn_14 ?_
    refine lv_iload_n hx hb dX7_turn_17 rfl (lv_at hl 1 rfl) ?_
    refine lv_aload_n hx hb dX7_turn_18 rfl (lv_at hl 0 rfl) ?_
    refine va_get (D := g.1) (ci := 6) (v := .ref d2) (C := RX7) (T := TX7) (N := 19) hx hb hw inlX7 hown hkn.1 hP 0 rfl rfl 5 (by decide) (hw _ mw_74) (fun _ h9 => h9) rfl dX7_turn_19 ?_
    refine lv_iload_n hx hb dX7_turn_22 rfl (lv_at hl 1 rfl) ?_
    refine va_lald hx hb hkn.1 hP 1 1 rfl rfl (isPic_vp6 c_1) dX7_turn_23 ?_
    refine cS_l (As := [.long (nw (x0).toNatClampNeg)]) (rest := [.int x0, .ref d2]) hx hb hml hown hw hkn hS hl (c_X7_turned l g _ (nw (x0).toNatClampNeg) ) sf_X7_turned mw_318 ⟨(Nat.le_of_ble_eq_true rfl), (Nat.le_of_ble_eq_true rfl)⟩ rfl rfl rfl rfl (Nat.le_of_ble_eq_true rfl) dX7_turn_24 ⟨(Nat.le_of_ble_eq_true rfl), (Nat.le_of_ble_eq_true rfl)⟩ ?_
    refine va_last hx hb hkn.1 hP hD hS 1 1 rfl rfl (isPic_vp6 c_1) dX7_turn_27 (fun H locs hP hD hS => ?_)
    have hP : va_P g.1 vwCl [(h0, .inr (6, [.ref d1, .int (nI ln), .long rd, .int xd, .int xq, .ref d2, .int (nI (acN an)), .int (nI ((nx + 1) % 14)), .ref d3, .ref d4, .ref d5, .ref d6, .int xm, .int (nI zn), .ref d7, .ref d8, .long sd, .ref d9, .ref d0])), (d2, .inl (gJ g, 6, .inr (.inl (vp_updL nw (x0).toNatClampNeg (tuS (nw (x0).toNatClampNeg)))))), (d3, .inl (gJ g, 42, .inr (.inl (rkF nx nw rw))))] H := hP
    have hD : va_D A [(h0, .inr (6, [.ref d1, .int (nI ln), .long rd, .int xd, .int xq, .ref d2, .int (nI (acN an)), .int (nI ((nx + 1) % 14)), .ref d3, .ref d4, .ref d5, .ref d6, .int xm, .int (nI zn), .ref d7, .ref d8, .long sd, .ref d9, .ref d0])), (d2, .inl (gJ g, 6, .inr (.inl (vp_updL nw (x0).toNatClampNeg (tuS (nw (x0).toNatClampNeg)))))), (d3, .inl (gJ g, 42, .inr (.inl (rkF nx nw rw))))] := hD
    refine lv_aload_n hx hb dX7_turn_28 rfl (lv_at hl 0 rfl) ?_
    refine va_get (D := g.1) (ci := 6) (v := .ref d2) (C := RX7) (T := TX7) (N := 19) hx hb hw inlX7 hown hkn.1 hP 0 rfl rfl 5 (by decide) (hw _ mw_74) (fun _ h9 => h9) rfl dX7_turn_29 ?_
    refine lv_iload_n hx hb dX7_turn_32 rfl (lv_at hl 1 rfl) ?_
    refine va_lald hx hb hkn.1 hP 1 1 rfl rfl (isPic_vp6 c_1) dX7_turn_33 ?_
    refine lv_ldc2 hx hb hown (hw _ mw_99) dX7_turn_34 ?_
    refine lv_land hx hb dX7_turn_37 ?_
    refine lv_l2i hx hb dX7_turn_38 rfl ?_
    have e1 : setS nw x0 (tuS (picS nw x0)) = (vp_updL nw (x0).toNatClampNeg (tuS (nw (x0).toNatClampNeg))) := by rw [set_i c_1, pic_i c_1]
    exact eM_i (g := g) hx hb hr hlocks () (by unfold qTu; rw [if_pos c_1, pic_i c_1, updL_at]) (show va_P g.1 vwCl [(h0, .inr (6, [.ref d1, .int (nI ln), .long rd, .int xd, .int xq, .ref d2, .int (nI (cond (isPic x0) (acN an) an)), .int (nI (cond (isPic x0) ((nx + 1) % 14) nx)), .ref d3, .ref d4, .ref d5, .ref d6, .int xm, .int (nI zn), .ref d7, .ref d8, .long sd, .ref d9, .ref d0])), (d2, .inl (gJ g, 6, .inr (.inl (cond (isPic x0) (setS nw x0 (tuS (picS nw x0))) nw)))), (d3, .inl (gJ g, 42, .inr (.inl (cond (isPic x0) (rkF nx nw rw) rw))))] H by rw [c_1, e1]; exact hP.sub [0, 1, 2] rfl) (show va_D A [(h0, .inr (6, [.ref d1, .int (nI ln), .long rd, .int xd, .int xq, .ref d2, .int (nI (cond (isPic x0) (acN an) an)), .int (nI (cond (isPic x0) ((nx + 1) % 14) nx)), .ref d3, .ref d4, .ref d5, .ref d6, .int xm, .int (nI zn), .ref d7, .ref d8, .long sd, .ref d9, .ref d0])), (d2, .inl (gJ g, 6, .inr (.inl (cond (isPic x0) (setS nw x0 (tuS (picS nw x0))) nw)))), (d3, .inl (gJ g, 42, .inr (.inl (cond (isPic x0) (rkF nx nw rw) rw))))] by rw [c_1, e1]; exact hD.sub [0, 1, 2] (by decide) rfl) hS dX7_turn_39
  · skip
    refine lv_iconst (v := (-1)) hx hb dX7_turn_7 (by decide) ?_
    exact eM_i (g := g) hx hb hr hlocks () (by unfold qTu; rw [if_neg (nt_of c_1)]) (show va_P g.1 vwCl [(h0, .inr (6, [.ref d1, .int (nI ln), .long rd, .int xd, .int xq, .ref d2, .int (nI (cond (isPic x0) (acN an) an)), .int (nI (cond (isPic x0) ((nx + 1) % 14) nx)), .ref d3, .ref d4, .ref d5, .ref d6, .int xm, .int (nI zn), .ref d7, .ref d8, .long sd, .ref d9, .ref d0])), (d2, .inl (gJ g, 6, .inr (.inl (cond (isPic x0) (setS nw x0 (tuS (picS nw x0))) nw)))), (d3, .inl (gJ g, 42, .inr (.inl (cond (isPic x0) (rkF nx nw rw) rw))))] H by rw [c_1]; exact hP.sub [0, 1, 2] rfl) (show va_D A [(h0, .inr (6, [.ref d1, .int (nI ln), .long rd, .int xd, .int xq, .ref d2, .int (nI (cond (isPic x0) (acN an) an)), .int (nI (cond (isPic x0) ((nx + 1) % 14) nx)), .ref d3, .ref d4, .ref d5, .ref d6, .int xm, .int (nI zn), .ref d7, .ref d8, .long sd, .ref d9, .ref d0])), (d2, .inl (gJ g, 6, .inr (.inl (cond (isPic x0) (setS nw x0 (tuS (picS nw x0))) nw)))), (d3, .inl (gJ g, 42, .inr (.inl (cond (isPic x0) (rkF nx nw rw) rw))))] by rw [c_1]; exact hD.sub [0, 1, 2] (by decide) rfl) hS dX7_turn_8
set_option maxHeartbeats 4000000 in
set_option maxRecDepth 100000 in
theorem c_X7_flip (l : Launch) (g : GG) (sz : Nat) (h0 : Nat) (x0 : Int32) (d1 : Nat) (ln : Nat) (rd : Int64) (xd : Int32) (xq : Int32) (d2 : Nat) (an : Nat) (nx : Nat) (d3 : Nat) (d4 : Nat) (d5 : Nat) (d6 : Nat) (xm : Int32) (zn : Nat) (d7 : Nat) (d8 : Nat) (sd : Int64) (d9 : Nat) (d0 : Nat) (nw : Nat → Int64) (rw : Nat → Int64) (han : an ≤ 14) (hnx : nx < 14) : Met l yX7_flip (Cond.code yX7_flip cX7_flip 2 (some .int) :: wsL_law) ({ frames := 3, cells := 0, slots := 0, locals := 72 }) (PM g [.ref h0, .int x0] [(h0, .inr (6, [.ref d1, .int (nI ln), .long rd, .int xd, .int xq, .ref d2, .int (nI an), .int (nI nx), .ref d3, .ref d4, .ref d5, .ref d6, .int xm, .int (nI zn), .ref d7, .ref d8, .long sd, .ref d9, .ref d0])), (d2, .inl (gJ g, 6, .inr (.inl nw))), (d3, .inl (gJ g, 42, .inr (.inl rw)))] sz) (QAi g (fun (r : Int32) (u : Unit) => r = qFl nw x0) (fun (u : Unit) => [(h0, .inr (6, [.ref d1, .int (nI ln), .long rd, .int xd, .int xq, .ref d2, .int (nI (cond (isPic x0) (acN an) an)), .int (nI (cond (isPic x0) ((nx + 1) % 14) nx)), .ref d3, .ref d4, .ref d5, .ref d6, .int xm, .int (nI zn), .ref d7, .ref d8, .long sd, .ref d9, .ref d0])), (d2, .inl (gJ g, 6, .inr (.inl (cond (isPic x0) (setS nw x0 (flS (picS nw x0))) nw)))), (d3, .inl (gJ g, 42, .inr (.inl (cond (isPic x0) (rkF nx nw rw) rw))))]) (va_A [(h0, .inr (6, [.ref d1, .int (nI ln), .long rd, .int xd, .int xq, .ref d2, .int (nI an), .int (nI nx), .ref d3, .ref d4, .ref d5, .ref d6, .int xm, .int (nI zn), .ref d7, .ref d8, .long sd, .ref d9, .ref d0])), (d2, .inl (gJ g, 6, .inr (.inl nw))), (d3, .inl (gJ g, 42, .inr (.inl rw)))] sz)) 0 0 (va_A [(h0, .inr (6, [.ref d1, .int (nI ln), .long rd, .int xd, .int xq, .ref d2, .int (nI an), .int (nI nx), .ref d3, .ref d4, .ref d5, .ref d6, .int xm, .int (nI zn), .ref d7, .ref d8, .long sd, .ref d9, .ref d0])), (d2, .inl (gJ g, 6, .inr (.inl nw))), (d3, .inl (gJ g, 42, .inr (.inl rw)))] sz) := by
  refine Met.M (Qc := fun A => QAi g (fun (r : Int32) (u : Unit) => r = qFl nw x0) (fun (u : Unit) => [(h0, .inr (6, [.ref d1, .int (nI ln), .long rd, .int xd, .int xq, .ref d2, .int (nI (cond (isPic x0) (acN an) an)), .int (nI (cond (isPic x0) ((nx + 1) % 14) nx)), .ref d3, .ref d4, .ref d5, .ref d6, .int xm, .int (nI zn), .ref d7, .ref d8, .long sd, .ref d9, .ref d0])), (d2, .inl (gJ g, 6, .inr (.inl (cond (isPic x0) (setS nw x0 (flS (picS nw x0))) nw)))), (d3, .inl (gJ g, 42, .inr (.inl (cond (isPic x0) (rkF nx nw rw) rw))))]) A) (by decide) (Nat.le_of_ble_eq_true rfl) rfl ?_
  intro p e s m below meth c hx hb hr hml hw hown hlocks hin A hA hkn hP hD ls hl
  have hl : lv_has ls 2 [(0, .ref h0), (1, .int x0)] := hl
  have hS : va_S A s.heap s.heap [] := va_S.rf
  obtain ⟨H, hHe⟩ : ∃ H, H = s.heap := ⟨_, rfl⟩
  obtain ⟨locs, hLe⟩ : ∃ locs : List Loc, locs = [] := ⟨_, rfl⟩
  have hP : va_P g.1 vwCl [(h0, .inr (6, [.ref d1, .int (nI ln), .long rd, .int xd, .int xq, .ref d2, .int (nI an), .int (nI nx), .ref d3, .ref d4, .ref d5, .ref d6, .int xm, .int (nI zn), .ref d7, .ref d8, .long sd, .ref d9, .ref d0])), (d2, .inl (gJ g, 6, .inr (.inl nw))), (d3, .inl (gJ g, 42, .inr (.inl rw)))] H := by rw [hHe]; exact hP
  have hS : va_S A s.heap H locs := by rw [hHe, hLe]; exact hS
  have hgo : W p l e ({ frames := 3, cells := 0, slots := 0, locals := 72 } : Room) s m ([.ref h0, .int x0] : List Value).toArray below meth c H locs 0 0 (MQ below (QAi g (fun (r : Int32) (u : Unit) => r = qFl nw x0) (fun (u : Unit) => [(h0, .inr (6, [.ref d1, .int (nI ln), .long rd, .int xd, .int xq, .ref d2, .int (nI (cond (isPic x0) (acN an) an)), .int (nI (cond (isPic x0) ((nx + 1) % 14) nx)), .ref d3, .ref d4, .ref d5, .ref d6, .int xm, .int (nI zn), .ref d7, .ref d8, .long sd, .ref d9, .ref d0])), (d2, .inl (gJ g, 6, .inr (.inl (cond (isPic x0) (setS nw x0 (flS (picS nw x0))) nw)))), (d3, .inl (gJ g, 42, .inr (.inl (cond (isPic x0) (rkF nx nw rw) rw))))]) A) ([.ref h0, .int x0] : List Value).toArray s 0 0 A) (F0 m 0 ls []) := ?_
  · rw [hHe, hLe] at hgo; exact hgo
  clear hHe hLe
  refine lv_iload_n hx hb dX7_flip_0 rfl (lv_at hl 1 rfl) ?_
  refine cS_i (As := [.int x0]) (rest := []) hx hb hml hown hw hkn hS hl (c_X7_isPicture l g _ x0 ) sf_X7_isPicture mw_245 ⟨(Nat.le_of_ble_eq_true rfl), (Nat.le_of_ble_eq_true rfl)⟩ rfl rfl rfl rfl (Nat.le_of_ble_eq_true rfl) dX7_flip_1 ⟨(Nat.le_of_ble_eq_true rfl), (Nat.le_of_ble_eq_true rfl)⟩ ?_
  refine lv_ifneB (b := isPic x0) (tgt := 9) hx hb dX7_flip_4 (by decide) (fun c_1 => ?_) (fun c_1 => ?_)
  · skip
    refine lv_aload_n hx hb dX7_flip_9 rfl (lv_at hl 0 rfl) ?_
    refine cVM_v (As := []) (rest := []) (q0 := 0) (wc := [(h0, .inr (6, [.ref d1, .int (nI ln), .long rd, .int xd, .int xq, .ref d2, .int (nI an), .int (nI nx), .ref d3, .ref d4, .ref d5, .ref d6, .int xm, .int (nI zn), .ref d7, .ref d8, .long sd, .ref d9, .ref d0])), (d2, .inl (gJ g, 6, .inr (.inl nw))), (d3, .inl (gJ g, 42, .inr (.inl rw)))]) (wr := []) hx hb hml hown hw hkn hS hl hA hP hD [0, 1, 2] [] rfl rfl (by decide) (by decide) (by decide) (c_X7_keepAct l g _ h0 d1 ln rd xd xq d2 an nx d3 d4 d5 d6 xm zn d7 d8 sd d9 d0 nw rw (by omega) (by omega)) vf_X7_keepAct mw_248 rfl rfl ⟨(Nat.le_of_ble_eq_true rfl), (Nat.le_of_ble_eq_true rfl)⟩ rfl rfl rfl rfl (Nat.le_of_ble_eq_true rfl) dX7_flip_10 ⟨(Nat.le_of_ble_eq_true rfl), (Nat.le_of_ble_eq_true rfl)⟩ (fun u H locs hq hP hD hS => ?_)
    have hP : va_P g.1 vwCl [(h0, .inr (6, [.ref d1, .int (nI ln), .long rd, .int xd, .int xq, .ref d2, .int (nI (acN an)), .int (nI ((nx + 1) % 14)), .ref d3, .ref d4, .ref d5, .ref d6, .int xm, .int (nI zn), .ref d7, .ref d8, .long sd, .ref d9, .ref d0])), (d2, .inl (gJ g, 6, .inr (.inl nw))), (d3, .inl (gJ g, 42, .inr (.inl (rkF nx nw rw))))] H := hP.sub [0, 1, 2] rfl
    have hD : va_D A [(h0, .inr (6, [.ref d1, .int (nI ln), .long rd, .int xd, .int xq, .ref d2, .int (nI (acN an)), .int (nI ((nx + 1) % 14)), .ref d3, .ref d4, .ref d5, .ref d6, .int xm, .int (nI zn), .ref d7, .ref d8, .long sd, .ref d9, .ref d0])), (d2, .inl (gJ g, 6, .inr (.inl nw))), (d3, .inl (gJ g, 42, .inr (.inl (rkF nx nw rw))))] := hD.sub [0, 1, 2] (by decide) rfl
    refine lv_aload_n hx hb dX7_flip_13 rfl (lv_at hl 0 rfl) ?_
    refine va_get (D := g.1) (ci := 6) (v := .ref d2) (C := RX7) (T := TX7) (N := 19) hx hb hw inlX7 hown hkn.1 hP 0 rfl rfl 5 (by decide) (hw _ mw_74) (fun _ h9 => h9) rfl dX7_flip_14 ?_
    refine lv_iload_n hx hb dX7_flip_17 rfl (lv_at hl 1 rfl) ?_
    refine lv_aload_n hx hb dX7_flip_18 rfl (lv_at hl 0 rfl) ?_
    refine va_get (D := g.1) (ci := 6) (v := .ref d2) (C := RX7) (T := TX7) (N := 19) hx hb hw inlX7 hown hkn.1 hP 0 rfl rfl 5 (by decide) (hw _ mw_74) (fun _ h9 => h9) rfl dX7_flip_19 ?_
    refine lv_iload_n hx hb dX7_flip_22 rfl (lv_at hl 1 rfl) ?_
    refine va_lald hx hb hkn.1 hP 1 1 rfl rfl (isPic_vp6 c_1) dX7_flip_23 ?_
    refine cS_l (As := [.long (nw (x0).toNatClampNeg)]) (rest := [.int x0, .ref d2]) hx hb hml hown hw hkn hS hl (c_X7_flipped l g _ (nw (x0).toNatClampNeg) ) sf_X7_flipped mw_336 ⟨(Nat.le_of_ble_eq_true rfl), (Nat.le_of_ble_eq_true rfl)⟩ rfl rfl rfl rfl (Nat.le_of_ble_eq_true rfl) dX7_flip_24 ⟨(Nat.le_of_ble_eq_true rfl), (Nat.le_of_ble_eq_true rfl)⟩ ?_
    refine va_last hx hb hkn.1 hP hD hS 1 1 rfl rfl (isPic_vp6 c_1) dX7_flip_27 (fun H locs hP hD hS => ?_)
    have hP : va_P g.1 vwCl [(h0, .inr (6, [.ref d1, .int (nI ln), .long rd, .int xd, .int xq, .ref d2, .int (nI (acN an)), .int (nI ((nx + 1) % 14)), .ref d3, .ref d4, .ref d5, .ref d6, .int xm, .int (nI zn), .ref d7, .ref d8, .long sd, .ref d9, .ref d0])), (d2, .inl (gJ g, 6, .inr (.inl (vp_updL nw (x0).toNatClampNeg (flS (nw (x0).toNatClampNeg)))))), (d3, .inl (gJ g, 42, .inr (.inl (rkF nx nw rw))))] H := hP
    have hD : va_D A [(h0, .inr (6, [.ref d1, .int (nI ln), .long rd, .int xd, .int xq, .ref d2, .int (nI (acN an)), .int (nI ((nx + 1) % 14)), .ref d3, .ref d4, .ref d5, .ref d6, .int xm, .int (nI zn), .ref d7, .ref d8, .long sd, .ref d9, .ref d0])), (d2, .inl (gJ g, 6, .inr (.inl (vp_updL nw (x0).toNatClampNeg (flS (nw (x0).toNatClampNeg)))))), (d3, .inl (gJ g, 42, .inr (.inl (rkF nx nw rw))))] := hD
    refine lv_aload_n hx hb dX7_flip_28 rfl (lv_at hl 0 rfl) ?_
    refine va_get (D := g.1) (ci := 6) (v := .ref d2) (C := RX7) (T := TX7) (N := 19) hx hb hw inlX7 hown hkn.1 hP 0 rfl rfl 5 (by decide) (hw _ mw_74) (fun _ h9 => h9) rfl dX7_flip_29 ?_
    refine lv_iload_n hx hb dX7_flip_32 rfl (lv_at hl 1 rfl) ?_
    refine va_lald hx hb hkn.1 hP 1 1 rfl rfl (isPic_vp6 c_1) dX7_flip_33 ?_
    refine lv_ldc2 hx hb hown (hw _ mw_99) dX7_flip_34 ?_
    refine lv_land hx hb dX7_flip_37 ?_
    refine lv_l2i hx hb dX7_flip_38 rfl ?_
    have e1 : setS nw x0 (flS (picS nw x0)) = (vp_updL nw (x0).toNatClampNeg (flS (nw (x0).toNatClampNeg))) := by rw [set_i c_1, pic_i c_1]
    exact eM_i (g := g) hx hb hr hlocks () (by unfold qFl; rw [if_pos c_1, pic_i c_1, updL_at]) (show va_P g.1 vwCl [(h0, .inr (6, [.ref d1, .int (nI ln), .long rd, .int xd, .int xq, .ref d2, .int (nI (cond (isPic x0) (acN an) an)), .int (nI (cond (isPic x0) ((nx + 1) % 14) nx)), .ref d3, .ref d4, .ref d5, .ref d6, .int xm, .int (nI zn), .ref d7, .ref d8, .long sd, .ref d9, .ref d0])), (d2, .inl (gJ g, 6, .inr (.inl (cond (isPic x0) (setS nw x0 (flS (picS nw x0))) nw)))), (d3, .inl (gJ g, 42, .inr (.inl (cond (isPic x0) (rkF nx nw rw) rw))))] H by rw [c_1, e1]; exact hP.sub [0, 1, 2] rfl) (show va_D A [(h0, .inr (6, [.ref d1, .int (nI ln), .long rd, .int xd, .int xq, .ref d2, .int (nI (cond (isPic x0) (acN an) an)), .int (nI (cond (isPic x0) ((nx + 1) % 14) nx)), .ref d3, .ref d4, .ref d5, .ref d6, .int xm, .int (nI zn), .ref d7, .ref d8, .long sd, .ref d9, .ref d0])), (d2, .inl (gJ g, 6, .inr (.inl (cond (isPic x0) (setS nw x0 (flS (picS nw x0))) nw)))), (d3, .inl (gJ g, 42, .inr (.inl (cond (isPic x0) (rkF nx nw rw) rw))))] by rw [c_1, e1]; exact hD.sub [0, 1, 2] (by decide) rfl) hS dX7_flip_39
  · skip
    refine lv_iconst (v := (-1)) hx hb dX7_flip_7 (by decide) ?_
    exact eM_i (g := g) hx hb hr hlocks () (by unfold qFl; rw [if_neg (nt_of c_1)]) (show va_P g.1 vwCl [(h0, .inr (6, [.ref d1, .int (nI ln), .long rd, .int xd, .int xq, .ref d2, .int (nI (cond (isPic x0) (acN an) an)), .int (nI (cond (isPic x0) ((nx + 1) % 14) nx)), .ref d3, .ref d4, .ref d5, .ref d6, .int xm, .int (nI zn), .ref d7, .ref d8, .long sd, .ref d9, .ref d0])), (d2, .inl (gJ g, 6, .inr (.inl (cond (isPic x0) (setS nw x0 (flS (picS nw x0))) nw)))), (d3, .inl (gJ g, 42, .inr (.inl (cond (isPic x0) (rkF nx nw rw) rw))))] H by rw [c_1]; exact hP.sub [0, 1, 2] rfl) (show va_D A [(h0, .inr (6, [.ref d1, .int (nI ln), .long rd, .int xd, .int xq, .ref d2, .int (nI (cond (isPic x0) (acN an) an)), .int (nI (cond (isPic x0) ((nx + 1) % 14) nx)), .ref d3, .ref d4, .ref d5, .ref d6, .int xm, .int (nI zn), .ref d7, .ref d8, .long sd, .ref d9, .ref d0])), (d2, .inl (gJ g, 6, .inr (.inl (cond (isPic x0) (setS nw x0 (flS (picS nw x0))) nw)))), (d3, .inl (gJ g, 42, .inr (.inl (cond (isPic x0) (rkF nx nw rw) rw))))] by rw [c_1]; exact hD.sub [0, 1, 2] (by decide) rfl) hS dX7_flip_8
set_option maxHeartbeats 4000000 in
set_option maxRecDepth 100000 in
theorem c_X7_halve (l : Launch) (g : GG) (sz : Nat) (h0 : Nat) (x0 : Int32) (q0 : Int32) (d1 : Nat) (ln : Nat) (rd : Int64) (xd : Int32) (xq : Int32) (d2 : Nat) (an : Nat) (nx : Nat) (d3 : Nat) (d4 : Nat) (d5 : Nat) (d6 : Nat) (xm : Int32) (zn : Nat) (d7 : Nat) (d8 : Nat) (sd : Int64) (d9 : Nat) (d0 : Nat) (nw : Nat → Int64) (rw : Nat → Int64) (han : an ≤ 14) (hnx : nx < 14) : Met l yX7_halve (Cond.code yX7_halve cX7_halve 3 (some .int) :: wsL_law) ({ frames := 3, cells := 0, slots := 0, locals := 77 }) (PM g [.ref h0, .int x0, .int q0] [(h0, .inr (6, [.ref d1, .int (nI ln), .long rd, .int xd, .int xq, .ref d2, .int (nI an), .int (nI nx), .ref d3, .ref d4, .ref d5, .ref d6, .int xm, .int (nI zn), .ref d7, .ref d8, .long sd, .ref d9, .ref d0])), (d2, .inl (gJ g, 6, .inr (.inl nw))), (d3, .inl (gJ g, 42, .inr (.inl rw)))] sz) (QAi g (fun (r : Int32) (u : Unit) => r = qHa nw x0 q0) (fun (u : Unit) => [(h0, .inr (6, [.ref d1, .int (nI ln), .long rd, .int xd, .int xq, .ref d2, .int (nI (cond (scB x0 q0) (acN an) an)), .int (nI (cond (scB x0 q0) ((nx + 1) % 14) nx)), .ref d3, .ref d4, .ref d5, .ref d6, .int xm, .int (nI zn), .ref d7, .ref d8, .long sd, .ref d9, .ref d0])), (d2, .inl (gJ g, 6, .inr (.inl (cond (scB x0 q0) (setS nw x0 (haS (picS nw x0) q0.toNatClampNeg)) nw)))), (d3, .inl (gJ g, 42, .inr (.inl (cond (scB x0 q0) (rkF nx nw rw) rw))))]) (va_A [(h0, .inr (6, [.ref d1, .int (nI ln), .long rd, .int xd, .int xq, .ref d2, .int (nI an), .int (nI nx), .ref d3, .ref d4, .ref d5, .ref d6, .int xm, .int (nI zn), .ref d7, .ref d8, .long sd, .ref d9, .ref d0])), (d2, .inl (gJ g, 6, .inr (.inl nw))), (d3, .inl (gJ g, 42, .inr (.inl rw)))] sz)) 0 0 (va_A [(h0, .inr (6, [.ref d1, .int (nI ln), .long rd, .int xd, .int xq, .ref d2, .int (nI an), .int (nI nx), .ref d3, .ref d4, .ref d5, .ref d6, .int xm, .int (nI zn), .ref d7, .ref d8, .long sd, .ref d9, .ref d0])), (d2, .inl (gJ g, 6, .inr (.inl nw))), (d3, .inl (gJ g, 42, .inr (.inl rw)))] sz) := by
  refine Met.M (Qc := fun A => QAi g (fun (r : Int32) (u : Unit) => r = qHa nw x0 q0) (fun (u : Unit) => [(h0, .inr (6, [.ref d1, .int (nI ln), .long rd, .int xd, .int xq, .ref d2, .int (nI (cond (scB x0 q0) (acN an) an)), .int (nI (cond (scB x0 q0) ((nx + 1) % 14) nx)), .ref d3, .ref d4, .ref d5, .ref d6, .int xm, .int (nI zn), .ref d7, .ref d8, .long sd, .ref d9, .ref d0])), (d2, .inl (gJ g, 6, .inr (.inl (cond (scB x0 q0) (setS nw x0 (haS (picS nw x0) q0.toNatClampNeg)) nw)))), (d3, .inl (gJ g, 42, .inr (.inl (cond (scB x0 q0) (rkF nx nw rw) rw))))]) A) (by decide) (Nat.le_of_ble_eq_true rfl) rfl ?_
  intro p e s m below meth c hx hb hr hml hw hown hlocks hin A hA hkn hP hD ls hl
  have hl : lv_has ls 3 [(0, .ref h0), (1, .int x0), (2, .int q0)] := hl
  have hS : va_S A s.heap s.heap [] := va_S.rf
  obtain ⟨H, hHe⟩ : ∃ H, H = s.heap := ⟨_, rfl⟩
  obtain ⟨locs, hLe⟩ : ∃ locs : List Loc, locs = [] := ⟨_, rfl⟩
  have hP : va_P g.1 vwCl [(h0, .inr (6, [.ref d1, .int (nI ln), .long rd, .int xd, .int xq, .ref d2, .int (nI an), .int (nI nx), .ref d3, .ref d4, .ref d5, .ref d6, .int xm, .int (nI zn), .ref d7, .ref d8, .long sd, .ref d9, .ref d0])), (d2, .inl (gJ g, 6, .inr (.inl nw))), (d3, .inl (gJ g, 42, .inr (.inl rw)))] H := by rw [hHe]; exact hP
  have hS : va_S A s.heap H locs := by rw [hHe, hLe]; exact hS
  have hgo : W p l e ({ frames := 3, cells := 0, slots := 0, locals := 77 } : Room) s m ([.ref h0, .int x0, .int q0] : List Value).toArray below meth c H locs 0 0 (MQ below (QAi g (fun (r : Int32) (u : Unit) => r = qHa nw x0 q0) (fun (u : Unit) => [(h0, .inr (6, [.ref d1, .int (nI ln), .long rd, .int xd, .int xq, .ref d2, .int (nI (cond (scB x0 q0) (acN an) an)), .int (nI (cond (scB x0 q0) ((nx + 1) % 14) nx)), .ref d3, .ref d4, .ref d5, .ref d6, .int xm, .int (nI zn), .ref d7, .ref d8, .long sd, .ref d9, .ref d0])), (d2, .inl (gJ g, 6, .inr (.inl (cond (scB x0 q0) (setS nw x0 (haS (picS nw x0) q0.toNatClampNeg)) nw)))), (d3, .inl (gJ g, 42, .inr (.inl (cond (scB x0 q0) (rkF nx nw rw) rw))))]) A) ([.ref h0, .int x0, .int q0] : List Value).toArray s 0 0 A) (F0 m 0 ls []) := ?_
  · rw [hHe, hLe] at hgo; exact hgo
  clear hHe hLe
  refine lv_iload_n hx hb dX7_halve_0 rfl (lv_at hl 1 rfl) ?_
  refine cS_i (As := [.int x0]) (rest := []) hx hb hml hown hw hkn hS hl (c_X7_isPicture l g _ x0 ) sf_X7_isPicture mw_245 ⟨(Nat.le_of_ble_eq_true rfl), (Nat.le_of_ble_eq_true rfl)⟩ rfl rfl rfl rfl (Nat.le_of_ble_eq_true rfl) dX7_halve_1 ⟨(Nat.le_of_ble_eq_true rfl), (Nat.le_of_ble_eq_true rfl)⟩ ?_
  refine lv_ifeqB (b := isPic x0) (tgt := 19) hx hb dX7_halve_4 (by decide) (fun c_1 => ?_) (fun c_1 => ?_)
  · skip
    refine lv_iconst (v := (-1)) hx hb dX7_halve_19 (by decide) ?_
    have eb : scB x0 q0 = false := by simp [scB, c_1]
    exact eM_i (g := g) hx hb hr hlocks () (by unfold qHa; rw [if_neg (nt_of c_1)]) (show va_P g.1 vwCl [(h0, .inr (6, [.ref d1, .int (nI ln), .long rd, .int xd, .int xq, .ref d2, .int (nI (cond (scB x0 q0) (acN an) an)), .int (nI (cond (scB x0 q0) ((nx + 1) % 14) nx)), .ref d3, .ref d4, .ref d5, .ref d6, .int xm, .int (nI zn), .ref d7, .ref d8, .long sd, .ref d9, .ref d0])), (d2, .inl (gJ g, 6, .inr (.inl (cond (scB x0 q0) (setS nw x0 (haS (picS nw x0) q0.toNatClampNeg)) nw)))), (d3, .inl (gJ g, 42, .inr (.inl (cond (scB x0 q0) (rkF nx nw rw) rw))))] H by rw [eb]; exact hP.sub [0, 1, 2] rfl) (show va_D A [(h0, .inr (6, [.ref d1, .int (nI ln), .long rd, .int xd, .int xq, .ref d2, .int (nI (cond (scB x0 q0) (acN an) an)), .int (nI (cond (scB x0 q0) ((nx + 1) % 14) nx)), .ref d3, .ref d4, .ref d5, .ref d6, .int xm, .int (nI zn), .ref d7, .ref d8, .long sd, .ref d9, .ref d0])), (d2, .inl (gJ g, 6, .inr (.inl (cond (scB x0 q0) (setS nw x0 (haS (picS nw x0) q0.toNatClampNeg)) nw)))), (d3, .inl (gJ g, 42, .inr (.inl (cond (scB x0 q0) (rkF nx nw rw) rw))))] by rw [eb]; exact hD.sub [0, 1, 2] (by decide) rfl) hS dX7_halve_20
  · skip
    refine lv_iload_n hx hb dX7_halve_7 rfl (lv_at hl 2 rfl) ?_
    refine lv_i2l hx hb dX7_halve_8 rfl ?_
    refine lv_lconst (v := 0) hx hb dX7_halve_9 rfl ?_
    refine lv_ldc2 hx hb hown (hw _ mw_361) dX7_halve_10 ?_
    refine cS_i (As := [.long ((q0).toInt64), .long 0, .long 3]) (rest := []) hx hb hml hown hw hkn hS hl (c_X7_in l g _ ((q0).toInt64) 0 3 ) sf_X7_in mw_101 ⟨(Nat.le_of_ble_eq_true rfl), (Nat.le_of_ble_eq_true rfl)⟩ rfl rfl rfl rfl (Nat.le_of_ble_eq_true rfl) dX7_halve_13 ⟨(Nat.le_of_ble_eq_true rfl), (Nat.le_of_ble_eq_true rfl)⟩ ?_
    refine lv_eqi (show _ = b2i (isQua q0) from congrArg b2i (isQua_in q0)) ?_
    refine lv_ifneB (b := isQua q0) (tgt := 21) hx hb dX7_halve_16 (by decide) (fun c_2 => ?_) (fun c_2 => ?_)
    · skip
      obtain ⟨q9, hq9, eq9⟩ := isQua_of c_2
      refine lv_aload_n hx hb dX7_halve_21 rfl (lv_at hl 0 rfl) ?_
      refine cVM_v (As := []) (rest := []) (q0 := 0) (wc := [(h0, .inr (6, [.ref d1, .int (nI ln), .long rd, .int xd, .int xq, .ref d2, .int (nI an), .int (nI nx), .ref d3, .ref d4, .ref d5, .ref d6, .int xm, .int (nI zn), .ref d7, .ref d8, .long sd, .ref d9, .ref d0])), (d2, .inl (gJ g, 6, .inr (.inl nw))), (d3, .inl (gJ g, 42, .inr (.inl rw)))]) (wr := []) hx hb hml hown hw hkn hS hl hA hP hD [0, 1, 2] [] rfl rfl (by decide) (by decide) (by decide) (c_X7_keepAct l g _ h0 d1 ln rd xd xq d2 an nx d3 d4 d5 d6 xm zn d7 d8 sd d9 d0 nw rw (by omega) (by omega)) vf_X7_keepAct mw_248 rfl rfl ⟨(Nat.le_of_ble_eq_true rfl), (Nat.le_of_ble_eq_true rfl)⟩ rfl rfl rfl rfl (Nat.le_of_ble_eq_true rfl) dX7_halve_22 ⟨(Nat.le_of_ble_eq_true rfl), (Nat.le_of_ble_eq_true rfl)⟩ (fun u H locs hq hP hD hS => ?_)
      have hP : va_P g.1 vwCl [(h0, .inr (6, [.ref d1, .int (nI ln), .long rd, .int xd, .int xq, .ref d2, .int (nI (acN an)), .int (nI ((nx + 1) % 14)), .ref d3, .ref d4, .ref d5, .ref d6, .int xm, .int (nI zn), .ref d7, .ref d8, .long sd, .ref d9, .ref d0])), (d2, .inl (gJ g, 6, .inr (.inl nw))), (d3, .inl (gJ g, 42, .inr (.inl (rkF nx nw rw))))] H := hP.sub [0, 1, 2] rfl
      have hD : va_D A [(h0, .inr (6, [.ref d1, .int (nI ln), .long rd, .int xd, .int xq, .ref d2, .int (nI (acN an)), .int (nI ((nx + 1) % 14)), .ref d3, .ref d4, .ref d5, .ref d6, .int xm, .int (nI zn), .ref d7, .ref d8, .long sd, .ref d9, .ref d0])), (d2, .inl (gJ g, 6, .inr (.inl nw))), (d3, .inl (gJ g, 42, .inr (.inl (rkF nx nw rw))))] := hD.sub [0, 1, 2] (by decide) rfl
      refine lv_aload_n hx hb dX7_halve_25 rfl (lv_at hl 0 rfl) ?_
      refine va_get (D := g.1) (ci := 6) (v := .ref d2) (C := RX7) (T := TX7) (N := 19) hx hb hw inlX7 hown hkn.1 hP 0 rfl rfl 5 (by decide) (hw _ mw_74) (fun _ h9 => h9) rfl dX7_halve_26 ?_
      refine lv_iload_n hx hb dX7_halve_29 rfl (lv_at hl 1 rfl) ?_
      refine lv_aload_n hx hb dX7_halve_30 rfl (lv_at hl 0 rfl) ?_
      refine va_get (D := g.1) (ci := 6) (v := .ref d2) (C := RX7) (T := TX7) (N := 19) hx hb hw inlX7 hown hkn.1 hP 0 rfl rfl 5 (by decide) (hw _ mw_74) (fun _ h9 => h9) rfl dX7_halve_31 ?_
      refine lv_iload_n hx hb dX7_halve_34 rfl (lv_at hl 1 rfl) ?_
      refine va_lald hx hb hkn.1 hP 1 1 rfl rfl (isPic_vp6 c_1) dX7_halve_35 ?_
      refine lv_iload_n hx hb dX7_halve_36 rfl (lv_at hl 2 rfl) ?_
      refine lv_eqi (show _ = (nI q9) from eq9) ?_
      refine cS_l (As := [.long (nw (x0).toNatClampNeg), .int (nI q9)]) (rest := [.int x0, .ref d2]) hx hb hml hown hw hkn hS hl (c_X7_halved l g _ (nw (x0).toNatClampNeg) q9 (by omega)) sf_X7_halved mw_362 ⟨(Nat.le_of_ble_eq_true rfl), (Nat.le_of_ble_eq_true rfl)⟩ rfl rfl rfl rfl (Nat.le_of_ble_eq_true rfl) dX7_halve_37 ⟨(Nat.le_of_ble_eq_true rfl), (Nat.le_of_ble_eq_true rfl)⟩ ?_
      refine lv_eql (show _ = (haS (nw (x0).toNatClampNeg) q9) from haM_eq hq9) ?_
      refine va_last hx hb hkn.1 hP hD hS 1 1 rfl rfl (isPic_vp6 c_1) dX7_halve_40 (fun H locs hP hD hS => ?_)
      have hP : va_P g.1 vwCl [(h0, .inr (6, [.ref d1, .int (nI ln), .long rd, .int xd, .int xq, .ref d2, .int (nI (acN an)), .int (nI ((nx + 1) % 14)), .ref d3, .ref d4, .ref d5, .ref d6, .int xm, .int (nI zn), .ref d7, .ref d8, .long sd, .ref d9, .ref d0])), (d2, .inl (gJ g, 6, .inr (.inl (vp_updL nw (x0).toNatClampNeg (haS (nw (x0).toNatClampNeg) q9))))), (d3, .inl (gJ g, 42, .inr (.inl (rkF nx nw rw))))] H := hP
      have hD : va_D A [(h0, .inr (6, [.ref d1, .int (nI ln), .long rd, .int xd, .int xq, .ref d2, .int (nI (acN an)), .int (nI ((nx + 1) % 14)), .ref d3, .ref d4, .ref d5, .ref d6, .int xm, .int (nI zn), .ref d7, .ref d8, .long sd, .ref d9, .ref d0])), (d2, .inl (gJ g, 6, .inr (.inl (vp_updL nw (x0).toNatClampNeg (haS (nw (x0).toNatClampNeg) q9))))), (d3, .inl (gJ g, 42, .inr (.inl (rkF nx nw rw))))] := hD
      refine lv_aload_n hx hb dX7_halve_41 rfl (lv_at hl 0 rfl) ?_
      refine va_get (D := g.1) (ci := 6) (v := .ref d2) (C := RX7) (T := TX7) (N := 19) hx hb hw inlX7 hown hkn.1 hP 0 rfl rfl 5 (by decide) (hw _ mw_74) (fun _ h9 => h9) rfl dX7_halve_42 ?_
      refine lv_iload_n hx hb dX7_halve_45 rfl (lv_at hl 1 rfl) ?_
      refine va_lald hx hb hkn.1 hP 1 1 rfl rfl (isPic_vp6 c_1) dX7_halve_46 ?_
      refine cS_i (As := [.long ((vp_updL nw (x0).toNatClampNeg (haS (nw (x0).toNatClampNeg) q9)) (x0).toNatClampNeg)]) (rest := []) hx hb hml hown hw hkn hS hl (c_X7_ones l g _ ((vp_updL nw (x0).toNatClampNeg (haS (nw (x0).toNatClampNeg) q9)) (x0).toNatClampNeg) ) sf_X7_ones mw_254 ⟨(Nat.le_of_ble_eq_true rfl), (Nat.le_of_ble_eq_true rfl)⟩ rfl rfl rfl rfl (Nat.le_of_ble_eq_true rfl) dX7_halve_47 ⟨(Nat.le_of_ble_eq_true rfl), (Nat.le_of_ble_eq_true rfl)⟩ ?_
      have eb : scB x0 q0 = true := by simp [scB, c_1, c_2]
      have eq8 : q0.toNatClampNeg = q9 := by rw [eq9, nI_clamp (by omega)]
      have e1 : setS nw x0 (haS (picS nw x0) q0.toNatClampNeg) = (vp_updL nw (x0).toNatClampNeg (haS (nw (x0).toNatClampNeg) q9)) := by rw [set_i c_1, pic_i c_1, eq8]
      exact eM_i (g := g) hx hb hr hlocks () (by unfold qHa; rw [if_pos c_1, if_pos c_2, pic_i c_1, eq8, updL_at]) (show va_P g.1 vwCl [(h0, .inr (6, [.ref d1, .int (nI ln), .long rd, .int xd, .int xq, .ref d2, .int (nI (cond (scB x0 q0) (acN an) an)), .int (nI (cond (scB x0 q0) ((nx + 1) % 14) nx)), .ref d3, .ref d4, .ref d5, .ref d6, .int xm, .int (nI zn), .ref d7, .ref d8, .long sd, .ref d9, .ref d0])), (d2, .inl (gJ g, 6, .inr (.inl (cond (scB x0 q0) (setS nw x0 (haS (picS nw x0) q0.toNatClampNeg)) nw)))), (d3, .inl (gJ g, 42, .inr (.inl (cond (scB x0 q0) (rkF nx nw rw) rw))))] H by rw [eb, e1]; exact hP.sub [0, 1, 2] rfl) (show va_D A [(h0, .inr (6, [.ref d1, .int (nI ln), .long rd, .int xd, .int xq, .ref d2, .int (nI (cond (scB x0 q0) (acN an) an)), .int (nI (cond (scB x0 q0) ((nx + 1) % 14) nx)), .ref d3, .ref d4, .ref d5, .ref d6, .int xm, .int (nI zn), .ref d7, .ref d8, .long sd, .ref d9, .ref d0])), (d2, .inl (gJ g, 6, .inr (.inl (cond (scB x0 q0) (setS nw x0 (haS (picS nw x0) q0.toNatClampNeg)) nw)))), (d3, .inl (gJ g, 42, .inr (.inl (cond (scB x0 q0) (rkF nx nw rw) rw))))] by rw [eb, e1]; exact hD.sub [0, 1, 2] (by decide) rfl) hS dX7_halve_50
    · skip
      refine lv_iconst (v := (-1)) hx hb dX7_halve_19 (by decide) ?_
      have eb : scB x0 q0 = false := by simp [scB, c_1, c_2]
      exact eM_i (g := g) hx hb hr hlocks () (by unfold qHa; rw [if_pos c_1, if_neg (nt_of c_2)]) (show va_P g.1 vwCl [(h0, .inr (6, [.ref d1, .int (nI ln), .long rd, .int xd, .int xq, .ref d2, .int (nI (cond (scB x0 q0) (acN an) an)), .int (nI (cond (scB x0 q0) ((nx + 1) % 14) nx)), .ref d3, .ref d4, .ref d5, .ref d6, .int xm, .int (nI zn), .ref d7, .ref d8, .long sd, .ref d9, .ref d0])), (d2, .inl (gJ g, 6, .inr (.inl (cond (scB x0 q0) (setS nw x0 (haS (picS nw x0) q0.toNatClampNeg)) nw)))), (d3, .inl (gJ g, 42, .inr (.inl (cond (scB x0 q0) (rkF nx nw rw) rw))))] H by rw [eb]; exact hP.sub [0, 1, 2] rfl) (show va_D A [(h0, .inr (6, [.ref d1, .int (nI ln), .long rd, .int xd, .int xq, .ref d2, .int (nI (cond (scB x0 q0) (acN an) an)), .int (nI (cond (scB x0 q0) ((nx + 1) % 14) nx)), .ref d3, .ref d4, .ref d5, .ref d6, .int xm, .int (nI zn), .ref d7, .ref d8, .long sd, .ref d9, .ref d0])), (d2, .inl (gJ g, 6, .inr (.inl (cond (scB x0 q0) (setS nw x0 (haS (picS nw x0) q0.toNatClampNeg)) nw)))), (d3, .inl (gJ g, 42, .inr (.inl (cond (scB x0 q0) (rkF nx nw rw) rw))))] by rw [eb]; exact hD.sub [0, 1, 2] (by decide) rfl) hS dX7_halve_20
set_option maxHeartbeats 4000000 in
set_option maxRecDepth 100000 in
theorem c_X7_grow (l : Launch) (g : GG) (sz : Nat) (h0 : Nat) (x0 : Int32) (q0 : Int32) (d1 : Nat) (ln : Nat) (rd : Int64) (xd : Int32) (xq : Int32) (d2 : Nat) (an : Nat) (nx : Nat) (d3 : Nat) (d4 : Nat) (d5 : Nat) (d6 : Nat) (xm : Int32) (zn : Nat) (d7 : Nat) (d8 : Nat) (sd : Int64) (d9 : Nat) (d0 : Nat) (nw : Nat → Int64) (rw : Nat → Int64) (han : an ≤ 14) (hnx : nx < 14) : Met l yX7_grow (Cond.code yX7_grow cX7_grow 3 (some .int) :: wsL_law) ({ frames := 3, cells := 0, slots := 0, locals := 75 }) (PM g [.ref h0, .int x0, .int q0] [(h0, .inr (6, [.ref d1, .int (nI ln), .long rd, .int xd, .int xq, .ref d2, .int (nI an), .int (nI nx), .ref d3, .ref d4, .ref d5, .ref d6, .int xm, .int (nI zn), .ref d7, .ref d8, .long sd, .ref d9, .ref d0])), (d2, .inl (gJ g, 6, .inr (.inl nw))), (d3, .inl (gJ g, 42, .inr (.inl rw)))] sz) (QAi g (fun (r : Int32) (u : Unit) => r = qGr nw x0 q0) (fun (u : Unit) => [(h0, .inr (6, [.ref d1, .int (nI ln), .long rd, .int xd, .int xq, .ref d2, .int (nI (cond (scB x0 q0) (acN an) an)), .int (nI (cond (scB x0 q0) ((nx + 1) % 14) nx)), .ref d3, .ref d4, .ref d5, .ref d6, .int xm, .int (nI zn), .ref d7, .ref d8, .long sd, .ref d9, .ref d0])), (d2, .inl (gJ g, 6, .inr (.inl (cond (scB x0 q0) (setS nw x0 (grnS (picS nw x0) q0.toNatClampNeg)) nw)))), (d3, .inl (gJ g, 42, .inr (.inl (cond (scB x0 q0) (rkF nx nw rw) rw))))]) (va_A [(h0, .inr (6, [.ref d1, .int (nI ln), .long rd, .int xd, .int xq, .ref d2, .int (nI an), .int (nI nx), .ref d3, .ref d4, .ref d5, .ref d6, .int xm, .int (nI zn), .ref d7, .ref d8, .long sd, .ref d9, .ref d0])), (d2, .inl (gJ g, 6, .inr (.inl nw))), (d3, .inl (gJ g, 42, .inr (.inl rw)))] sz)) 0 0 (va_A [(h0, .inr (6, [.ref d1, .int (nI ln), .long rd, .int xd, .int xq, .ref d2, .int (nI an), .int (nI nx), .ref d3, .ref d4, .ref d5, .ref d6, .int xm, .int (nI zn), .ref d7, .ref d8, .long sd, .ref d9, .ref d0])), (d2, .inl (gJ g, 6, .inr (.inl nw))), (d3, .inl (gJ g, 42, .inr (.inl rw)))] sz) := by
  refine Met.M (Qc := fun A => QAi g (fun (r : Int32) (u : Unit) => r = qGr nw x0 q0) (fun (u : Unit) => [(h0, .inr (6, [.ref d1, .int (nI ln), .long rd, .int xd, .int xq, .ref d2, .int (nI (cond (scB x0 q0) (acN an) an)), .int (nI (cond (scB x0 q0) ((nx + 1) % 14) nx)), .ref d3, .ref d4, .ref d5, .ref d6, .int xm, .int (nI zn), .ref d7, .ref d8, .long sd, .ref d9, .ref d0])), (d2, .inl (gJ g, 6, .inr (.inl (cond (scB x0 q0) (setS nw x0 (grnS (picS nw x0) q0.toNatClampNeg)) nw)))), (d3, .inl (gJ g, 42, .inr (.inl (cond (scB x0 q0) (rkF nx nw rw) rw))))]) A) (by decide) (Nat.le_of_ble_eq_true rfl) rfl ?_
  intro p e s m below meth c hx hb hr hml hw hown hlocks hin A hA hkn hP hD ls hl
  have hl : lv_has ls 3 [(0, .ref h0), (1, .int x0), (2, .int q0)] := hl
  have hS : va_S A s.heap s.heap [] := va_S.rf
  obtain ⟨H, hHe⟩ : ∃ H, H = s.heap := ⟨_, rfl⟩
  obtain ⟨locs, hLe⟩ : ∃ locs : List Loc, locs = [] := ⟨_, rfl⟩
  have hP : va_P g.1 vwCl [(h0, .inr (6, [.ref d1, .int (nI ln), .long rd, .int xd, .int xq, .ref d2, .int (nI an), .int (nI nx), .ref d3, .ref d4, .ref d5, .ref d6, .int xm, .int (nI zn), .ref d7, .ref d8, .long sd, .ref d9, .ref d0])), (d2, .inl (gJ g, 6, .inr (.inl nw))), (d3, .inl (gJ g, 42, .inr (.inl rw)))] H := by rw [hHe]; exact hP
  have hS : va_S A s.heap H locs := by rw [hHe, hLe]; exact hS
  have hgo : W p l e ({ frames := 3, cells := 0, slots := 0, locals := 75 } : Room) s m ([.ref h0, .int x0, .int q0] : List Value).toArray below meth c H locs 0 0 (MQ below (QAi g (fun (r : Int32) (u : Unit) => r = qGr nw x0 q0) (fun (u : Unit) => [(h0, .inr (6, [.ref d1, .int (nI ln), .long rd, .int xd, .int xq, .ref d2, .int (nI (cond (scB x0 q0) (acN an) an)), .int (nI (cond (scB x0 q0) ((nx + 1) % 14) nx)), .ref d3, .ref d4, .ref d5, .ref d6, .int xm, .int (nI zn), .ref d7, .ref d8, .long sd, .ref d9, .ref d0])), (d2, .inl (gJ g, 6, .inr (.inl (cond (scB x0 q0) (setS nw x0 (grnS (picS nw x0) q0.toNatClampNeg)) nw)))), (d3, .inl (gJ g, 42, .inr (.inl (cond (scB x0 q0) (rkF nx nw rw) rw))))]) A) ([.ref h0, .int x0, .int q0] : List Value).toArray s 0 0 A) (F0 m 0 ls []) := ?_
  · rw [hHe, hLe] at hgo; exact hgo
  clear hHe hLe
  refine lv_iload_n hx hb dX7_grow_0 rfl (lv_at hl 1 rfl) ?_
  refine cS_i (As := [.int x0]) (rest := []) hx hb hml hown hw hkn hS hl (c_X7_isPicture l g _ x0 ) sf_X7_isPicture mw_245 ⟨(Nat.le_of_ble_eq_true rfl), (Nat.le_of_ble_eq_true rfl)⟩ rfl rfl rfl rfl (Nat.le_of_ble_eq_true rfl) dX7_grow_1 ⟨(Nat.le_of_ble_eq_true rfl), (Nat.le_of_ble_eq_true rfl)⟩ ?_
  refine lv_ifeqB (b := isPic x0) (tgt := 19) hx hb dX7_grow_4 (by decide) (fun c_1 => ?_) (fun c_1 => ?_)
  · skip
    refine lv_iconst (v := (-1)) hx hb dX7_grow_19 (by decide) ?_
    have eb : scB x0 q0 = false := by simp [scB, c_1]
    exact eM_i (g := g) hx hb hr hlocks () (by unfold qGr; rw [if_neg (nt_of c_1)]) (show va_P g.1 vwCl [(h0, .inr (6, [.ref d1, .int (nI ln), .long rd, .int xd, .int xq, .ref d2, .int (nI (cond (scB x0 q0) (acN an) an)), .int (nI (cond (scB x0 q0) ((nx + 1) % 14) nx)), .ref d3, .ref d4, .ref d5, .ref d6, .int xm, .int (nI zn), .ref d7, .ref d8, .long sd, .ref d9, .ref d0])), (d2, .inl (gJ g, 6, .inr (.inl (cond (scB x0 q0) (setS nw x0 (grnS (picS nw x0) q0.toNatClampNeg)) nw)))), (d3, .inl (gJ g, 42, .inr (.inl (cond (scB x0 q0) (rkF nx nw rw) rw))))] H by rw [eb]; exact hP.sub [0, 1, 2] rfl) (show va_D A [(h0, .inr (6, [.ref d1, .int (nI ln), .long rd, .int xd, .int xq, .ref d2, .int (nI (cond (scB x0 q0) (acN an) an)), .int (nI (cond (scB x0 q0) ((nx + 1) % 14) nx)), .ref d3, .ref d4, .ref d5, .ref d6, .int xm, .int (nI zn), .ref d7, .ref d8, .long sd, .ref d9, .ref d0])), (d2, .inl (gJ g, 6, .inr (.inl (cond (scB x0 q0) (setS nw x0 (grnS (picS nw x0) q0.toNatClampNeg)) nw)))), (d3, .inl (gJ g, 42, .inr (.inl (cond (scB x0 q0) (rkF nx nw rw) rw))))] by rw [eb]; exact hD.sub [0, 1, 2] (by decide) rfl) hS dX7_grow_20
  · skip
    refine lv_iload_n hx hb dX7_grow_7 rfl (lv_at hl 2 rfl) ?_
    refine lv_i2l hx hb dX7_grow_8 rfl ?_
    refine lv_lconst (v := 0) hx hb dX7_grow_9 rfl ?_
    refine lv_ldc2 hx hb hown (hw _ mw_361) dX7_grow_10 ?_
    refine cS_i (As := [.long ((q0).toInt64), .long 0, .long 3]) (rest := []) hx hb hml hown hw hkn hS hl (c_X7_in l g _ ((q0).toInt64) 0 3 ) sf_X7_in mw_101 ⟨(Nat.le_of_ble_eq_true rfl), (Nat.le_of_ble_eq_true rfl)⟩ rfl rfl rfl rfl (Nat.le_of_ble_eq_true rfl) dX7_grow_13 ⟨(Nat.le_of_ble_eq_true rfl), (Nat.le_of_ble_eq_true rfl)⟩ ?_
    refine lv_eqi (show _ = b2i (isQua q0) from congrArg b2i (isQua_in q0)) ?_
    refine lv_ifneB (b := isQua q0) (tgt := 21) hx hb dX7_grow_16 (by decide) (fun c_2 => ?_) (fun c_2 => ?_)
    · skip
      obtain ⟨q9, hq9, eq9⟩ := isQua_of c_2
      refine lv_aload_n hx hb dX7_grow_21 rfl (lv_at hl 0 rfl) ?_
      refine cVM_v (As := []) (rest := []) (q0 := 0) (wc := [(h0, .inr (6, [.ref d1, .int (nI ln), .long rd, .int xd, .int xq, .ref d2, .int (nI an), .int (nI nx), .ref d3, .ref d4, .ref d5, .ref d6, .int xm, .int (nI zn), .ref d7, .ref d8, .long sd, .ref d9, .ref d0])), (d2, .inl (gJ g, 6, .inr (.inl nw))), (d3, .inl (gJ g, 42, .inr (.inl rw)))]) (wr := []) hx hb hml hown hw hkn hS hl hA hP hD [0, 1, 2] [] rfl rfl (by decide) (by decide) (by decide) (c_X7_keepAct l g _ h0 d1 ln rd xd xq d2 an nx d3 d4 d5 d6 xm zn d7 d8 sd d9 d0 nw rw (by omega) (by omega)) vf_X7_keepAct mw_248 rfl rfl ⟨(Nat.le_of_ble_eq_true rfl), (Nat.le_of_ble_eq_true rfl)⟩ rfl rfl rfl rfl (Nat.le_of_ble_eq_true rfl) dX7_grow_22 ⟨(Nat.le_of_ble_eq_true rfl), (Nat.le_of_ble_eq_true rfl)⟩ (fun u H locs hq hP hD hS => ?_)
      have hP : va_P g.1 vwCl [(h0, .inr (6, [.ref d1, .int (nI ln), .long rd, .int xd, .int xq, .ref d2, .int (nI (acN an)), .int (nI ((nx + 1) % 14)), .ref d3, .ref d4, .ref d5, .ref d6, .int xm, .int (nI zn), .ref d7, .ref d8, .long sd, .ref d9, .ref d0])), (d2, .inl (gJ g, 6, .inr (.inl nw))), (d3, .inl (gJ g, 42, .inr (.inl (rkF nx nw rw))))] H := hP.sub [0, 1, 2] rfl
      have hD : va_D A [(h0, .inr (6, [.ref d1, .int (nI ln), .long rd, .int xd, .int xq, .ref d2, .int (nI (acN an)), .int (nI ((nx + 1) % 14)), .ref d3, .ref d4, .ref d5, .ref d6, .int xm, .int (nI zn), .ref d7, .ref d8, .long sd, .ref d9, .ref d0])), (d2, .inl (gJ g, 6, .inr (.inl nw))), (d3, .inl (gJ g, 42, .inr (.inl (rkF nx nw rw))))] := hD.sub [0, 1, 2] (by decide) rfl
      refine lv_aload_n hx hb dX7_grow_25 rfl (lv_at hl 0 rfl) ?_
      refine va_get (D := g.1) (ci := 6) (v := .ref d2) (C := RX7) (T := TX7) (N := 19) hx hb hw inlX7 hown hkn.1 hP 0 rfl rfl 5 (by decide) (hw _ mw_74) (fun _ h9 => h9) rfl dX7_grow_26 ?_
      refine lv_iload_n hx hb dX7_grow_29 rfl (lv_at hl 1 rfl) ?_
      refine lv_aload_n hx hb dX7_grow_30 rfl (lv_at hl 0 rfl) ?_
      refine va_get (D := g.1) (ci := 6) (v := .ref d2) (C := RX7) (T := TX7) (N := 19) hx hb hw inlX7 hown hkn.1 hP 0 rfl rfl 5 (by decide) (hw _ mw_74) (fun _ h9 => h9) rfl dX7_grow_31 ?_
      refine lv_iload_n hx hb dX7_grow_34 rfl (lv_at hl 1 rfl) ?_
      refine va_lald hx hb hkn.1 hP 1 1 rfl rfl (isPic_vp6 c_1) dX7_grow_35 ?_
      refine lv_iload_n hx hb dX7_grow_36 rfl (lv_at hl 2 rfl) ?_
      refine lv_eqi (show _ = (nI q9) from eq9) ?_
      refine cS_l (As := [.long (nw (x0).toNatClampNeg), .int (nI q9)]) (rest := [.int x0, .ref d2]) hx hb hml hown hw hkn hS hl (c_X7_grown l g _ (nw (x0).toNatClampNeg) q9 (by omega)) sf_X7_grown mw_376 ⟨(Nat.le_of_ble_eq_true rfl), (Nat.le_of_ble_eq_true rfl)⟩ rfl rfl rfl rfl (Nat.le_of_ble_eq_true rfl) dX7_grow_37 ⟨(Nat.le_of_ble_eq_true rfl), (Nat.le_of_ble_eq_true rfl)⟩ ?_
      refine lv_eql (show _ = (grnS (nw (x0).toNatClampNeg) q9) from grM_eq hq9) ?_
      refine va_last hx hb hkn.1 hP hD hS 1 1 rfl rfl (isPic_vp6 c_1) dX7_grow_40 (fun H locs hP hD hS => ?_)
      have hP : va_P g.1 vwCl [(h0, .inr (6, [.ref d1, .int (nI ln), .long rd, .int xd, .int xq, .ref d2, .int (nI (acN an)), .int (nI ((nx + 1) % 14)), .ref d3, .ref d4, .ref d5, .ref d6, .int xm, .int (nI zn), .ref d7, .ref d8, .long sd, .ref d9, .ref d0])), (d2, .inl (gJ g, 6, .inr (.inl (vp_updL nw (x0).toNatClampNeg (grnS (nw (x0).toNatClampNeg) q9))))), (d3, .inl (gJ g, 42, .inr (.inl (rkF nx nw rw))))] H := hP
      have hD : va_D A [(h0, .inr (6, [.ref d1, .int (nI ln), .long rd, .int xd, .int xq, .ref d2, .int (nI (acN an)), .int (nI ((nx + 1) % 14)), .ref d3, .ref d4, .ref d5, .ref d6, .int xm, .int (nI zn), .ref d7, .ref d8, .long sd, .ref d9, .ref d0])), (d2, .inl (gJ g, 6, .inr (.inl (vp_updL nw (x0).toNatClampNeg (grnS (nw (x0).toNatClampNeg) q9))))), (d3, .inl (gJ g, 42, .inr (.inl (rkF nx nw rw))))] := hD
      refine lv_aload_n hx hb dX7_grow_41 rfl (lv_at hl 0 rfl) ?_
      refine va_get (D := g.1) (ci := 6) (v := .ref d2) (C := RX7) (T := TX7) (N := 19) hx hb hw inlX7 hown hkn.1 hP 0 rfl rfl 5 (by decide) (hw _ mw_74) (fun _ h9 => h9) rfl dX7_grow_42 ?_
      refine lv_iload_n hx hb dX7_grow_45 rfl (lv_at hl 1 rfl) ?_
      refine va_lald hx hb hkn.1 hP 1 1 rfl rfl (isPic_vp6 c_1) dX7_grow_46 ?_
      refine cS_i (As := [.long ((vp_updL nw (x0).toNatClampNeg (grnS (nw (x0).toNatClampNeg) q9)) (x0).toNatClampNeg)]) (rest := []) hx hb hml hown hw hkn hS hl (c_X7_ones l g _ ((vp_updL nw (x0).toNatClampNeg (grnS (nw (x0).toNatClampNeg) q9)) (x0).toNatClampNeg) ) sf_X7_ones mw_254 ⟨(Nat.le_of_ble_eq_true rfl), (Nat.le_of_ble_eq_true rfl)⟩ rfl rfl rfl rfl (Nat.le_of_ble_eq_true rfl) dX7_grow_47 ⟨(Nat.le_of_ble_eq_true rfl), (Nat.le_of_ble_eq_true rfl)⟩ ?_
      have eb : scB x0 q0 = true := by simp [scB, c_1, c_2]
      have eq8 : q0.toNatClampNeg = q9 := by rw [eq9, nI_clamp (by omega)]
      have e1 : setS nw x0 (grnS (picS nw x0) q0.toNatClampNeg) = (vp_updL nw (x0).toNatClampNeg (grnS (nw (x0).toNatClampNeg) q9)) := by rw [set_i c_1, pic_i c_1, eq8]
      exact eM_i (g := g) hx hb hr hlocks () (by unfold qGr; rw [if_pos c_1, if_pos c_2, pic_i c_1, eq8, updL_at]) (show va_P g.1 vwCl [(h0, .inr (6, [.ref d1, .int (nI ln), .long rd, .int xd, .int xq, .ref d2, .int (nI (cond (scB x0 q0) (acN an) an)), .int (nI (cond (scB x0 q0) ((nx + 1) % 14) nx)), .ref d3, .ref d4, .ref d5, .ref d6, .int xm, .int (nI zn), .ref d7, .ref d8, .long sd, .ref d9, .ref d0])), (d2, .inl (gJ g, 6, .inr (.inl (cond (scB x0 q0) (setS nw x0 (grnS (picS nw x0) q0.toNatClampNeg)) nw)))), (d3, .inl (gJ g, 42, .inr (.inl (cond (scB x0 q0) (rkF nx nw rw) rw))))] H by rw [eb, e1]; exact hP.sub [0, 1, 2] rfl) (show va_D A [(h0, .inr (6, [.ref d1, .int (nI ln), .long rd, .int xd, .int xq, .ref d2, .int (nI (cond (scB x0 q0) (acN an) an)), .int (nI (cond (scB x0 q0) ((nx + 1) % 14) nx)), .ref d3, .ref d4, .ref d5, .ref d6, .int xm, .int (nI zn), .ref d7, .ref d8, .long sd, .ref d9, .ref d0])), (d2, .inl (gJ g, 6, .inr (.inl (cond (scB x0 q0) (setS nw x0 (grnS (picS nw x0) q0.toNatClampNeg)) nw)))), (d3, .inl (gJ g, 42, .inr (.inl (cond (scB x0 q0) (rkF nx nw rw) rw))))] by rw [eb, e1]; exact hD.sub [0, 1, 2] (by decide) rfl) hS dX7_grow_50
    · skip
      refine lv_iconst (v := (-1)) hx hb dX7_grow_19 (by decide) ?_
      have eb : scB x0 q0 = false := by simp [scB, c_1, c_2]
      exact eM_i (g := g) hx hb hr hlocks () (by unfold qGr; rw [if_pos c_1, if_neg (nt_of c_2)]) (show va_P g.1 vwCl [(h0, .inr (6, [.ref d1, .int (nI ln), .long rd, .int xd, .int xq, .ref d2, .int (nI (cond (scB x0 q0) (acN an) an)), .int (nI (cond (scB x0 q0) ((nx + 1) % 14) nx)), .ref d3, .ref d4, .ref d5, .ref d6, .int xm, .int (nI zn), .ref d7, .ref d8, .long sd, .ref d9, .ref d0])), (d2, .inl (gJ g, 6, .inr (.inl (cond (scB x0 q0) (setS nw x0 (grnS (picS nw x0) q0.toNatClampNeg)) nw)))), (d3, .inl (gJ g, 42, .inr (.inl (cond (scB x0 q0) (rkF nx nw rw) rw))))] H by rw [eb]; exact hP.sub [0, 1, 2] rfl) (show va_D A [(h0, .inr (6, [.ref d1, .int (nI ln), .long rd, .int xd, .int xq, .ref d2, .int (nI (cond (scB x0 q0) (acN an) an)), .int (nI (cond (scB x0 q0) ((nx + 1) % 14) nx)), .ref d3, .ref d4, .ref d5, .ref d6, .int xm, .int (nI zn), .ref d7, .ref d8, .long sd, .ref d9, .ref d0])), (d2, .inl (gJ g, 6, .inr (.inl (cond (scB x0 q0) (setS nw x0 (grnS (picS nw x0) q0.toNatClampNeg)) nw)))), (d3, .inl (gJ g, 42, .inr (.inl (cond (scB x0 q0) (rkF nx nw rw) rw))))] by rw [eb]; exact hD.sub [0, 1, 2] (by decide) rfl) hS dX7_grow_20
set_option maxHeartbeats 4000000 in
set_option maxRecDepth 100000 in
theorem c_X7_undo (l : Launch) (g : GG) (sz : Nat) (h0 : Nat) (d1 : Nat) (ln : Nat) (rd : Int64) (xd : Int32) (xq : Int32) (d2 : Nat) (an : Nat) (nx : Nat) (d3 : Nat) (d4 : Nat) (d5 : Nat) (d6 : Nat) (xm : Int32) (zn : Nat) (d7 : Nat) (d8 : Nat) (sd : Int64) (d9 : Nat) (d0 : Nat) (nw : Nat → Int64) (rw : Nat → Int64) (han : an ≤ 14) (hnx : nx < 14) : Met l yX7_undo (Cond.code yX7_undo cX7_undo 2 (some .int) :: wsL_law) ({ frames := 0, cells := 0, slots := 0, locals := 0 }) (PM g [.ref h0] [(h0, .inr (6, [.ref d1, .int (nI ln), .long rd, .int xd, .int xq, .ref d2, .int (nI an), .int (nI nx), .ref d3, .ref d4, .ref d5, .ref d6, .int xm, .int (nI zn), .ref d7, .ref d8, .long sd, .ref d9, .ref d0])), (d2, .inl (gJ g, 6, .inr (.inl nw))), (d3, .inl (gJ g, 42, .inr (.inl rw)))] sz) (QAi g (fun (r : Int32) (u : Unit) => r = qUn an) (fun (u : Unit) => [(h0, .inr (6, [.ref d1, .int (nI ln), .long rd, .int xd, .int xq, .ref d2, .int (nI (an - 1)), .int (nI (cond (decide (0 < an)) ((nx + 13) % 14) nx)), .ref d3, .ref d4, .ref d5, .ref d6, .int xm, .int (nI zn), .ref d7, .ref d8, .long sd, .ref d9, .ref d0])), (d2, .inl (gJ g, 6, .inr (.inl (cond (decide (0 < an)) (unF nx nw rw) nw)))), (d3, .inl (gJ g, 42, .inr (.inl rw)))]) (va_A [(h0, .inr (6, [.ref d1, .int (nI ln), .long rd, .int xd, .int xq, .ref d2, .int (nI an), .int (nI nx), .ref d3, .ref d4, .ref d5, .ref d6, .int xm, .int (nI zn), .ref d7, .ref d8, .long sd, .ref d9, .ref d0])), (d2, .inl (gJ g, 6, .inr (.inl nw))), (d3, .inl (gJ g, 42, .inr (.inl rw)))] sz)) 0 0 (va_A [(h0, .inr (6, [.ref d1, .int (nI ln), .long rd, .int xd, .int xq, .ref d2, .int (nI an), .int (nI nx), .ref d3, .ref d4, .ref d5, .ref d6, .int xm, .int (nI zn), .ref d7, .ref d8, .long sd, .ref d9, .ref d0])), (d2, .inl (gJ g, 6, .inr (.inl nw))), (d3, .inl (gJ g, 42, .inr (.inl rw)))] sz) := by
  refine Met.M (Qc := fun A => QAi g (fun (r : Int32) (u : Unit) => r = qUn an) (fun (u : Unit) => [(h0, .inr (6, [.ref d1, .int (nI ln), .long rd, .int xd, .int xq, .ref d2, .int (nI (an - 1)), .int (nI (cond (decide (0 < an)) ((nx + 13) % 14) nx)), .ref d3, .ref d4, .ref d5, .ref d6, .int xm, .int (nI zn), .ref d7, .ref d8, .long sd, .ref d9, .ref d0])), (d2, .inl (gJ g, 6, .inr (.inl (cond (decide (0 < an)) (unF nx nw rw) nw)))), (d3, .inl (gJ g, 42, .inr (.inl rw)))]) A) (by decide) (Nat.le_of_ble_eq_true rfl) rfl ?_
  intro p e s m below meth c hx hb hr hml hw hown hlocks hin A hA hkn hP hD ls hl
  have hl : lv_has ls 2 [(0, .ref h0)] := hl
  have hS : va_S A s.heap s.heap [] := va_S.rf
  obtain ⟨H, hHe⟩ : ∃ H, H = s.heap := ⟨_, rfl⟩
  obtain ⟨locs, hLe⟩ : ∃ locs : List Loc, locs = [] := ⟨_, rfl⟩
  have hP : va_P g.1 vwCl [(h0, .inr (6, [.ref d1, .int (nI ln), .long rd, .int xd, .int xq, .ref d2, .int (nI an), .int (nI nx), .ref d3, .ref d4, .ref d5, .ref d6, .int xm, .int (nI zn), .ref d7, .ref d8, .long sd, .ref d9, .ref d0])), (d2, .inl (gJ g, 6, .inr (.inl nw))), (d3, .inl (gJ g, 42, .inr (.inl rw)))] H := by rw [hHe]; exact hP
  have hS : va_S A s.heap H locs := by rw [hHe, hLe]; exact hS
  have hgo : W p l e ({ frames := 0, cells := 0, slots := 0, locals := 0 } : Room) s m ([.ref h0] : List Value).toArray below meth c H locs 0 0 (MQ below (QAi g (fun (r : Int32) (u : Unit) => r = qUn an) (fun (u : Unit) => [(h0, .inr (6, [.ref d1, .int (nI ln), .long rd, .int xd, .int xq, .ref d2, .int (nI (an - 1)), .int (nI (cond (decide (0 < an)) ((nx + 13) % 14) nx)), .ref d3, .ref d4, .ref d5, .ref d6, .int xm, .int (nI zn), .ref d7, .ref d8, .long sd, .ref d9, .ref d0])), (d2, .inl (gJ g, 6, .inr (.inl (cond (decide (0 < an)) (unF nx nw rw) nw)))), (d3, .inl (gJ g, 42, .inr (.inl rw)))]) A) ([.ref h0] : List Value).toArray s 0 0 A) (F0 m 0 ls []) := ?_
  · rw [hHe, hLe] at hgo; exact hgo
  clear hHe hLe
  refine lv_aload_n hx hb dX7_undo_0 rfl (lv_at hl 0 rfl) ?_
  refine va_get (D := g.1) (ci := 6) (v := .int (nI an)) (C := RX7) (T := TX7) (N := 19) hx hb hw inlX7 hown hkn.1 hP 0 rfl rfl 6 (by decide) (hw _ mw_253) (fun _ h9 => h9) rfl dX7_undo_1 ?_
  refine iz_ne (a := an) (tgt := 10) hx hb dX7_undo_4 (by decide) rfl (by omega) (fun c_1 => ?_) (fun c_1 => ?_)
  · skip
    refine lv_aload_n hx hb dX7_undo_10 rfl (lv_at hl 0 rfl) ?_
    refine lv_dup hx hb dX7_undo_11 rfl ?_
    refine va_get (D := g.1) (ci := 6) (v := .int (nI an)) (C := RX7) (T := TX7) (N := 19) hx hb hw inlX7 hown hkn.1 hP 0 rfl rfl 6 (by decide) (hw _ mw_253) (fun _ h9 => h9) rfl dX7_undo_12 ?_
    refine lv_iconst (v := 1) hx hb dX7_undo_15 (by decide) ?_
    refine lv_isub hx hb dX7_undo_16 ?_
    refine lv_eqi (pk_sub (a := an) (b := 1) (by omega)) ?_
    refine va_put (D := g.1) (ci := 6) (v := .int (nI (an - 1))) (ty := .int) (C := RX7) (T := TX7) (N := 19) hx hb hw inlX7 tyX7 tyX7_ok nmX7 hown hkn.1 hP hD hS 0 rfl rfl 6 (by decide) (hw _ mw_253) (fun _ h9 => h9) rfl (by decide +kernel) rfl rfl (Nat.le_of_ble_eq_true rfl) dX7_undo_17 (fun H locs hP hD hS => ?_)
    have hP : va_P g.1 vwCl [(h0, .inr (6, [.ref d1, .int (nI ln), .long rd, .int xd, .int xq, .ref d2, .int (nI (an - 1)), .int (nI nx), .ref d3, .ref d4, .ref d5, .ref d6, .int xm, .int (nI zn), .ref d7, .ref d8, .long sd, .ref d9, .ref d0])), (d2, .inl (gJ g, 6, .inr (.inl nw))), (d3, .inl (gJ g, 42, .inr (.inl rw)))] H := hP
    have hD : va_D A [(h0, .inr (6, [.ref d1, .int (nI ln), .long rd, .int xd, .int xq, .ref d2, .int (nI (an - 1)), .int (nI nx), .ref d3, .ref d4, .ref d5, .ref d6, .int xm, .int (nI zn), .ref d7, .ref d8, .long sd, .ref d9, .ref d0])), (d2, .inl (gJ g, 6, .inr (.inl nw))), (d3, .inl (gJ g, 42, .inr (.inl rw)))] := hD
    refine lv_aload_n hx hb dX7_undo_20 rfl (lv_at hl 0 rfl) ?_
    refine lv_aload_n hx hb dX7_undo_21 rfl (lv_at hl 0 rfl) ?_
    refine va_get (D := g.1) (ci := 6) (v := .int (nI nx)) (C := RX7) (T := TX7) (N := 19) hx hb hw inlX7 hown hkn.1 hP 0 rfl rfl 7 (by decide) (hw _ mw_252) (fun _ h9 => h9) rfl dX7_undo_22 ?_
    refine lv_bipush (v := 13) hx hb dX7_undo_25 (by decide) ?_
    refine lv_iadd hx hb dX7_undo_27 ?_
    refine lv_eqi (nI_add nx 13) ?_
    refine lv_bipush (v := 14) hx hb dX7_undo_28 (by decide) ?_
    refine lv_irem hx hb dX7_undo_30 (by decide) ?_
    refine lv_eqi (pk_rem (a := nx + 13) (d := 14) (by omega) (by omega) (by omega)) ?_
    refine va_put (D := g.1) (ci := 6) (v := .int (nI ((nx + 13) % 14))) (ty := .int) (C := RX7) (T := TX7) (N := 19) hx hb hw inlX7 tyX7 tyX7_ok nmX7 hown hkn.1 hP hD hS 0 rfl rfl 7 (by decide) (hw _ mw_252) (fun _ h9 => h9) rfl (by decide +kernel) rfl rfl (Nat.le_of_ble_eq_true rfl) dX7_undo_31 (fun H locs hP hD hS => ?_)
    have hP : va_P g.1 vwCl [(h0, .inr (6, [.ref d1, .int (nI ln), .long rd, .int xd, .int xq, .ref d2, .int (nI (an - 1)), .int (nI ((nx + 13) % 14)), .ref d3, .ref d4, .ref d5, .ref d6, .int xm, .int (nI zn), .ref d7, .ref d8, .long sd, .ref d9, .ref d0])), (d2, .inl (gJ g, 6, .inr (.inl nw))), (d3, .inl (gJ g, 42, .inr (.inl rw)))] H := hP
    have hD : va_D A [(h0, .inr (6, [.ref d1, .int (nI ln), .long rd, .int xd, .int xq, .ref d2, .int (nI (an - 1)), .int (nI ((nx + 13) % 14)), .ref d3, .ref d4, .ref d5, .ref d6, .int xm, .int (nI zn), .ref d7, .ref d8, .long sd, .ref d9, .ref d0])), (d2, .inl (gJ g, 6, .inr (.inl nw))), (d3, .inl (gJ g, 42, .inr (.inl rw)))] := hD
    refine lv_iconst (v := 0) hx hb dX7_undo_34 (by decide) ?_
    refine lv_istore_n (lv' := [(1, .int 0), (0, .ref h0)]) hx hb dX7_undo_35 rfl hl (by decide) rfl (fun ls hl => ?_)
    have lp_36 : ∀ (n_36 : Nat) (i : Nat) (f1 : Nat → Int64), (i ≤ 3) → (f1 = fun t => if t < i then rw (3 * ((nx + 13) % 14) + t) else nw t) → 3 < i + n_36 → ∀ (H : Heap) (locs : List Loc), va_P g.1 vwCl [(h0, .inr (6, [.ref d1, .int (nI ln), .long rd, .int xd, .int xq, .ref d2, .int (nI (an - 1)), .int (nI ((nx + 13) % 14)), .ref d3, .ref d4, .ref d5, .ref d6, .int xm, .int (nI zn), .ref d7, .ref d8, .long sd, .ref d9, .ref d0])), (d2, .inl (gJ g, 6, .inr (.inl f1))), (d3, .inl (gJ g, 42, .inr (.inl rw)))] H → va_D A [(h0, .inr (6, [.ref d1, .int (nI ln), .long rd, .int xd, .int xq, .ref d2, .int (nI (an - 1)), .int (nI ((nx + 13) % 14)), .ref d3, .ref d4, .ref d5, .ref d6, .int xm, .int (nI zn), .ref d7, .ref d8, .long sd, .ref d9, .ref d0])), (d2, .inl (gJ g, 6, .inr (.inl f1))), (d3, .inl (gJ g, 42, .inr (.inl rw)))] → va_S A s.heap H locs → ∀ (ls : Array Slot), lv_has ls 2 [(1, .int (nI i)), (0, .ref h0)] → W p l e ({ frames := 0, cells := 0, slots := 0, locals := 0 } : Room) s m ([.ref h0] : List Value).toArray below meth c H locs 0 0 (MQ below (QAi g (fun (r : Int32) (u : Unit) => r = qUn an) (fun (u : Unit) => [(h0, .inr (6, [.ref d1, .int (nI ln), .long rd, .int xd, .int xq, .ref d2, .int (nI (an - 1)), .int (nI (cond (decide (0 < an)) ((nx + 13) % 14) nx)), .ref d3, .ref d4, .ref d5, .ref d6, .int xm, .int (nI zn), .ref d7, .ref d8, .long sd, .ref d9, .ref d0])), (d2, .inl (gJ g, 6, .inr (.inl (cond (decide (0 < an)) (unF nx nw rw) nw)))), (d3, .inl (gJ g, 42, .inr (.inl rw)))]) A) ([.ref h0] : List Value).toArray s 0 0 A) (F0 m 36 ls []) := by
      intro n_36
      induction n_36 with
      | zero => intro i f1 h_i h_f hfu_36; exact absurd hfu_36 (by omega)
      | succ n_36 ih_36 =>
        intro i f1 h_i h_f hfu_36 H locs hP hD hS ls hl
        refine lv_iload_n hx hb dX7_undo_36 rfl (lv_at hl 0 rfl) ?_
        refine lv_iconst (v := 3) hx hb dX7_undo_37 (by decide) ?_
        refine ic_ge (a := i) (d := 3) (tgt := 66) hx hb dX7_undo_38 (by decide) rfl rfl (by omega) (by omega) (fun c_2 => ?_) (fun c_2 => ?_)
        · skip
          refine lv_aload_n hx hb dX7_undo_66 rfl (lv_at hl 1 rfl) ?_
          refine va_get (D := g.1) (ci := 6) (v := .int (nI (an - 1))) (C := RX7) (T := TX7) (N := 19) hx hb hw inlX7 hown hkn.1 hP 0 rfl rfl 6 (by decide) (hw _ mw_253) (fun _ h9 => h9) rfl dX7_undo_67 ?_
          have eb : decide (0 < an) = true := by simp; omega
          obtain rfl : i = 3 := by omega
          subst h_f
          exact eM_i (g := g) hx hb hr hlocks () (by unfold qUn; rw [if_neg (by omega)]) (show va_P g.1 vwCl [(h0, .inr (6, [.ref d1, .int (nI ln), .long rd, .int xd, .int xq, .ref d2, .int (nI (an - 1)), .int (nI (cond (decide (0 < an)) ((nx + 13) % 14) nx)), .ref d3, .ref d4, .ref d5, .ref d6, .int xm, .int (nI zn), .ref d7, .ref d8, .long sd, .ref d9, .ref d0])), (d2, .inl (gJ g, 6, .inr (.inl (cond (decide (0 < an)) (unF nx nw rw) nw)))), (d3, .inl (gJ g, 42, .inr (.inl rw)))] H by rw [eb]; exact hP.sub [0, 1, 2] rfl) (show va_D A [(h0, .inr (6, [.ref d1, .int (nI ln), .long rd, .int xd, .int xq, .ref d2, .int (nI (an - 1)), .int (nI (cond (decide (0 < an)) ((nx + 13) % 14) nx)), .ref d3, .ref d4, .ref d5, .ref d6, .int xm, .int (nI zn), .ref d7, .ref d8, .long sd, .ref d9, .ref d0])), (d2, .inl (gJ g, 6, .inr (.inl (cond (decide (0 < an)) (unF nx nw rw) nw)))), (d3, .inl (gJ g, 42, .inr (.inl rw)))] by rw [eb]; exact hD.sub [0, 1, 2] (by decide) rfl) hS dX7_undo_70
        · skip
          refine lv_aload_n hx hb dX7_undo_41 rfl (lv_at hl 1 rfl) ?_
          refine va_get (D := g.1) (ci := 6) (v := .ref d2) (C := RX7) (T := TX7) (N := 19) hx hb hw inlX7 hown hkn.1 hP 0 rfl rfl 5 (by decide) (hw _ mw_74) (fun _ h9 => h9) rfl dX7_undo_42 ?_
          refine lv_iload_n hx hb dX7_undo_45 rfl (lv_at hl 0 rfl) ?_
          refine lv_aload_n hx hb dX7_undo_46 rfl (lv_at hl 1 rfl) ?_
          refine va_get (D := g.1) (ci := 6) (v := .ref d3) (C := RX7) (T := TX7) (N := 19) hx hb hw inlX7 hown hkn.1 hP 0 rfl rfl 8 (by decide) (hw _ mw_75) (fun _ h9 => h9) rfl dX7_undo_47 ?_
          refine lv_iconst (v := 3) hx hb dX7_undo_50 (by decide) ?_
          refine lv_aload_n hx hb dX7_undo_51 rfl (lv_at hl 1 rfl) ?_
          refine va_get (D := g.1) (ci := 6) (v := .int (nI ((nx + 13) % 14))) (C := RX7) (T := TX7) (N := 19) hx hb hw inlX7 hown hkn.1 hP 0 rfl rfl 7 (by decide) (hw _ mw_252) (fun _ h9 => h9) rfl dX7_undo_52 ?_
          refine lv_imul hx hb dX7_undo_55 ?_
          refine lv_eqi (pk_mul 3 ((nx + 13) % 14)) ?_
          refine lv_iload_n hx hb dX7_undo_56 rfl (lv_at hl 0 rfl) ?_
          refine lv_iadd hx hb dX7_undo_57 ?_
          refine lv_eqi (nI_add (3 * ((nx + 13) % 14)) i) ?_
          refine va_lald hx hb hkn.1 hP 2 1 rfl rfl (vp_in_nI (n := 3 * ((nx + 13) % 14) + i) (by omega) (by decide)) dX7_undo_58 ?_
          refine lv_eql (show _ = rw (3 * ((nx + 13) % 14) + i) by rw [nI_clamp (n := 3 * ((nx + 13) % 14) + i) (by omega)]) ?_
          refine va_last hx hb hkn.1 hP hD hS 1 1 rfl rfl (vp_in_nI (n := i) (by omega) (by decide)) dX7_undo_59 (fun H locs hP hD hS => ?_)
          rw [nI_clamp (n := i) (by omega)] at hP hD
          have hP : va_P g.1 vwCl [(h0, .inr (6, [.ref d1, .int (nI ln), .long rd, .int xd, .int xq, .ref d2, .int (nI (an - 1)), .int (nI ((nx + 13) % 14)), .ref d3, .ref d4, .ref d5, .ref d6, .int xm, .int (nI zn), .ref d7, .ref d8, .long sd, .ref d9, .ref d0])), (d2, .inl (gJ g, 6, .inr (.inl (vp_updL f1 i (rw (3 * ((nx + 13) % 14) + i)))))), (d3, .inl (gJ g, 42, .inr (.inl rw)))] H := hP
          have hD : va_D A [(h0, .inr (6, [.ref d1, .int (nI ln), .long rd, .int xd, .int xq, .ref d2, .int (nI (an - 1)), .int (nI ((nx + 13) % 14)), .ref d3, .ref d4, .ref d5, .ref d6, .int xm, .int (nI zn), .ref d7, .ref d8, .long sd, .ref d9, .ref d0])), (d2, .inl (gJ g, 6, .inr (.inl (vp_updL f1 i (rw (3 * ((nx + 13) % 14) + i)))))), (d3, .inl (gJ g, 42, .inr (.inl rw)))] := hD
          refine lv_iinc (v := (nI (i + 1))) (lv' := [(1, .int (nI (i + 1))), (0, .ref h0)]) hx hb dX7_undo_60 hl (k := 0) rfl (nI_1 i) (by decide) rfl (fun ls hl => ?_)
          refine lv_goto (tgt := 36) hx hb dX7_undo_63 (by decide) ?_
          exact ih_36 (i + 1) (vp_updL f1 i (rw (3 * ((nx + 13) % 14) + i))) (by omega) (by rw [h_f]; exact un_step) (by omega) _ _ hP hD hS ls (lv_sub hl [0, 1] rfl)
    exact lp_36 4 0 nw (by omega) (by funext t; rw [if_neg (by omega)]) (by omega) _ _ hP hD hS ls (lv_sub hl [0, 1] rfl)
  · skip
    refine lv_bipush (v := (-3)) hx hb dX7_undo_7 (by decide) ?_
    have eb : decide (0 < an) = false := by simp; omega
    have e2 : an - 1 = an := by omega
    exact eM_i (g := g) hx hb hr hlocks () (by unfold qUn; rw [if_pos c_1]) (show va_P g.1 vwCl [(h0, .inr (6, [.ref d1, .int (nI ln), .long rd, .int xd, .int xq, .ref d2, .int (nI (an - 1)), .int (nI (cond (decide (0 < an)) ((nx + 13) % 14) nx)), .ref d3, .ref d4, .ref d5, .ref d6, .int xm, .int (nI zn), .ref d7, .ref d8, .long sd, .ref d9, .ref d0])), (d2, .inl (gJ g, 6, .inr (.inl (cond (decide (0 < an)) (unF nx nw rw) nw)))), (d3, .inl (gJ g, 42, .inr (.inl rw)))] H by rw [eb, e2]; exact hP.sub [0, 1, 2] rfl) (show va_D A [(h0, .inr (6, [.ref d1, .int (nI ln), .long rd, .int xd, .int xq, .ref d2, .int (nI (an - 1)), .int (nI (cond (decide (0 < an)) ((nx + 13) % 14) nx)), .ref d3, .ref d4, .ref d5, .ref d6, .int xm, .int (nI zn), .ref d7, .ref d8, .long sd, .ref d9, .ref d0])), (d2, .inl (gJ g, 6, .inr (.inl (cond (decide (0 < an)) (unF nx nw rw) nw)))), (d3, .inl (gJ g, 42, .inr (.inl rw)))] by rw [eb, e2]; exact hD.sub [0, 1, 2] (by decide) rfl) hS dX7_undo_9
set_option maxHeartbeats 4000000 in
set_option maxRecDepth 100000 in
theorem c_X7_black (l : Launch) (g : GG) (H : Heap) (h0 : Nat) (x0 : Int32) (d1 : Nat) (ln : Nat) (rd : Int64) (xd : Int32) (xq : Int32) (d2 : Nat) (an : Nat) (nx : Nat) (d3 : Nat) (d4 : Nat) (d5 : Nat) (d6 : Nat) (xm : Int32) (zn : Nat) (d7 : Nat) (d8 : Nat) (sd : Int64) (d9 : Nat) (d0 : Nat) (nw : Nat → Int64)  (hP : va_P g.1 vwCl [(h0, .inr (6, [.ref d1, .int (nI ln), .long rd, .int xd, .int xq, .ref d2, .int (nI an), .int (nI nx), .ref d3, .ref d4, .ref d5, .ref d6, .int xm, .int (nI zn), .ref d7, .ref d8, .long sd, .ref d9, .ref d0])), (d2, .inl (gJ g, 6, .inr (.inl nw)))] H) : Met l yX7_black (Cond.code yX7_black cX7_black 2 (some .long) :: wsL_law) ({ frames := 2, cells := 0, slots := 0, locals := 45 }) (PR g [.ref h0, .int x0] H) (QRl (picS nw x0) H) 0 0 NoA := by
  refine Met.R (by decide) (Nat.le_of_ble_eq_true rfl) rfl ?_
  intro p e s m below meth c hx hb hr hml hw hown hlocks hkn hH ls hl
  subst hH
  have hl : lv_has ls 2 [(0, .ref h0), (1, .int x0)] := hl
  have hS : va_S NoA s.heap s.heap [] := va_S.rf
  refine lv_iload_n hx hb dX7_black_0 rfl (lv_at hl 1 rfl) ?_
  refine cS_i (As := [.int x0]) (rest := []) hx hb hml hown hw hkn hS hl (c_X7_isPicture l g _ x0 ) sf_X7_isPicture mw_245 ⟨(Nat.le_of_ble_eq_true rfl), (Nat.le_of_ble_eq_true rfl)⟩ rfl rfl rfl rfl (Nat.le_of_ble_eq_true rfl) dX7_black_1 ⟨(Nat.le_of_ble_eq_true rfl), (Nat.le_of_ble_eq_true rfl)⟩ ?_
  refine lv_ifeqB (b := isPic x0) (tgt := 16) hx hb dX7_black_4 (by decide) (fun c_1 => ?_) (fun c_1 => ?_)
  · skip
    refine lv_lconst (v := 0) hx hb dX7_black_16 rfl ?_
    exact eR_l hx hb hr hlocks (by unfold picS; rw [if_neg (nt_of c_1)]) dX7_black_17
  · skip
    refine lv_aload_n hx hb dX7_black_7 rfl (lv_at hl 0 rfl) ?_
    refine va_get (D := g.1) (ci := 6) (v := .ref d2) (C := RX7) (T := TX7) (N := 19) hx hb hw inlX7 hown hkn.1 hP 0 rfl rfl 5 (by decide) (hw _ mw_74) (fun _ h9 => h9) rfl dX7_black_8 ?_
    refine lv_iload_n hx hb dX7_black_11 rfl (lv_at hl 1 rfl) ?_
    refine va_lald hx hb hkn.1 hP 1 1 rfl rfl (isPic_vp6 c_1) dX7_black_12 ?_
    refine lv_goto (tgt := 17) hx hb dX7_black_13 (by decide) ?_
    exact eR_l hx hb hr hlocks (by unfold picS; rw [if_pos c_1]) dX7_black_17
set_option maxHeartbeats 4000000 in
set_option maxRecDepth 100000 in
theorem c_X7_leafOf (l : Launch) (g : GG) (H : Heap) (h0 : Nat) (v : Int64) (d1 : Nat) (ln : Nat) (rd : Int64) (dp : Nat) (pq : Nat) (d2 : Nat) (an : Nat) (nx : Nat) (d3 : Nat) (d4 : Nat) (d5 : Nat) (d6 : Nat) (xm : Int32) (zn : Nat) (d7 : Nat) (d8 : Nat) (sd : Int64) (d9 : Nat) (d0 : Nat) (hdp : dp < 4) (hpq : pq < 64) (hP : va_P g.1 vwCl [(h0, .inr (6, [.ref d1, .int (nI ln), .long rd, .int (nI dp), .int (nI pq), .ref d2, .int (nI an), .int (nI nx), .ref d3, .ref d4, .ref d5, .ref d6, .int xm, .int (nI zn), .ref d7, .ref d8, .long sd, .ref d9, .ref d0]))] H) : Met l yX7_leafOf (Cond.code yX7_leafOf cX7_leafOf 5 (some .int) :: wsL_law) ({ frames := 4, cells := 0, slots := 0, locals := 93 }) (PR g [.ref h0, .long v] H) (QRi (lfS v dp pq) H) 0 0 NoA := by
  refine Met.R (by decide) (Nat.le_of_ble_eq_true rfl) rfl ?_
  intro p e s m below meth c hx hb hr hml hw hown hlocks hkn hH ls hl
  subst hH
  have hl : lv_has ls 5 [(0, .ref h0), (1, .long v)] := hl
  have hS : va_S NoA s.heap s.heap [] := va_S.rf
  refine lv_lload_n hx hb dX7_leafOf_0 rfl (lv_at hl 1 rfl) ?_
  refine lv_aload_n hx hb dX7_leafOf_1 rfl (lv_at hl 0 rfl) ?_
  refine va_get (D := g.1) (ci := 6) (v := .int (nI dp)) (C := RX7) (T := TX7) (N := 19) hx hb hw inlX7 hown hkn.1 hP 0 rfl rfl 3 (by decide) (hw _ mw_177) (fun _ h9 => h9) rfl dX7_leafOf_2 ?_
  refine lv_aload_n hx hb dX7_leafOf_5 rfl (lv_at hl 0 rfl) ?_
  refine va_get (D := g.1) (ci := 6) (v := .int (nI pq)) (C := RX7) (T := TX7) (N := 19) hx hb hw inlX7 hown hkn.1 hP 0 rfl rfl 4 (by decide) (hw _ mw_178) (fun _ h9 => h9) rfl dX7_leafOf_6 ?_
  refine cS_l (As := [.int (nI dp), .int (nI pq)]) (rest := [.long v]) hx hb hml hown hw hkn hS hl (c_X7_maskOf l g _ dp pq (by omega) (by omega)) sf_X7_maskOf mw_465 ⟨(Nat.le_of_ble_eq_true rfl), (Nat.le_of_ble_eq_true rfl)⟩ rfl rfl rfl rfl (Nat.le_of_ble_eq_true rfl) dX7_leafOf_9 ⟨(Nat.le_of_ble_eq_true rfl), (Nat.le_of_ble_eq_true rfl)⟩ ?_
  refine lv_land hx hb dX7_leafOf_12 ?_
  refine lv_lstore_n (lv' := [(3, .long (v &&& (mkM dp pq))), (0, .ref h0), (1, .long v)]) hx hb dX7_leafOf_13 rfl hl (by decide) rfl (fun ls hl => ?_)
  refine lv_lload_n hx hb dX7_leafOf_14 rfl (lv_at hl 0 rfl) ?_
  refine lv_aload_n hx hb dX7_leafOf_15 rfl (lv_at hl 1 rfl) ?_
  refine va_get (D := g.1) (ci := 6) (v := .int (nI dp)) (C := RX7) (T := TX7) (N := 19) hx hb hw inlX7 hown hkn.1 hP 0 rfl rfl 3 (by decide) (hw _ mw_177) (fun _ h9 => h9) rfl dX7_leafOf_16 ?_
  refine lv_aload_n hx hb dX7_leafOf_19 rfl (lv_at hl 1 rfl) ?_
  refine va_get (D := g.1) (ci := 6) (v := .int (nI pq)) (C := RX7) (T := TX7) (N := 19) hx hb hw inlX7 hown hkn.1 hP 0 rfl rfl 4 (by decide) (hw _ mw_178) (fun _ h9 => h9) rfl dX7_leafOf_20 ?_
  refine lv_bipush (v := 98) hx hb dX7_leafOf_23 (by decide) ?_
  refine cS_l (As := [.int (nI dp), .int (nI pq), .int 98]) (rest := [.long (v &&& (mkM dp pq))]) hx hb hml hown hw hkn hS hl (c_X7_paintOf l g _ dp pq 98 (by omega) (by omega)) sf_X7_paintOf mw_184 ⟨(Nat.le_of_ble_eq_true rfl), (Nat.le_of_ble_eq_true rfl)⟩ rfl rfl rfl rfl (Nat.le_of_ble_eq_true rfl) dX7_leafOf_25 ⟨(Nat.le_of_ble_eq_true rfl), (Nat.le_of_ble_eq_true rfl)⟩ ?_
  refine lc_ne (tgt := 37) hx hb dX7_leafOf_28 dX7_leafOf_29 (by decide) (fun c_1 => ?_) (fun c_1 => ?_)
  · skip
    refine lv_lload_n hx hb dX7_leafOf_37 rfl (lv_at hl 0 rfl) ?_
    refine lv_lconst (v := 0) hx hb dX7_leafOf_38 rfl ?_
    refine lc_ne (tgt := 48) hx hb dX7_leafOf_39 dX7_leafOf_40 (by decide) (fun c_2 => ?_) (fun c_2 => ?_)
    · skip
      refine lv_lload_n hx hb dX7_leafOf_48 rfl (lv_at hl 0 rfl) ?_
      refine lv_aload_n hx hb dX7_leafOf_49 rfl (lv_at hl 1 rfl) ?_
      refine va_get (D := g.1) (ci := 6) (v := .int (nI dp)) (C := RX7) (T := TX7) (N := 19) hx hb hw inlX7 hown hkn.1 hP 0 rfl rfl 3 (by decide) (hw _ mw_177) (fun _ h9 => h9) rfl dX7_leafOf_50 ?_
      refine lv_aload_n hx hb dX7_leafOf_53 rfl (lv_at hl 1 rfl) ?_
      refine va_get (D := g.1) (ci := 6) (v := .int (nI pq)) (C := RX7) (T := TX7) (N := 19) hx hb hw inlX7 hown hkn.1 hP 0 rfl rfl 4 (by decide) (hw _ mw_178) (fun _ h9 => h9) rfl dX7_leafOf_54 ?_
      refine lv_bipush (v := 103) hx hb dX7_leafOf_57 (by decide) ?_
      refine cS_l (As := [.int (nI dp), .int (nI pq), .int 103]) (rest := [.long (v &&& (mkM dp pq))]) hx hb hml hown hw hkn hS hl (c_X7_paintOf l g _ dp pq 103 (by omega) (by omega)) sf_X7_paintOf mw_184 ⟨(Nat.le_of_ble_eq_true rfl), (Nat.le_of_ble_eq_true rfl)⟩ rfl rfl rfl rfl (Nat.le_of_ble_eq_true rfl) dX7_leafOf_59 ⟨(Nat.le_of_ble_eq_true rfl), (Nat.le_of_ble_eq_true rfl)⟩ ?_
      refine lc_ne (tgt := 71) hx hb dX7_leafOf_62 dX7_leafOf_63 (by decide) (fun c_3 => ?_) (fun c_3 => ?_)
      · skip
        refine lv_lload_n hx hb dX7_leafOf_71 rfl (lv_at hl 0 rfl) ?_
        refine lv_aload_n hx hb dX7_leafOf_72 rfl (lv_at hl 1 rfl) ?_
        refine va_get (D := g.1) (ci := 6) (v := .int (nI dp)) (C := RX7) (T := TX7) (N := 19) hx hb hw inlX7 hown hkn.1 hP 0 rfl rfl 3 (by decide) (hw _ mw_177) (fun _ h9 => h9) rfl dX7_leafOf_73 ?_
        refine lv_aload_n hx hb dX7_leafOf_76 rfl (lv_at hl 1 rfl) ?_
        refine va_get (D := g.1) (ci := 6) (v := .int (nI pq)) (C := RX7) (T := TX7) (N := 19) hx hb hw inlX7 hown hkn.1 hP 0 rfl rfl 4 (by decide) (hw _ mw_178) (fun _ h9 => h9) rfl dX7_leafOf_77 ?_
        refine lv_bipush (v := 115) hx hb dX7_leafOf_80 (by decide) ?_
        refine cS_l (As := [.int (nI dp), .int (nI pq), .int 115]) (rest := [.long (v &&& (mkM dp pq))]) hx hb hml hown hw hkn hS hl (c_X7_paintOf l g _ dp pq 115 (by omega) (by omega)) sf_X7_paintOf mw_184 ⟨(Nat.le_of_ble_eq_true rfl), (Nat.le_of_ble_eq_true rfl)⟩ rfl rfl rfl rfl (Nat.le_of_ble_eq_true rfl) dX7_leafOf_82 ⟨(Nat.le_of_ble_eq_true rfl), (Nat.le_of_ble_eq_true rfl)⟩ ?_
        refine lc_ne (tgt := 94) hx hb dX7_leafOf_85 dX7_leafOf_86 (by decide) (fun c_4 => ?_) (fun c_4 => ?_)
        · skip
          refine lv_bipush (v := 113) hx hb dX7_leafOf_94 (by decide) ?_
          exact eR_i hx hb hr hlocks (by unfold lfS; rw [if_neg c_1, if_neg c_2, if_neg c_3, if_neg c_4]) dX7_leafOf_96
        · skip
          refine lv_bipush (v := 115) hx hb dX7_leafOf_89 (by decide) ?_
          refine lv_goto (tgt := 96) hx hb dX7_leafOf_91 (by decide) ?_
          exact eR_i hx hb hr hlocks (by unfold lfS; rw [if_neg c_1, if_neg c_2, if_neg c_3, if_pos c_4]) dX7_leafOf_96
      · skip
        refine lv_bipush (v := 103) hx hb dX7_leafOf_66 (by decide) ?_
        refine lv_goto (tgt := 96) hx hb dX7_leafOf_68 (by decide) ?_
        exact eR_i hx hb hr hlocks (by unfold lfS; rw [if_neg c_1, if_neg c_2, if_pos c_3]) dX7_leafOf_96
    · skip
      refine lv_bipush (v := 119) hx hb dX7_leafOf_43 (by decide) ?_
      refine lv_goto (tgt := 96) hx hb dX7_leafOf_45 (by decide) ?_
      exact eR_i hx hb hr hlocks (by unfold lfS; rw [if_neg c_1, if_pos c_2]) dX7_leafOf_96
  · skip
    refine lv_bipush (v := 98) hx hb dX7_leafOf_32 (by decide) ?_
    refine lv_goto (tgt := 96) hx hb dX7_leafOf_34 (by decide) ?_
    exact eR_i hx hb hr hlocks (by unfold lfS; rw [if_pos c_1]) dX7_leafOf_96
set_option maxHeartbeats 4000000 in
set_option maxRecDepth 100000 in
theorem c_X7_tellCells (l : Launch) (g : GG) (sz : Nat) (h0 : Nat) (x0 : Int32) (d1 : Nat) (ln : Nat) (rd : Int64) (dp : Nat) (pq : Nat) (d2 : Nat) (an : Nat) (nx : Nat) (d3 : Nat) (d4 : Nat) (d5 : Nat) (d6 : Nat) (xm : Int32) (zn : Nat) (d7 : Nat) (d8 : Nat) (sd : Int64) (d9 : Nat) (d0 : Nat) (da : Nat → Int32) (la : Nat → Int32) (hdp : dp < 4) (hpq : pq < 64) : Met l yX7_tellCells (Cond.code yX7_tellCells cX7_tellCells 5 none :: wsL_law) ({ frames := 4, cells := 0, slots := 0, locals := 93 }) (PM g [.ref h0, .int x0] [(h0, .inr (6, [.ref d1, .int (nI ln), .long rd, .int (nI dp), .int (nI pq), .ref d2, .int (nI an), .int (nI nx), .ref d3, .ref d4, .ref d5, .ref d6, .int xm, .int (nI zn), .ref d7, .ref d8, .long sd, .ref d9, .ref d0])), (d5, .inl (gI g, 64, .inl da)), (d6, .inl (gI g, 64, .inl la))] sz) (QAv g (fun (u : Unit) => True) (fun (u : Unit) => [(h0, .inr (6, [.ref d1, .int (nI ln), .long rd, .int (nI dp), .int (nI pq), .ref d2, .int (nI an), .int (nI nx), .ref d3, .ref d4, .ref d5, .ref d6, .int xm, .int (nI zn), .ref d7, .ref d8, .long sd, .ref d9, .ref d0])), (d5, .inl (gI g, 64, .inl (tcF (mkM dp pq) (nI dp) da))), (d6, .inl (gI g, 64, .inl (tcF (mkM dp pq) x0 la)))]) (va_A [(h0, .inr (6, [.ref d1, .int (nI ln), .long rd, .int (nI dp), .int (nI pq), .ref d2, .int (nI an), .int (nI nx), .ref d3, .ref d4, .ref d5, .ref d6, .int xm, .int (nI zn), .ref d7, .ref d8, .long sd, .ref d9, .ref d0])), (d5, .inl (gI g, 64, .inl da)), (d6, .inl (gI g, 64, .inl la))] sz)) 0 0 (va_A [(h0, .inr (6, [.ref d1, .int (nI ln), .long rd, .int (nI dp), .int (nI pq), .ref d2, .int (nI an), .int (nI nx), .ref d3, .ref d4, .ref d5, .ref d6, .int xm, .int (nI zn), .ref d7, .ref d8, .long sd, .ref d9, .ref d0])), (d5, .inl (gI g, 64, .inl da)), (d6, .inl (gI g, 64, .inl la))] sz) := by
  refine Met.M (Qc := fun A => QAv g (fun (u : Unit) => True) (fun (u : Unit) => [(h0, .inr (6, [.ref d1, .int (nI ln), .long rd, .int (nI dp), .int (nI pq), .ref d2, .int (nI an), .int (nI nx), .ref d3, .ref d4, .ref d5, .ref d6, .int xm, .int (nI zn), .ref d7, .ref d8, .long sd, .ref d9, .ref d0])), (d5, .inl (gI g, 64, .inl (tcF (mkM dp pq) (nI dp) da))), (d6, .inl (gI g, 64, .inl (tcF (mkM dp pq) x0 la)))]) A) (by decide) (Nat.le_of_ble_eq_true rfl) rfl ?_
  intro p e s m below meth c hx hb hr hml hw hown hlocks hin A hA hkn hP hD ls hl
  have hl : lv_has ls 5 [(0, .ref h0), (1, .int x0)] := hl
  have hS : va_S A s.heap s.heap [] := va_S.rf
  obtain ⟨H, hHe⟩ : ∃ H, H = s.heap := ⟨_, rfl⟩
  obtain ⟨locs, hLe⟩ : ∃ locs : List Loc, locs = [] := ⟨_, rfl⟩
  have hP : va_P g.1 vwCl [(h0, .inr (6, [.ref d1, .int (nI ln), .long rd, .int (nI dp), .int (nI pq), .ref d2, .int (nI an), .int (nI nx), .ref d3, .ref d4, .ref d5, .ref d6, .int xm, .int (nI zn), .ref d7, .ref d8, .long sd, .ref d9, .ref d0])), (d5, .inl (gI g, 64, .inl da)), (d6, .inl (gI g, 64, .inl la))] H := by rw [hHe]; exact hP
  have hS : va_S A s.heap H locs := by rw [hHe, hLe]; exact hS
  have hgo : W p l e ({ frames := 4, cells := 0, slots := 0, locals := 93 } : Room) s m ([.ref h0, .int x0] : List Value).toArray below meth c H locs 0 0 (MQ below (QAv g (fun (u : Unit) => True) (fun (u : Unit) => [(h0, .inr (6, [.ref d1, .int (nI ln), .long rd, .int (nI dp), .int (nI pq), .ref d2, .int (nI an), .int (nI nx), .ref d3, .ref d4, .ref d5, .ref d6, .int xm, .int (nI zn), .ref d7, .ref d8, .long sd, .ref d9, .ref d0])), (d5, .inl (gI g, 64, .inl (tcF (mkM dp pq) (nI dp) da))), (d6, .inl (gI g, 64, .inl (tcF (mkM dp pq) x0 la)))]) A) ([.ref h0, .int x0] : List Value).toArray s 0 0 A) (F0 m 0 ls []) := ?_
  · rw [hHe, hLe] at hgo; exact hgo
  clear hHe hLe
  refine lv_aload_n hx hb dX7_tellCells_0 rfl (lv_at hl 0 rfl) ?_
  refine va_get (D := g.1) (ci := 6) (v := .int (nI dp)) (C := RX7) (T := TX7) (N := 19) hx hb hw inlX7 hown hkn.1 hP 0 rfl rfl 3 (by decide) (hw _ mw_177) (fun _ h9 => h9) rfl dX7_tellCells_1 ?_
  refine lv_aload_n hx hb dX7_tellCells_4 rfl (lv_at hl 0 rfl) ?_
  refine va_get (D := g.1) (ci := 6) (v := .int (nI pq)) (C := RX7) (T := TX7) (N := 19) hx hb hw inlX7 hown hkn.1 hP 0 rfl rfl 4 (by decide) (hw _ mw_178) (fun _ h9 => h9) rfl dX7_tellCells_5 ?_
  refine cS_l (As := [.int (nI dp), .int (nI pq)]) (rest := []) hx hb hml hown hw hkn hS hl (c_X7_maskOf l g _ dp pq (by omega) (by omega)) sf_X7_maskOf mw_465 ⟨(Nat.le_of_ble_eq_true rfl), (Nat.le_of_ble_eq_true rfl)⟩ rfl rfl rfl rfl (Nat.le_of_ble_eq_true rfl) dX7_tellCells_8 ⟨(Nat.le_of_ble_eq_true rfl), (Nat.le_of_ble_eq_true rfl)⟩ ?_
  refine lv_lstore_n (lv' := [(2, .long (mkM dp pq)), (0, .ref h0), (1, .int x0)]) hx hb dX7_tellCells_11 rfl hl (by decide) rfl (fun ls hl => ?_)
  refine lv_iconst (v := 0) hx hb dX7_tellCells_12 (by decide) ?_
  refine lv_istore (lv' := [(4, .int 0), (2, .long (mkM dp pq)), (0, .ref h0), (1, .int x0)]) hx hb dX7_tellCells_13 hl (by decide) rfl (fun ls hl => ?_)
  have lp_15 : ∀ (n_15 : Nat) (i : Nat) (f1 : Nat → Int32) (f2 : Nat → Int32), (i ≤ 64) → (f1 = fun k => if bt (mkM dp pq) k = true ∧ k < i then nI dp else da k) → (f2 = fun k => if bt (mkM dp pq) k = true ∧ k < i then x0 else la k) → 64 < i + n_15 → ∀ (H : Heap) (locs : List Loc), va_P g.1 vwCl [(h0, .inr (6, [.ref d1, .int (nI ln), .long rd, .int (nI dp), .int (nI pq), .ref d2, .int (nI an), .int (nI nx), .ref d3, .ref d4, .ref d5, .ref d6, .int xm, .int (nI zn), .ref d7, .ref d8, .long sd, .ref d9, .ref d0])), (d5, .inl (gI g, 64, .inl f1)), (d6, .inl (gI g, 64, .inl f2))] H → va_D A [(h0, .inr (6, [.ref d1, .int (nI ln), .long rd, .int (nI dp), .int (nI pq), .ref d2, .int (nI an), .int (nI nx), .ref d3, .ref d4, .ref d5, .ref d6, .int xm, .int (nI zn), .ref d7, .ref d8, .long sd, .ref d9, .ref d0])), (d5, .inl (gI g, 64, .inl f1)), (d6, .inl (gI g, 64, .inl f2))] → va_S A s.heap H locs → ∀ (ls : Array Slot), lv_has ls 5 [(4, .int (nI i)), (2, .long (mkM dp pq)), (0, .ref h0), (1, .int x0)] → W p l e ({ frames := 4, cells := 0, slots := 0, locals := 93 } : Room) s m ([.ref h0, .int x0] : List Value).toArray below meth c H locs 0 0 (MQ below (QAv g (fun (u : Unit) => True) (fun (u : Unit) => [(h0, .inr (6, [.ref d1, .int (nI ln), .long rd, .int (nI dp), .int (nI pq), .ref d2, .int (nI an), .int (nI nx), .ref d3, .ref d4, .ref d5, .ref d6, .int xm, .int (nI zn), .ref d7, .ref d8, .long sd, .ref d9, .ref d0])), (d5, .inl (gI g, 64, .inl (tcF (mkM dp pq) (nI dp) da))), (d6, .inl (gI g, 64, .inl (tcF (mkM dp pq) x0 la)))]) A) ([.ref h0, .int x0] : List Value).toArray s 0 0 A) (F0 m 15 ls []) := by
    intro n_15
    induction n_15 with
    | zero => intro i f1 f2 h_i h_f1 h_f2 hfu_15; exact absurd hfu_15 (by omega)
    | succ n_15 ih_15 =>
      intro i f1 f2 h_i h_f1 h_f2 hfu_15 H locs hP hD hS ls hl
      refine lv_iload hx hb dX7_tellCells_15 (lv_at hl 0 rfl) ?_
      refine lv_bipush (v := 64) hx hb dX7_tellCells_17 (by decide) ?_
      refine ic_ge (a := i) (d := 64) (tgt := 58) hx hb dX7_tellCells_19 (by decide) rfl rfl (by omega) (by omega) (fun c_1 => ?_) (fun c_1 => ?_)
      · skip
        obtain rfl : i = 64 := by omega
        have e1 : tcF (mkM dp pq) (nI dp) da = f1 := by rw [h_f1]; exact tc_end
        have e2 : tcF (mkM dp pq) x0 la = f2 := by rw [h_f2]; exact tc_end
        exact eM_v (g := g) hx hb hr hlocks () (trivial) (show va_P g.1 vwCl [(h0, .inr (6, [.ref d1, .int (nI ln), .long rd, .int (nI dp), .int (nI pq), .ref d2, .int (nI an), .int (nI nx), .ref d3, .ref d4, .ref d5, .ref d6, .int xm, .int (nI zn), .ref d7, .ref d8, .long sd, .ref d9, .ref d0])), (d5, .inl (gI g, 64, .inl (tcF (mkM dp pq) (nI dp) da))), (d6, .inl (gI g, 64, .inl (tcF (mkM dp pq) x0 la)))] H by rw [e1, e2]; exact hP.sub [0, 1, 2] rfl) (show va_D A [(h0, .inr (6, [.ref d1, .int (nI ln), .long rd, .int (nI dp), .int (nI pq), .ref d2, .int (nI an), .int (nI nx), .ref d3, .ref d4, .ref d5, .ref d6, .int xm, .int (nI zn), .ref d7, .ref d8, .long sd, .ref d9, .ref d0])), (d5, .inl (gI g, 64, .inl (tcF (mkM dp pq) (nI dp) da))), (d6, .inl (gI g, 64, .inl (tcF (mkM dp pq) x0 la)))] by rw [e1, e2]; exact hD.sub [0, 1, 2] (by decide) rfl) hS dX7_tellCells_58
      · skip
        refine lv_lload_n hx hb dX7_tellCells_22 rfl (lv_at hl 1 rfl) ?_
        refine lv_iload hx hb dX7_tellCells_23 (lv_at hl 0 rfl) ?_
        refine lv_lushr (v := (jushr (mkM dp pq) i)) hx hb dX7_tellCells_25 rfl ?_
        refine lv_lconst (v := 1) hx hb dX7_tellCells_26 rfl ?_
        refine lv_land hx hb dX7_tellCells_27 ?_
        refine lv_lconst (v := 1) hx hb dX7_tellCells_28 rfl ?_
        refine lc_ne (tgt := 52) hx hb dX7_tellCells_29 dX7_tellCells_30 (by decide) (fun c_2 => ?_) (fun c_2 => ?_)
        · skip
          refine lv_iinc (v := (nI (i + 1))) (lv' := [(4, .int (nI (i + 1))), (2, .long (mkM dp pq)), (0, .ref h0), (1, .int x0)]) hx hb dX7_tellCells_52 hl (k := 0) rfl (nI_1 i) (by decide) rfl (fun ls hl => ?_)
          refine lv_goto (tgt := 15) hx hb dX7_tellCells_55 (by decide) ?_
          exact ih_15 (i + 1) f1 f2 (by omega) (by first | (rw [h_f1]; exact tc_y ((bit1_iff _ (by omega)).mp c_2)) | (rw [h_f1]; exact tc_n (fun q => c_2 ((bit1_iff _ (by omega)).mpr q)))) (by first | (rw [h_f2]; exact tc_y ((bit1_iff _ (by omega)).mp c_2)) | (rw [h_f2]; exact tc_n (fun q => c_2 ((bit1_iff _ (by omega)).mpr q)))) (by omega) _ _ hP hD hS ls (lv_sub hl [0, 1, 2, 3] rfl)
        · skip
          refine lv_aload_n hx hb dX7_tellCells_33 rfl (lv_at hl 2 rfl) ?_
          refine va_get (D := g.1) (ci := 6) (v := .ref d5) (C := RX7) (T := TX7) (N := 19) hx hb hw inlX7 hown hkn.1 hP 0 rfl rfl 10 (by decide) (hw _ mw_77) (fun _ h9 => h9) rfl dX7_tellCells_34 ?_
          refine lv_iload hx hb dX7_tellCells_37 (lv_at hl 0 rfl) ?_
          refine lv_aload_n hx hb dX7_tellCells_39 rfl (lv_at hl 2 rfl) ?_
          refine va_get (D := g.1) (ci := 6) (v := .int (nI dp)) (C := RX7) (T := TX7) (N := 19) hx hb hw inlX7 hown hkn.1 hP 0 rfl rfl 3 (by decide) (hw _ mw_177) (fun _ h9 => h9) rfl dX7_tellCells_40 ?_
          refine va_iast hx hb hkn.1 hP hD hS 1 0 rfl rfl (vp_in_nI (n := i) (by omega) (by decide)) dX7_tellCells_43 (fun H locs hP hD hS => ?_)
          rw [nI_clamp (n := i) (by omega)] at hP hD
          have hP : va_P g.1 vwCl [(h0, .inr (6, [.ref d1, .int (nI ln), .long rd, .int (nI dp), .int (nI pq), .ref d2, .int (nI an), .int (nI nx), .ref d3, .ref d4, .ref d5, .ref d6, .int xm, .int (nI zn), .ref d7, .ref d8, .long sd, .ref d9, .ref d0])), (d5, .inl (gI g, 64, .inl (upd f1 i (nI dp)))), (d6, .inl (gI g, 64, .inl f2))] H := hP
          have hD : va_D A [(h0, .inr (6, [.ref d1, .int (nI ln), .long rd, .int (nI dp), .int (nI pq), .ref d2, .int (nI an), .int (nI nx), .ref d3, .ref d4, .ref d5, .ref d6, .int xm, .int (nI zn), .ref d7, .ref d8, .long sd, .ref d9, .ref d0])), (d5, .inl (gI g, 64, .inl (upd f1 i (nI dp)))), (d6, .inl (gI g, 64, .inl f2))] := hD
          refine lv_aload_n hx hb dX7_tellCells_44 rfl (lv_at hl 2 rfl) ?_
          refine va_get (D := g.1) (ci := 6) (v := .ref d6) (C := RX7) (T := TX7) (N := 19) hx hb hw inlX7 hown hkn.1 hP 0 rfl rfl 11 (by decide) (hw _ mw_78) (fun _ h9 => h9) rfl dX7_tellCells_45 ?_
          refine lv_iload hx hb dX7_tellCells_48 (lv_at hl 0 rfl) ?_
          refine lv_iload_n hx hb dX7_tellCells_50 rfl (lv_at hl 3 rfl) ?_
          refine va_iast hx hb hkn.1 hP hD hS 2 0 rfl rfl (vp_in_nI (n := i) (by omega) (by decide)) dX7_tellCells_51 (fun H locs hP hD hS => ?_)
          rw [nI_clamp (n := i) (by omega)] at hP hD
          have hP : va_P g.1 vwCl [(h0, .inr (6, [.ref d1, .int (nI ln), .long rd, .int (nI dp), .int (nI pq), .ref d2, .int (nI an), .int (nI nx), .ref d3, .ref d4, .ref d5, .ref d6, .int xm, .int (nI zn), .ref d7, .ref d8, .long sd, .ref d9, .ref d0])), (d5, .inl (gI g, 64, .inl (upd f1 i (nI dp)))), (d6, .inl (gI g, 64, .inl (upd f2 i x0)))] H := hP
          have hD : va_D A [(h0, .inr (6, [.ref d1, .int (nI ln), .long rd, .int (nI dp), .int (nI pq), .ref d2, .int (nI an), .int (nI nx), .ref d3, .ref d4, .ref d5, .ref d6, .int xm, .int (nI zn), .ref d7, .ref d8, .long sd, .ref d9, .ref d0])), (d5, .inl (gI g, 64, .inl (upd f1 i (nI dp)))), (d6, .inl (gI g, 64, .inl (upd f2 i x0)))] := hD
          refine lv_iinc (v := (nI (i + 1))) (lv' := [(4, .int (nI (i + 1))), (2, .long (mkM dp pq)), (0, .ref h0), (1, .int x0)]) hx hb dX7_tellCells_52 hl (k := 0) rfl (nI_1 i) (by decide) rfl (fun ls hl => ?_)
          refine lv_goto (tgt := 15) hx hb dX7_tellCells_55 (by decide) ?_
          exact ih_15 (i + 1) (upd f1 i (nI dp)) (upd f2 i x0) (by omega) (by first | (rw [h_f1]; exact tc_y ((bit1_iff _ (by omega)).mp c_2)) | (rw [h_f1]; exact tc_n (fun q => c_2 ((bit1_iff _ (by omega)).mpr q)))) (by first | (rw [h_f2]; exact tc_y ((bit1_iff _ (by omega)).mp c_2)) | (rw [h_f2]; exact tc_n (fun q => c_2 ((bit1_iff _ (by omega)).mpr q)))) (by omega) _ _ hP hD hS ls (lv_sub hl [0, 1, 2, 3] rfl)
  exact lp_15 65 0 da la (by omega) (by funext k; rw [if_neg (by omega)]) (by funext k; rw [if_neg (by omega)]) (by omega) _ _ hP hD hS ls (lv_sub hl [0, 1, 2, 3] rfl)
set_option maxHeartbeats 4000000 in
set_option maxRecDepth 100000 in
theorem c_X7_findWord (l : Launch) (g : GG) (sz : Nat) (h0 : Nat) (v : Int64) (d1 : Nat) (ln : Nat) (rd : Int64) (xd : Int32) (xq : Int32) (d2 : Nat) (an : Nat) (nx : Nat) (d3 : Nat) (d4 : Nat) (d5 : Nat) (d6 : Nat) (xm : Int32) (zn : Nat) (d7 : Nat) (d8 : Nat) (sd : Int64) (d9 : Nat) (d0 : Nat) (le : Nat → Int32) (da : Nat → Int32) (la : Nat → Int32)  : Met l yX7_findWord (Cond.code yX7_findWord cX7_findWord 4 none :: wsL_law) ({ frames := 5, cells := 0, slots := 0, locals := 117 }) (PM g [.ref h0, .long v] [(h0, .inr (6, [.ref d1, .int (nI ln), .long rd, .int xd, .int xq, .ref d2, .int (nI an), .int (nI nx), .ref d3, .ref d4, .ref d5, .ref d6, .int xm, .int (nI zn), .ref d7, .ref d8, .long sd, .ref d9, .ref d0])), (d4, .inl (gI g, 85, .inl le)), (d5, .inl (gI g, 64, .inl da)), (d6, .inl (gI g, 64, .inl la))] sz) (QAv g (fun (u : Int32 × Int32 × (Nat → Int32) × (Nat → Int32) × (Nat → Int32)) => lettQ v (lnS v) u.2.2.1 ∧ toldQ v 64 u.2.2.2.1 u.2.2.2.2 ∧ lnS v ≤ 85) (fun (u : Int32 × Int32 × (Nat → Int32) × (Nat → Int32) × (Nat → Int32)) => [(h0, .inr (6, [.ref d1, .int (nI ln), .long rd, .int u.1, .int u.2.1, .ref d2, .int (nI an), .int (nI nx), .ref d3, .ref d4, .ref d5, .ref d6, .int (nI (lnS v)), .int (nI zn), .ref d7, .ref d8, .long sd, .ref d9, .ref d0])), (d4, .inl (gI g, 85, .inl u.2.2.1)), (d5, .inl (gI g, 64, .inl u.2.2.2.1)), (d6, .inl (gI g, 64, .inl u.2.2.2.2))]) (va_A [(h0, .inr (6, [.ref d1, .int (nI ln), .long rd, .int xd, .int xq, .ref d2, .int (nI an), .int (nI nx), .ref d3, .ref d4, .ref d5, .ref d6, .int xm, .int (nI zn), .ref d7, .ref d8, .long sd, .ref d9, .ref d0])), (d4, .inl (gI g, 85, .inl le)), (d5, .inl (gI g, 64, .inl da)), (d6, .inl (gI g, 64, .inl la))] sz)) 0 0 (va_A [(h0, .inr (6, [.ref d1, .int (nI ln), .long rd, .int xd, .int xq, .ref d2, .int (nI an), .int (nI nx), .ref d3, .ref d4, .ref d5, .ref d6, .int xm, .int (nI zn), .ref d7, .ref d8, .long sd, .ref d9, .ref d0])), (d4, .inl (gI g, 85, .inl le)), (d5, .inl (gI g, 64, .inl da)), (d6, .inl (gI g, 64, .inl la))] sz) := by
  refine Met.M (Qc := fun A => QAv g (fun (u : Int32 × Int32 × (Nat → Int32) × (Nat → Int32) × (Nat → Int32)) => lettQ v (lnS v) u.2.2.1 ∧ toldQ v 64 u.2.2.2.1 u.2.2.2.2 ∧ lnS v ≤ 85) (fun (u : Int32 × Int32 × (Nat → Int32) × (Nat → Int32) × (Nat → Int32)) => [(h0, .inr (6, [.ref d1, .int (nI ln), .long rd, .int u.1, .int u.2.1, .ref d2, .int (nI an), .int (nI nx), .ref d3, .ref d4, .ref d5, .ref d6, .int (nI (lnS v)), .int (nI zn), .ref d7, .ref d8, .long sd, .ref d9, .ref d0])), (d4, .inl (gI g, 85, .inl u.2.2.1)), (d5, .inl (gI g, 64, .inl u.2.2.2.1)), (d6, .inl (gI g, 64, .inl u.2.2.2.2))]) A) (by decide) (Nat.le_of_ble_eq_true rfl) rfl ?_
  intro p e s m below meth c hx hb hr hml hw hown hlocks hin A hA hkn hP hD ls hl
  have hl : lv_has ls 4 [(0, .ref h0), (1, .long v)] := hl
  have hS : va_S A s.heap s.heap [] := va_S.rf
  obtain ⟨H, hHe⟩ : ∃ H, H = s.heap := ⟨_, rfl⟩
  obtain ⟨locs, hLe⟩ : ∃ locs : List Loc, locs = [] := ⟨_, rfl⟩
  have hP : va_P g.1 vwCl [(h0, .inr (6, [.ref d1, .int (nI ln), .long rd, .int xd, .int xq, .ref d2, .int (nI an), .int (nI nx), .ref d3, .ref d4, .ref d5, .ref d6, .int xm, .int (nI zn), .ref d7, .ref d8, .long sd, .ref d9, .ref d0])), (d4, .inl (gI g, 85, .inl le)), (d5, .inl (gI g, 64, .inl da)), (d6, .inl (gI g, 64, .inl la))] H := by rw [hHe]; exact hP
  have hS : va_S A s.heap H locs := by rw [hHe, hLe]; exact hS
  have hgo : W p l e ({ frames := 5, cells := 0, slots := 0, locals := 117 } : Room) s m ([.ref h0, .long v] : List Value).toArray below meth c H locs 0 0 (MQ below (QAv g (fun (u : Int32 × Int32 × (Nat → Int32) × (Nat → Int32) × (Nat → Int32)) => lettQ v (lnS v) u.2.2.1 ∧ toldQ v 64 u.2.2.2.1 u.2.2.2.2 ∧ lnS v ≤ 85) (fun (u : Int32 × Int32 × (Nat → Int32) × (Nat → Int32) × (Nat → Int32)) => [(h0, .inr (6, [.ref d1, .int (nI ln), .long rd, .int u.1, .int u.2.1, .ref d2, .int (nI an), .int (nI nx), .ref d3, .ref d4, .ref d5, .ref d6, .int (nI (lnS v)), .int (nI zn), .ref d7, .ref d8, .long sd, .ref d9, .ref d0])), (d4, .inl (gI g, 85, .inl u.2.2.1)), (d5, .inl (gI g, 64, .inl u.2.2.2.1)), (d6, .inl (gI g, 64, .inl u.2.2.2.2))]) A) ([.ref h0, .long v] : List Value).toArray s 0 0 A) (F0 m 0 ls []) := ?_
  · rw [hHe, hLe] at hgo; exact hgo
  clear hHe hLe
  refine lv_aload_n hx hb dX7_findWord_0 rfl (lv_at hl 0 rfl) ?_
  refine lv_iconst (v := 0) hx hb dX7_findWord_1 (by decide) ?_
  refine va_put (D := g.1) (ci := 6) (v := .int 0) (ty := .int) (C := RX7) (T := TX7) (N := 19) hx hb hw inlX7 tyX7 tyX7_ok nmX7 hown hkn.1 hP hD hS 0 rfl rfl 3 (by decide) (hw _ mw_177) (fun _ h9 => h9) rfl (by decide +kernel) rfl rfl (Nat.le_of_ble_eq_true rfl) dX7_findWord_2 (fun H locs hP hD hS => ?_)
  have hP : va_P g.1 vwCl [(h0, .inr (6, [.ref d1, .int (nI ln), .long rd, .int 0, .int xq, .ref d2, .int (nI an), .int (nI nx), .ref d3, .ref d4, .ref d5, .ref d6, .int xm, .int (nI zn), .ref d7, .ref d8, .long sd, .ref d9, .ref d0])), (d4, .inl (gI g, 85, .inl le)), (d5, .inl (gI g, 64, .inl da)), (d6, .inl (gI g, 64, .inl la))] H := hP
  have hD : va_D A [(h0, .inr (6, [.ref d1, .int (nI ln), .long rd, .int 0, .int xq, .ref d2, .int (nI an), .int (nI nx), .ref d3, .ref d4, .ref d5, .ref d6, .int xm, .int (nI zn), .ref d7, .ref d8, .long sd, .ref d9, .ref d0])), (d4, .inl (gI g, 85, .inl le)), (d5, .inl (gI g, 64, .inl da)), (d6, .inl (gI g, 64, .inl la))] := hD
  refine lv_aload_n hx hb dX7_findWord_5 rfl (lv_at hl 0 rfl) ?_
  refine lv_iconst (v := 0) hx hb dX7_findWord_6 (by decide) ?_
  refine va_put (D := g.1) (ci := 6) (v := .int 0) (ty := .int) (C := RX7) (T := TX7) (N := 19) hx hb hw inlX7 tyX7 tyX7_ok nmX7 hown hkn.1 hP hD hS 0 rfl rfl 4 (by decide) (hw _ mw_178) (fun _ h9 => h9) rfl (by decide +kernel) rfl rfl (Nat.le_of_ble_eq_true rfl) dX7_findWord_7 (fun H locs hP hD hS => ?_)
  have hP : va_P g.1 vwCl [(h0, .inr (6, [.ref d1, .int (nI ln), .long rd, .int 0, .int 0, .ref d2, .int (nI an), .int (nI nx), .ref d3, .ref d4, .ref d5, .ref d6, .int xm, .int (nI zn), .ref d7, .ref d8, .long sd, .ref d9, .ref d0])), (d4, .inl (gI g, 85, .inl le)), (d5, .inl (gI g, 64, .inl da)), (d6, .inl (gI g, 64, .inl la))] H := hP
  have hD : va_D A [(h0, .inr (6, [.ref d1, .int (nI ln), .long rd, .int 0, .int 0, .ref d2, .int (nI an), .int (nI nx), .ref d3, .ref d4, .ref d5, .ref d6, .int xm, .int (nI zn), .ref d7, .ref d8, .long sd, .ref d9, .ref d0])), (d4, .inl (gI g, 85, .inl le)), (d5, .inl (gI g, 64, .inl da)), (d6, .inl (gI g, 64, .inl la))] := hD
  refine lv_aload_n hx hb dX7_findWord_10 rfl (lv_at hl 0 rfl) ?_
  refine lv_iconst (v := 0) hx hb dX7_findWord_11 (by decide) ?_
  refine va_put (D := g.1) (ci := 6) (v := .int 0) (ty := .int) (C := RX7) (T := TX7) (N := 19) hx hb hw inlX7 tyX7 tyX7_ok nmX7 hown hkn.1 hP hD hS 0 rfl rfl 12 (by decide) (hw _ mw_456) (fun _ h9 => h9) rfl (by decide +kernel) rfl rfl (Nat.le_of_ble_eq_true rfl) dX7_findWord_12 (fun H locs hP hD hS => ?_)
  have hP : va_P g.1 vwCl [(h0, .inr (6, [.ref d1, .int (nI ln), .long rd, .int 0, .int 0, .ref d2, .int (nI an), .int (nI nx), .ref d3, .ref d4, .ref d5, .ref d6, .int 0, .int (nI zn), .ref d7, .ref d8, .long sd, .ref d9, .ref d0])), (d4, .inl (gI g, 85, .inl le)), (d5, .inl (gI g, 64, .inl da)), (d6, .inl (gI g, 64, .inl la))] H := hP
  have hD : va_D A [(h0, .inr (6, [.ref d1, .int (nI ln), .long rd, .int 0, .int 0, .ref d2, .int (nI an), .int (nI nx), .ref d3, .ref d4, .ref d5, .ref d6, .int 0, .int (nI zn), .ref d7, .ref d8, .long sd, .ref d9, .ref d0])), (d4, .inl (gI g, 85, .inl le)), (d5, .inl (gI g, 64, .inl da)), (d6, .inl (gI g, 64, .inl la))] := hD
  have lp_15 : ∀ (n_15 : Nat) (i : Nat) (dd : Int32) (qq : Int32) (l1 : Nat → Int32) (f1 : Nat → Int32) (f2 : Nat → Int32) (pw : Nat) (dw : Nat), (wkS v i = (pw, dw)) → (relW dd qq pw dw) → (ancQ v pw dw) → (toldQ v pw f1 f2) → (lettQ v i l1) → (i ≤ ordW pw dw) → (i ≤ 85) → 85 < i + n_15 → ∀ (H : Heap) (locs : List Loc), va_P g.1 vwCl [(h0, .inr (6, [.ref d1, .int (nI ln), .long rd, .int dd, .int qq, .ref d2, .int (nI an), .int (nI nx), .ref d3, .ref d4, .ref d5, .ref d6, .int (nI i), .int (nI zn), .ref d7, .ref d8, .long sd, .ref d9, .ref d0])), (d4, .inl (gI g, 85, .inl l1)), (d5, .inl (gI g, 64, .inl f1)), (d6, .inl (gI g, 64, .inl f2))] H → va_D A [(h0, .inr (6, [.ref d1, .int (nI ln), .long rd, .int dd, .int qq, .ref d2, .int (nI an), .int (nI nx), .ref d3, .ref d4, .ref d5, .ref d6, .int (nI i), .int (nI zn), .ref d7, .ref d8, .long sd, .ref d9, .ref d0])), (d4, .inl (gI g, 85, .inl l1)), (d5, .inl (gI g, 64, .inl f1)), (d6, .inl (gI g, 64, .inl f2))] → va_S A s.heap H locs → ∀ (ls : Array Slot), lv_has ls 4 [(0, .ref h0), (1, .long v)] → W p l e ({ frames := 5, cells := 0, slots := 0, locals := 117 } : Room) s m ([.ref h0, .long v] : List Value).toArray below meth c H locs 0 0 (MQ below (QAv g (fun (u : Int32 × Int32 × (Nat → Int32) × (Nat → Int32) × (Nat → Int32)) => lettQ v (lnS v) u.2.2.1 ∧ toldQ v 64 u.2.2.2.1 u.2.2.2.2 ∧ lnS v ≤ 85) (fun (u : Int32 × Int32 × (Nat → Int32) × (Nat → Int32) × (Nat → Int32)) => [(h0, .inr (6, [.ref d1, .int (nI ln), .long rd, .int u.1, .int u.2.1, .ref d2, .int (nI an), .int (nI nx), .ref d3, .ref d4, .ref d5, .ref d6, .int (nI (lnS v)), .int (nI zn), .ref d7, .ref d8, .long sd, .ref d9, .ref d0])), (d4, .inl (gI g, 85, .inl u.2.2.1)), (d5, .inl (gI g, 64, .inl u.2.2.2.1)), (d6, .inl (gI g, 64, .inl u.2.2.2.2))]) A) ([.ref h0, .long v] : List Value).toArray s 0 0 A) (F0 m 15 ls []) := by
    intro n_15
    induction n_15 with
    | zero => intro i dd qq l1 f1 f2 pw dw h_w h_r h_a h_t h_l h_o h_5 hfu_15; exact absurd hfu_15 (by omega)
    | succ n_15 ih_15 =>
      intro i dd qq l1 f1 f2 pw dw h_w h_r h_a h_t h_l h_o h_5 hfu_15 H locs hP hD hS ls hl
      refine lv_aload_n hx hb dX7_findWord_15 rfl (lv_at hl 0 rfl) ?_
      refine va_get (D := g.1) (ci := 6) (v := .int dd) (C := RX7) (T := TX7) (N := 19) hx hb hw inlX7 hown hkn.1 hP 0 rfl rfl 3 (by decide) (hw _ mw_177) (fun _ h9 => h9) rfl dX7_findWord_16 ?_
      refine lv_bipush (v := (-9)) hx hb dX7_findWord_19 (by decide) ?_
      refine lv_icmp_eq (tgt := 91) hx hb dX7_findWord_21 (by decide) (fun c_1 => ?_) (fun c_1 => ?_)
      · skip
        have hp9 : 64 ≤ pw := (relW_end h_r).mp c_1
        have hpe : pw = 64 := Nat.le_antisymm h_r.1.2.1 hp9
        have hi85 : i ≤ 85 := h_5
        have eL : lnS v = i := lnS_of hi85 (fun j hj => (h_l j hj).1) (by rw [h_w]; exact hp9)
        exact eM_v (g := g) hx hb hr hlocks (dd, qq, l1, f1, f2) (⟨by rw [eL]; exact h_l, by rw [← hpe]; exact h_t, by omega⟩) (show va_P g.1 vwCl [(h0, .inr (6, [.ref d1, .int (nI ln), .long rd, .int dd, .int qq, .ref d2, .int (nI an), .int (nI nx), .ref d3, .ref d4, .ref d5, .ref d6, .int (nI (lnS v)), .int (nI zn), .ref d7, .ref d8, .long sd, .ref d9, .ref d0])), (d4, .inl (gI g, 85, .inl l1)), (d5, .inl (gI g, 64, .inl f1)), (d6, .inl (gI g, 64, .inl f2))] H by rw [eL]; exact hP.sub [0, 1, 2, 3] rfl) (show va_D A [(h0, .inr (6, [.ref d1, .int (nI ln), .long rd, .int dd, .int qq, .ref d2, .int (nI an), .int (nI nx), .ref d3, .ref d4, .ref d5, .ref d6, .int (nI (lnS v)), .int (nI zn), .ref d7, .ref d8, .long sd, .ref d9, .ref d0])), (d4, .inl (gI g, 85, .inl l1)), (d5, .inl (gI g, 64, .inl f1)), (d6, .inl (gI g, 64, .inl f2))] by rw [eL]; exact hD.sub [0, 1, 2, 3] (by decide) rfl) hS dX7_findWord_91
      · skip
        obtain ⟨hp9, rfl, rfl⟩ := relW_nat h_r c_1
        have ho9 := h_r.1
        have hd9 := ho9.1
        have hq9 := pq_lt hd9 hp9
        have hi85 : i < 85 := by have h9 := ord_lt ho9 hp9; omega
        refine lv_aload_n hx hb dX7_findWord_24 rfl (lv_at hl 0 rfl) ?_
        refine lv_lload_n hx hb dX7_findWord_25 rfl (lv_at hl 1 rfl) ?_
        refine cV_i (As := [.long v]) (rest := []) hx hb hml hown hw hkn hS hl (c_X7_leafOf l g _ h0 v d1 ln rd dw (pw / szN dw) d2 an nx d3 d4 d5 d6 (nI i) zn d7 d8 sd d9 d0 (by omega) (by omega) (hP.sub [0] rfl)) vf_X7_leafOf mw_461 (va_recv hkn.1 hP (ci := 6) (q0 := 0) rfl rfl) ⟨(Nat.le_of_ble_eq_true rfl), (Nat.le_of_ble_eq_true rfl)⟩ rfl rfl rfl rfl (Nat.le_of_ble_eq_true rfl) dX7_findWord_26 ⟨(Nat.le_of_ble_eq_true rfl), (Nat.le_of_ble_eq_true rfl)⟩ ?_
        refine lv_eqi (show _ = (sgW v pw dw) from lf_eq ho9 hp9) ?_
        refine lv_istore_n (lv' := [(3, .int (sgW v pw dw)), (0, .ref h0), (1, .long v)]) hx hb dX7_findWord_29 rfl hl (by decide) rfl (fun ls hl => ?_)
        refine lv_aload_n hx hb dX7_findWord_30 rfl (lv_at hl 1 rfl) ?_
        refine va_get (D := g.1) (ci := 6) (v := .ref d4) (C := RX7) (T := TX7) (N := 19) hx hb hw inlX7 hown hkn.1 hP 0 rfl rfl 9 (by decide) (hw _ mw_76) (fun _ h9 => h9) rfl dX7_findWord_31 ?_
        refine lv_aload_n hx hb dX7_findWord_34 rfl (lv_at hl 1 rfl) ?_
        refine va_get (D := g.1) (ci := 6) (v := .int (nI i)) (C := RX7) (T := TX7) (N := 19) hx hb hw inlX7 hown hkn.1 hP 0 rfl rfl 12 (by decide) (hw _ mw_456) (fun _ h9 => h9) rfl dX7_findWord_35 ?_
        refine lv_iload_n hx hb dX7_findWord_38 rfl (lv_at hl 0 rfl) ?_
        refine va_iast hx hb hkn.1 hP hD hS 1 0 rfl rfl (vp_in_nI (n := i) (by omega) (by decide)) dX7_findWord_39 (fun H locs hP hD hS => ?_)
        rw [nI_clamp (n := i) (by omega)] at hP hD
        have hP : va_P g.1 vwCl [(h0, .inr (6, [.ref d1, .int (nI ln), .long rd, .int (nI dw), .int (nI (pw / szN dw)), .ref d2, .int (nI an), .int (nI nx), .ref d3, .ref d4, .ref d5, .ref d6, .int (nI i), .int (nI zn), .ref d7, .ref d8, .long sd, .ref d9, .ref d0])), (d4, .inl (gI g, 85, .inl (upd l1 i (sgW v pw dw)))), (d5, .inl (gI g, 64, .inl f1)), (d6, .inl (gI g, 64, .inl f2))] H := hP
        have hD : va_D A [(h0, .inr (6, [.ref d1, .int (nI ln), .long rd, .int (nI dw), .int (nI (pw / szN dw)), .ref d2, .int (nI an), .int (nI nx), .ref d3, .ref d4, .ref d5, .ref d6, .int (nI i), .int (nI zn), .ref d7, .ref d8, .long sd, .ref d9, .ref d0])), (d4, .inl (gI g, 85, .inl (upd l1 i (sgW v pw dw)))), (d5, .inl (gI g, 64, .inl f1)), (d6, .inl (gI g, 64, .inl f2))] := hD
        refine lv_aload_n hx hb dX7_findWord_40 rfl (lv_at hl 1 rfl) ?_
        refine lv_dup hx hb dX7_findWord_41 rfl ?_
        refine va_get (D := g.1) (ci := 6) (v := .int (nI i)) (C := RX7) (T := TX7) (N := 19) hx hb hw inlX7 hown hkn.1 hP 0 rfl rfl 12 (by decide) (hw _ mw_456) (fun _ h9 => h9) rfl dX7_findWord_42 ?_
        refine lv_iconst (v := 1) hx hb dX7_findWord_45 (by decide) ?_
        refine lv_iadd hx hb dX7_findWord_46 ?_
        refine lv_eqi (nI_add i 1) ?_
        refine va_put (D := g.1) (ci := 6) (v := .int (nI (i + 1))) (ty := .int) (C := RX7) (T := TX7) (N := 19) hx hb hw inlX7 tyX7 tyX7_ok nmX7 hown hkn.1 hP hD hS 0 rfl rfl 12 (by decide) (hw _ mw_456) (fun _ h9 => h9) rfl (by decide +kernel) rfl rfl (Nat.le_of_ble_eq_true rfl) dX7_findWord_47 (fun H locs hP hD hS => ?_)
        have hP : va_P g.1 vwCl [(h0, .inr (6, [.ref d1, .int (nI ln), .long rd, .int (nI dw), .int (nI (pw / szN dw)), .ref d2, .int (nI an), .int (nI nx), .ref d3, .ref d4, .ref d5, .ref d6, .int (nI (i + 1)), .int (nI zn), .ref d7, .ref d8, .long sd, .ref d9, .ref d0])), (d4, .inl (gI g, 85, .inl (upd l1 i (sgW v pw dw)))), (d5, .inl (gI g, 64, .inl f1)), (d6, .inl (gI g, 64, .inl f2))] H := hP
        have hD : va_D A [(h0, .inr (6, [.ref d1, .int (nI ln), .long rd, .int (nI dw), .int (nI (pw / szN dw)), .ref d2, .int (nI an), .int (nI nx), .ref d3, .ref d4, .ref d5, .ref d6, .int (nI (i + 1)), .int (nI zn), .ref d7, .ref d8, .long sd, .ref d9, .ref d0])), (d4, .inl (gI g, 85, .inl (upd l1 i (sgW v pw dw)))), (d5, .inl (gI g, 64, .inl f1)), (d6, .inl (gI g, 64, .inl f2))] := hD
        refine lv_iload_n hx hb dX7_findWord_50 rfl (lv_at hl 0 rfl) ?_
        refine lv_bipush (v := 113) hx hb dX7_findWord_51 (by decide) ?_
        refine lv_icmp_ne (tgt := 79) hx hb dX7_findWord_53 (by decide) (fun c_2 => ?_) (fun c_2 => ?_)
        · skip
          refine lv_aload_n hx hb dX7_findWord_79 rfl (lv_at hl 1 rfl) ?_
          refine lv_iload_n hx hb dX7_findWord_80 rfl (lv_at hl 0 rfl) ?_
          refine cVM_v (As := [.int (sgW v pw dw)]) (rest := []) (q0 := 0) (wc := [(h0, .inr (6, [.ref d1, .int (nI ln), .long rd, .int (nI dw), .int (nI (pw / szN dw)), .ref d2, .int (nI an), .int (nI nx), .ref d3, .ref d4, .ref d5, .ref d6, .int (nI (i + 1)), .int (nI zn), .ref d7, .ref d8, .long sd, .ref d9, .ref d0])), (d5, .inl (gI g, 64, .inl f1)), (d6, .inl (gI g, 64, .inl f2))]) (wr := [(d4, .inl (gI g, 85, .inl (upd l1 i (sgW v pw dw))))]) hx hb hml hown hw hkn hS hl hA hP hD [0, 2, 3] [1] rfl rfl (by decide) (by decide) (by decide) (c_X7_tellCells l g _ h0 (sgW v pw dw) d1 ln rd dw (pw / szN dw) d2 an nx d3 d4 d5 d6 (nI (i + 1)) zn d7 d8 sd d9 d0 f1 f2 (by omega) (by omega)) vf_X7_tellCells mw_468 rfl rfl ⟨(Nat.le_of_ble_eq_true rfl), (Nat.le_of_ble_eq_true rfl)⟩ rfl rfl rfl rfl (Nat.le_of_ble_eq_true rfl) dX7_findWord_81 ⟨(Nat.le_of_ble_eq_true rfl), (Nat.le_of_ble_eq_true rfl)⟩ (fun u H locs hq hP hD hS => ?_)
          have hP : va_P g.1 vwCl [(h0, .inr (6, [.ref d1, .int (nI ln), .long rd, .int (nI dw), .int (nI (pw / szN dw)), .ref d2, .int (nI an), .int (nI nx), .ref d3, .ref d4, .ref d5, .ref d6, .int (nI (i + 1)), .int (nI zn), .ref d7, .ref d8, .long sd, .ref d9, .ref d0])), (d4, .inl (gI g, 85, .inl (upd l1 i (sgW v pw dw)))), (d5, .inl (gI g, 64, .inl (tcF (mkM dw (pw / szN dw)) (nI dw) f1))), (d6, .inl (gI g, 64, .inl (tcF (mkM dw (pw / szN dw)) (sgW v pw dw) f2)))] H := hP.sub [1, 0, 2, 3] rfl
          have hD : va_D A [(h0, .inr (6, [.ref d1, .int (nI ln), .long rd, .int (nI dw), .int (nI (pw / szN dw)), .ref d2, .int (nI an), .int (nI nx), .ref d3, .ref d4, .ref d5, .ref d6, .int (nI (i + 1)), .int (nI zn), .ref d7, .ref d8, .long sd, .ref d9, .ref d0])), (d4, .inl (gI g, 85, .inl (upd l1 i (sgW v pw dw)))), (d5, .inl (gI g, 64, .inl (tcF (mkM dw (pw / szN dw)) (nI dw) f1))), (d6, .inl (gI g, 64, .inl (tcF (mkM dw (pw / szN dw)) (sgW v pw dw) f2)))] := hD.sub [1, 0, 2, 3] (by decide) rfl
          refine lv_aload_n hx hb dX7_findWord_84 rfl (lv_at hl 1 rfl) ?_
          refine cVM_v (As := []) (rest := []) (q0 := 0) (wc := [(h0, .inr (6, [.ref d1, .int (nI ln), .long rd, .int (nI dw), .int (nI (pw / szN dw)), .ref d2, .int (nI an), .int (nI nx), .ref d3, .ref d4, .ref d5, .ref d6, .int (nI (i + 1)), .int (nI zn), .ref d7, .ref d8, .long sd, .ref d9, .ref d0]))]) (wr := [(d4, .inl (gI g, 85, .inl (upd l1 i (sgW v pw dw)))), (d5, .inl (gI g, 64, .inl (tcF (mkM dw (pw / szN dw)) (nI dw) f1))), (d6, .inl (gI g, 64, .inl (tcF (mkM dw (pw / szN dw)) (sgW v pw dw) f2)))]) hx hb hml hown hw hkn hS hl hA hP hD [0] [1, 2, 3] rfl rfl (by decide) (by decide) (by decide) (c_X7_goOn l g _ h0 d1 ln rd dw (pw / szN dw) d2 an nx d3 d4 d5 d6 (nI (i + 1)) zn d7 d8 sd d9 d0 (by omega) (by omega)) vf_X7_goOn mw_199 rfl rfl ⟨(Nat.le_of_ble_eq_true rfl), (Nat.le_of_ble_eq_true rfl)⟩ rfl rfl rfl rfl (Nat.le_of_ble_eq_true rfl) dX7_findWord_85 ⟨(Nat.le_of_ble_eq_true rfl), (Nat.le_of_ble_eq_true rfl)⟩ (fun u H locs hq hP hD hS => ?_)
          have hP : va_P g.1 vwCl [(h0, .inr (6, [.ref d1, .int (nI ln), .long rd, .int (gdI dw (pw / szN dw)), .int (gpI dw (pw / szN dw)), .ref d2, .int (nI an), .int (nI nx), .ref d3, .ref d4, .ref d5, .ref d6, .int (nI (i + 1)), .int (nI zn), .ref d7, .ref d8, .long sd, .ref d9, .ref d0])), (d4, .inl (gI g, 85, .inl (upd l1 i (sgW v pw dw)))), (d5, .inl (gI g, 64, .inl (tcF (mkM dw (pw / szN dw)) (nI dw) f1))), (d6, .inl (gI g, 64, .inl (tcF (mkM dw (pw / szN dw)) (sgW v pw dw) f2)))] H := hP.sub [3, 0, 1, 2] rfl
          have hD : va_D A [(h0, .inr (6, [.ref d1, .int (nI ln), .long rd, .int (gdI dw (pw / szN dw)), .int (gpI dw (pw / szN dw)), .ref d2, .int (nI an), .int (nI nx), .ref d3, .ref d4, .ref d5, .ref d6, .int (nI (i + 1)), .int (nI zn), .ref d7, .ref d8, .long sd, .ref d9, .ref d0])), (d4, .inl (gI g, 85, .inl (upd l1 i (sgW v pw dw)))), (d5, .inl (gI g, 64, .inl (tcF (mkM dw (pw / szN dw)) (nI dw) f1))), (d6, .inl (gI g, 64, .inl (tcF (mkM dw (pw / szN dw)) (sgW v pw dw) f2)))] := hD.sub [3, 0, 1, 2] (by decide) rfl
          have hl9 : lettQ v (i + 1) (upd l1 i (sgW v pw dw)) := lett_s h_l (by rw [h_w]; exact hp9) (by rw [h_w])
          have e0 : stW v pw dw = (pw + szN dw, psN (pw + szN dw) dw) := if_neg (fun q => c_2 q.1)
          have hr9 : relW (gdI dw (pw / szN dw)) (gpI dw (pw / szN dw)) (stW v pw dw).1 (stW v pw dw).2 := by rw [e0]; exact relW_go ho9 hp9
          have ha9 : ancQ v (stW v pw dw).1 (stW v pw dw).2 := by rw [e0]; exact anc_go ho9 hp9 h_a
          have ht9 : toldQ v (stW v pw dw).1 (tcF (mkM dw (pw / szN dw)) (nI dw) f1) (tcF (mkM dw (pw / szN dw)) (sgW v pw dw) f2) := by rw [e0, mk_eq ho9 hp9]; exact told_go ho9 hp9 h_a c_2 h_t
          refine lv_goto (tgt := 15) hx hb dX7_findWord_88 (by decide) ?_
          exact ih_15 (i + 1) (gdI dw (pw / szN dw)) (gpI dw (pw / szN dw)) (upd l1 i (sgW v pw dw)) (tcF (mkM dw (pw / szN dw)) (nI dw) f1) (tcF (mkM dw (pw / szN dw)) (sgW v pw dw) f2) ((stW v pw dw).1) ((stW v pw dw).2) (by show stW v (wkS v i).1 (wkS v i).2 = _; rw [h_w]) (hr9) (ha9) (ht9) (hl9) (by have h9 := ord_st (v := v) ho9 hp9; omega) (by omega) (by omega) _ _ hP hD hS ls (lv_sub hl [1, 2] rfl)
        · skip
          refine lv_aload_n hx hb dX7_findWord_56 rfl (lv_at hl 1 rfl) ?_
          refine lv_dup hx hb dX7_findWord_57 rfl ?_
          refine va_get (D := g.1) (ci := 6) (v := .int (nI dw)) (C := RX7) (T := TX7) (N := 19) hx hb hw inlX7 hown hkn.1 hP 0 rfl rfl 3 (by decide) (hw _ mw_177) (fun _ h9 => h9) rfl dX7_findWord_58 ?_
          refine lv_iconst (v := 1) hx hb dX7_findWord_61 (by decide) ?_
          refine lv_iadd hx hb dX7_findWord_62 ?_
          refine lv_eqi (nI_add dw 1) ?_
          refine va_put (D := g.1) (ci := 6) (v := .int (nI (dw + 1))) (ty := .int) (C := RX7) (T := TX7) (N := 19) hx hb hw inlX7 tyX7 tyX7_ok nmX7 hown hkn.1 hP hD hS 0 rfl rfl 3 (by decide) (hw _ mw_177) (fun _ h9 => h9) rfl (by decide +kernel) rfl rfl (Nat.le_of_ble_eq_true rfl) dX7_findWord_63 (fun H locs hP hD hS => ?_)
          have hP : va_P g.1 vwCl [(h0, .inr (6, [.ref d1, .int (nI ln), .long rd, .int (nI (dw + 1)), .int (nI (pw / szN dw)), .ref d2, .int (nI an), .int (nI nx), .ref d3, .ref d4, .ref d5, .ref d6, .int (nI (i + 1)), .int (nI zn), .ref d7, .ref d8, .long sd, .ref d9, .ref d0])), (d4, .inl (gI g, 85, .inl (upd l1 i (sgW v pw dw)))), (d5, .inl (gI g, 64, .inl f1)), (d6, .inl (gI g, 64, .inl f2))] H := hP
          have hD : va_D A [(h0, .inr (6, [.ref d1, .int (nI ln), .long rd, .int (nI (dw + 1)), .int (nI (pw / szN dw)), .ref d2, .int (nI an), .int (nI nx), .ref d3, .ref d4, .ref d5, .ref d6, .int (nI (i + 1)), .int (nI zn), .ref d7, .ref d8, .long sd, .ref d9, .ref d0])), (d4, .inl (gI g, 85, .inl (upd l1 i (sgW v pw dw)))), (d5, .inl (gI g, 64, .inl f1)), (d6, .inl (gI g, 64, .inl f2))] := hD
          refine lv_aload_n hx hb dX7_findWord_66 rfl (lv_at hl 1 rfl) ?_
          refine lv_dup hx hb dX7_findWord_67 rfl ?_
          refine va_get (D := g.1) (ci := 6) (v := .int (nI (pw / szN dw))) (C := RX7) (T := TX7) (N := 19) hx hb hw inlX7 hown hkn.1 hP 0 rfl rfl 4 (by decide) (hw _ mw_178) (fun _ h9 => h9) rfl dX7_findWord_68 ?_
          refine lv_iconst (v := 4) hx hb dX7_findWord_71 (by decide) ?_
          refine lv_imul hx hb dX7_findWord_72 ?_
          refine lv_eqi (pk_mul (pw / szN dw) 4) ?_
          refine va_put (D := g.1) (ci := 6) (v := .int (nI ((pw / szN dw) * 4))) (ty := .int) (C := RX7) (T := TX7) (N := 19) hx hb hw inlX7 tyX7 tyX7_ok nmX7 hown hkn.1 hP hD hS 0 rfl rfl 4 (by decide) (hw _ mw_178) (fun _ h9 => h9) rfl (by decide +kernel) rfl rfl (Nat.le_of_ble_eq_true rfl) dX7_findWord_73 (fun H locs hP hD hS => ?_)
          have hP : va_P g.1 vwCl [(h0, .inr (6, [.ref d1, .int (nI ln), .long rd, .int (nI (dw + 1)), .int (nI ((pw / szN dw) * 4)), .ref d2, .int (nI an), .int (nI nx), .ref d3, .ref d4, .ref d5, .ref d6, .int (nI (i + 1)), .int (nI zn), .ref d7, .ref d8, .long sd, .ref d9, .ref d0])), (d4, .inl (gI g, 85, .inl (upd l1 i (sgW v pw dw)))), (d5, .inl (gI g, 64, .inl f1)), (d6, .inl (gI g, 64, .inl f2))] H := hP
          have hD : va_D A [(h0, .inr (6, [.ref d1, .int (nI ln), .long rd, .int (nI (dw + 1)), .int (nI ((pw / szN dw) * 4)), .ref d2, .int (nI an), .int (nI nx), .ref d3, .ref d4, .ref d5, .ref d6, .int (nI (i + 1)), .int (nI zn), .ref d7, .ref d8, .long sd, .ref d9, .ref d0])), (d4, .inl (gI g, 85, .inl (upd l1 i (sgW v pw dw)))), (d5, .inl (gI g, 64, .inl f1)), (d6, .inl (gI g, 64, .inl f2))] := hD
          refine lv_goto (tgt := 88) hx hb dX7_findWord_76 (by decide) ?_
          have hl9 : lettQ v (i + 1) (upd l1 i (sgW v pw dw)) := lett_s h_l (by rw [h_w]; exact hp9) (by rw [h_w])
          have hd8 : dw < 3 := Nat.lt_of_le_of_ne hd9 (fun q => sg3 hp9 (by rw [← q]; exact c_2))
          have e0 : stW v pw dw = (pw, dw + 1) := if_pos ⟨c_2, hd8⟩
          have hr9 : relW (nI (dw + 1)) (nI (pw / szN dw * 4)) (stW v pw dw).1 (stW v pw dw).2 := by rw [e0]; have h9 := relW_cut h_r hp9 hd8; rw [show nI dw + 1 = nI (dw + 1) from nI_1 dw, show nI (pw / szN dw) * 4 = nI (pw / szN dw * 4) from pk_mul _ 4] at h9; exact h9
          have ha9 : ancQ v (stW v pw dw).1 (stW v pw dw).2 := by rw [e0]; exact anc_cut h_a c_2
          have ht9 : toldQ v (stW v pw dw).1 f1 f2 := by rw [e0]; exact h_t
          refine lv_goto (tgt := 15) hx hb dX7_findWord_88 (by decide) ?_
          exact ih_15 (i + 1) (nI (dw + 1)) (nI ((pw / szN dw) * 4)) (upd l1 i (sgW v pw dw)) f1 f2 ((stW v pw dw).1) ((stW v pw dw).2) (by show stW v (wkS v i).1 (wkS v i).2 = _; rw [h_w]) (hr9) (ha9) (ht9) (hl9) (by have h9 := ord_st (v := v) ho9 hp9; omega) (by omega) (by omega) _ _ hP hD hS ls (lv_sub hl [1, 2] rfl)
  exact lp_15 86 0 0 0 le da la 0 0 (rfl) (relW_0) (fun _ x h => absurd h (Nat.not_lt_zero x)) (fun k _ h => absurd h (Nat.not_lt_zero _)) (fun j h => absurd h (Nat.not_lt_zero j)) (by omega) (by omega) (by omega) _ _ hP hD hS ls (lv_sub hl [0, 1] rfl)
