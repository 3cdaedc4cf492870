set_option maxHeartbeats 4000000 in
set_option maxRecDepth 100000 in
theorem c_X7_partsOf (l : Launch) (g : GG) (H : Heap) (v : Int64)  : Met l yX7_partsOf (Cond.code yX7_partsOf cX7_partsOf 9 (some .int) :: wsL_law) ({ frames := 0, cells := 0, slots := 0, locals := 0 }) (PR g [.long v] H) (QRi (nI (paS v)) H) 0 0 NoA := by
  refine Met.R (by decide) (Nat.le_of_ble_eq_true rfl) rfl ?_
  intro p e s m below meth c hx hb hr hml hw hown hlocks hkn hH ls hl
  subst hH
  have hl : lv_has ls 9 [(0, .long v)] := hl
  have hS : va_S NoA s.heap s.heap [] := va_S.rf
  refine lv_lload_n hx hb dX7_partsOf_0 rfl (lv_at hl 0 rfl) ?_
  refine lv_lstore_n (lv' := [(2, .long v), (0, .long v)]) hx hb dX7_partsOf_1 rfl hl (by decide) rfl (fun ls hl => ?_)
  refine lv_iconst (v := 0) hx hb dX7_partsOf_2 (by decide) ?_
  refine lv_istore (lv' := [(4, .int 0), (2, .long v), (0, .long v)]) hx hb dX7_partsOf_3 hl (by decide) rfl (fun ls hl => ?_)
  have lp_5 : ∀ (n_5 : Nat) (a : Int64) (n0 : Nat), (paG 64 a n0 = paG 64 v 0) → pcn a < n_5 → ∀ (ls : Array Slot), lv_has ls 9 [(4, .int (nI n0)), (2, .long a), (0, .long v)] → W p l e ({ frames := 0, cells := 0, slots := 0, locals := 0 } : Room) s m ([.long v] : List Value).toArray below meth c s.heap [] 0 0 (MQ below (QRi (nI (paS v)) s.heap) ([.long v] : List Value).toArray s 0 0 NoA) (F0 m 5 ls []) := by
    intro n_5
    induction n_5 with
    | zero => intro a n0 h_a hfu_5; exact absurd hfu_5 (by omega)
    | succ n_5 ih_5 =>
      intro a n0 h_a hfu_5 ls hl
      refine lv_lload_n hx hb dX7_partsOf_5 rfl (lv_at hl 1 rfl) ?_
      refine lv_lconst (v := 0) hx hb dX7_partsOf_6 rfl ?_
      refine lc_eq (tgt := 86) hx hb dX7_partsOf_7 dX7_partsOf_8 (by decide) (fun c_1 => ?_) (fun c_1 => ?_)
      · skip
        refine lv_iload hx hb dX7_partsOf_86 (lv_at hl 0 rfl) ?_
        exact eR_i hx hb hr hlocks (by rw [c_1] at h_a; exact congrArg nI h_a) dX7_partsOf_88
      · skip
        refine lv_lload_n hx hb dX7_partsOf_11 rfl (lv_at hl 1 rfl) ?_
        refine lv_lload_n hx hb dX7_partsOf_12 rfl (lv_at hl 1 rfl) ?_
        refine lv_lneg hx hb dX7_partsOf_13 ?_
        refine lv_land hx hb dX7_partsOf_14 ?_
        refine lv_lstore (lv' := [(5, .long (a &&& (-a))), (4, .int (nI n0)), (2, .long a), (0, .long v)]) hx hb dX7_partsOf_15 hl (by decide) rfl (fun ls hl => ?_)
        refine lv_lconst (v := 0) hx hb dX7_partsOf_17 rfl ?_
        refine lv_lstore (lv' := [(7, .long 0), (5, .long (a &&& (-a))), (4, .int (nI n0)), (2, .long a), (0, .long v)]) hx hb dX7_partsOf_18 hl (by decide) rfl (fun ls hl => ?_)
        have lp_20 : ∀ (n_20 : Nat) (b : Int64) (d : Int64), (subS b a) → (poS a b = poS a (a &&& -a)) → (b = d → ngS a b = b) → muS b d < n_20 → ∀ (ls : Array Slot), lv_has ls 9 [(7, .long d), (5, .long b), (4, .int (nI n0)), (2, .long a), (0, .long v)] → W p l e ({ frames := 0, cells := 0, slots := 0, locals := 0 } : Room) s m ([.long v] : List Value).toArray below meth c s.heap [] 0 0 (MQ below (QRi (nI (paS v)) s.heap) ([.long v] : List Value).toArray s 0 0 NoA) (F0 m 20 ls []) := by
          intro n_20
          induction n_20 with
          | zero => intro b d h_s h_p h_x hfu_20; exact absurd hfu_20 (by omega)
          | succ n_20 ih_20 =>
            intro b d h_s h_p h_x hfu_20 ls hl
            refine lv_lload hx hb dX7_partsOf_20 (lv_at hl 1 rfl) ?_
            refine lv_lload hx hb dX7_partsOf_22 (lv_at hl 0 rfl) ?_
            refine lc_eq (tgt := 71) hx hb dX7_partsOf_24 dX7_partsOf_25 (by decide) (fun c_2 => ?_) (fun c_2 => ?_)
            · skip
              have hP9 : b = poS a (a &&& -a) := by rw [← h_p]; exact (po_fix (h_x c_2)).symm
              refine lv_lload_n hx hb dX7_partsOf_71 rfl (lv_at hl 3 rfl) ?_
              refine lv_lload hx hb dX7_partsOf_72 (lv_at hl 1 rfl) ?_
              refine lv_ldc2 hx hb hown (hw _ mw_280) dX7_partsOf_74 ?_
              refine lv_lxor hx hb dX7_partsOf_77 ?_
              refine lv_land hx hb dX7_partsOf_78 ?_
              refine lv_lstore_n (lv' := [(2, .long (a &&& (b ^^^ (-1)))), (7, .long d), (5, .long b), (4, .int (nI n0)), (0, .long v)]) hx hb dX7_partsOf_79 rfl hl (by decide) rfl (fun ls hl => ?_)
              refine lv_iinc (v := (nI (n0 + 1))) (lv' := [(4, .int (nI (n0 + 1))), (2, .long (a &&& (b ^^^ (-1)))), (7, .long d), (5, .long b), (0, .long v)]) hx hb dX7_partsOf_80 hl (k := 3) rfl (nI_1 n0) (by decide) rfl (fun ls hl => ?_)
              refine lv_goto (tgt := 5) hx hb dX7_partsOf_83 (by decide) ?_
              exact ih_5 (a &&& (b ^^^ (-1))) (n0 + 1) (by rw [hP9, pa_step c_1]; exact h_a) (by rw [hP9]; have h9 := pa_dec c_1; omega) ls (lv_sub hl [0, 1, 4] rfl)
            · skip
              refine lv_lload hx hb dX7_partsOf_28 (lv_at hl 1 rfl) ?_
              refine lv_lstore (lv' := [(7, .long b), (5, .long b), (4, .int (nI n0)), (2, .long a), (0, .long v)]) hx hb dX7_partsOf_30 hl (by decide) rfl (fun ls hl => ?_)
              refine lv_lload hx hb dX7_partsOf_32 (lv_at hl 1 rfl) ?_
              refine lv_lload hx hb dX7_partsOf_34 (lv_at hl 1 rfl) ?_
              refine lv_bipush (v := 8) hx hb dX7_partsOf_36 (by decide) ?_
              refine lv_lshl (v := (jshl b 8)) hx hb dX7_partsOf_38 rfl ?_
              refine lv_lload hx hb dX7_partsOf_39 (lv_at hl 1 rfl) ?_
              refine lv_bipush (v := 8) hx hb dX7_partsOf_41 (by decide) ?_
              refine lv_lushr (v := (jushr b 8)) hx hb dX7_partsOf_43 rfl ?_
              refine lv_lor hx hb dX7_partsOf_44 ?_
              refine lv_lload hx hb dX7_partsOf_45 (lv_at hl 1 rfl) ?_
              refine lv_iconst (v := 1) hx hb dX7_partsOf_47 (by decide) ?_
              refine lv_lshl (v := (jshl b 1)) hx hb dX7_partsOf_48 rfl ?_
              refine lv_ldc2 hx hb hown (hw _ mw_475) dX7_partsOf_49 ?_
              refine lv_land hx hb dX7_partsOf_52 ?_
              refine lv_lor hx hb dX7_partsOf_53 ?_
              refine lv_lload hx hb dX7_partsOf_54 (lv_at hl 1 rfl) ?_
              refine lv_iconst (v := 1) hx hb dX7_partsOf_56 (by decide) ?_
              refine lv_lushr (v := (jushr b 1)) hx hb dX7_partsOf_57 rfl ?_
              refine lv_ldc2 hx hb hown (hw _ mw_476) dX7_partsOf_58 ?_
              refine lv_land hx hb dX7_partsOf_61 ?_
              refine lv_lor hx hb dX7_partsOf_62 ?_
              refine lv_lload_n hx hb dX7_partsOf_63 rfl (lv_at hl 3 rfl) ?_
              refine lv_land hx hb dX7_partsOf_64 ?_
              refine lv_lor hx hb dX7_partsOf_65 ?_
              refine lv_eql (show _ = (ngS a b) from nb_eq h_s) ?_
              refine lv_lstore (lv' := [(5, .long (ngS a b)), (7, .long b), (4, .int (nI n0)), (2, .long a), (0, .long v)]) hx hb dX7_partsOf_66 hl (by decide) rfl (fun ls hl => ?_)
              refine lv_goto (tgt := 20) hx hb dX7_partsOf_68 (by decide) ?_
              exact ih_20 (ngS a b) b (ng_sub) (by rw [po_step h_s]; exact h_p) (fun q => by rw [q, q]) (by have h9 := mu_dec h_s c_2; omega) ls (lv_sub hl [1, 0, 2, 3, 4] rfl)
        exact lp_20 (muS (a &&& -a) 0 + 1) (a &&& (-a)) 0 (low_sub a) (rfl) (fun q => absurd q (low_ne c_1)) (Nat.lt_succ_self _) ls (lv_sub hl [0, 1, 2, 3, 4] rfl)
  exact lp_5 (pcn v + 1) v 0 (rfl) (by omega) ls (lv_sub hl [0, 1, 2] rfl)
set_option maxHeartbeats 4000000 in
set_option maxRecDepth 100000 in
theorem c_X7_write (l : Launch) (g : GG) (sz : Nat) (h0 : Nat) (x0 : Int32) (d1 : Nat) (ln : Nat) (rd : Int64) (xd : Int32) (xq : Int32) (d2 : Nat) (an : Nat) (nx : Nat) (d3 : Nat) (d4 : Nat) (d5 : Nat) (d6 : Nat) (xm : Int32) (zn : Nat) (d7 : Nat) (d8 : Nat) (sd : Int64) (d9 : Nat) (d0 : Nat) (tl : Nat → Int32) (hln : ln ≤ 64) : Met l yX7_write (Cond.code yX7_write cX7_write 2 (some .int) :: wsL_law) ({ frames := 1, cells := 0, slots := 0, locals := 25 }) (PM g [.ref h0, .int x0] [(h0, .inr (6, [.ref d1, .int (nI ln), .long rd, .int xd, .int xq, .ref d2, .int (nI an), .int (nI nx), .ref d3, .ref d4, .ref d5, .ref d6, .int xm, .int (nI zn), .ref d7, .ref d8, .long sd, .ref d9, .ref d0])), (d1, .inl (gI g, 64, .inl tl))] sz) (QAi g (fun (r : Int32) (u : Unit) => r = qWr x0 ln) (fun (u : Unit) => [(h0, .inr (6, [.ref d1, .int (nI (cond (qWrB x0) (taN ln) ln)), .long rd, .int xd, .int xq, .ref d2, .int (nI an), .int (nI nx), .ref d3, .ref d4, .ref d5, .ref d6, .int xm, .int (nI zn), .ref d7, .ref d8, .long sd, .ref d9, .ref d0])), (d1, .inl (gI g, 64, .inl (cond (qWrB x0) (taF ln tl x0) tl)))]) (va_A [(h0, .inr (6, [.ref d1, .int (nI ln), .long rd, .int xd, .int xq, .ref d2, .int (nI an), .int (nI nx), .ref d3, .ref d4, .ref d5, .ref d6, .int xm, .int (nI zn), .ref d7, .ref d8, .long sd, .ref d9, .ref d0])), (d1, .inl (gI g, 64, .inl tl))] sz)) 0 0 (va_A [(h0, .inr (6, [.ref d1, .int (nI ln), .long rd, .int xd, .int xq, .ref d2, .int (nI an), .int (nI nx), .ref d3, .ref d4, .ref d5, .ref d6, .int xm, .int (nI zn), .ref d7, .ref d8, .long sd, .ref d9, .ref d0])), (d1, .inl (gI g, 64, .inl tl))] sz) := by
  refine Met.M (Qc := fun A => QAi g (fun (r : Int32) (u : Unit) => r = qWr x0 ln) (fun (u : Unit) => [(h0, .inr (6, [.ref d1, .int (nI (cond (qWrB x0) (taN ln) ln)), .long rd, .int xd, .int xq, .ref d2, .int (nI an), .int (nI nx), .ref d3, .ref d4, .ref d5, .ref d6, .int xm, .int (nI zn), .ref d7, .ref d8, .long sd, .ref d9, .ref d0])), (d1, .inl (gI g, 64, .inl (cond (qWrB x0) (taF ln tl x0) tl)))]) A) (by decide) (Nat.le_of_ble_eq_true rfl) rfl ?_
  intro p e s m below meth c hx hb hr hml hw hown hlocks hin A hA hkn hP hD ls hl
  have hl : lv_has ls 2 [(0, .ref h0), (1, .int x0)] := hl
  have hS : va_S A s.heap s.heap [] := va_S.rf
  obtain ⟨H, hHe⟩ : ∃ H, H = s.heap := ⟨_, rfl⟩
  obtain ⟨locs, hLe⟩ : ∃ locs : List Loc, locs = [] := ⟨_, rfl⟩
  have hP : va_P g.1 vwCl [(h0, .inr (6, [.ref d1, .int (nI ln), .long rd, .int xd, .int xq, .ref d2, .int (nI an), .int (nI nx), .ref d3, .ref d4, .ref d5, .ref d6, .int xm, .int (nI zn), .ref d7, .ref d8, .long sd, .ref d9, .ref d0])), (d1, .inl (gI g, 64, .inl tl))] H := by rw [hHe]; exact hP
  have hS : va_S A s.heap H locs := by rw [hHe, hLe]; exact hS
  have hgo : W p l e ({ frames := 1, cells := 0, slots := 0, locals := 25 } : Room) s m ([.ref h0, .int x0] : List Value).toArray below meth c H locs 0 0 (MQ below (QAi g (fun (r : Int32) (u : Unit) => r = qWr x0 ln) (fun (u : Unit) => [(h0, .inr (6, [.ref d1, .int (nI (cond (qWrB x0) (taN ln) ln)), .long rd, .int xd, .int xq, .ref d2, .int (nI an), .int (nI nx), .ref d3, .ref d4, .ref d5, .ref d6, .int xm, .int (nI zn), .ref d7, .ref d8, .long sd, .ref d9, .ref d0])), (d1, .inl (gI g, 64, .inl (cond (qWrB x0) (taF ln tl x0) tl)))]) A) ([.ref h0, .int x0] : List Value).toArray s 0 0 A) (F0 m 0 ls []) := ?_
  · rw [hHe, hLe] at hgo; exact hgo
  clear hHe hLe
  refine lv_iload_n hx hb dX7_write_0 rfl (lv_at hl 1 rfl) ?_
  refine lv_i2l hx hb dX7_write_1 rfl ?_
  refine lv_lconst (v := 0) hx hb dX7_write_2 rfl ?_
  refine lv_ldc2 hx hb hown (hw _ mw_99) dX7_write_3 ?_
  refine cS_i (As := [.long ((x0).toInt64), .long 0, .long 255]) (rest := []) hx hb hml hown hw hkn hS hl (c_X7_in l g _ ((x0).toInt64) 0 255 ) sf_X7_in mw_101 ⟨(Nat.le_of_ble_eq_true rfl), (Nat.le_of_ble_eq_true rfl)⟩ rfl rfl rfl rfl (Nat.le_of_ble_eq_true rfl) dX7_write_6 ⟨(Nat.le_of_ble_eq_true rfl), (Nat.le_of_ble_eq_true rfl)⟩ ?_
  refine lv_eqi (show _ = b2i (qWrB x0) from congrArg b2i ((inU (a := 0) (b := 255)).trans (by unfold qWrB; apply decide_eq_decide.mpr; rw [Int32.not_lt (a := 255) (b := x0)]))) ?_
  refine lv_ifneB (b := qWrB x0) (tgt := 15) hx hb dX7_write_9 (by decide) (fun c_1 => ?_) (fun c_1 => ?_)
  · skip
    refine lv_aload_n hx hb dX7_write_15 rfl (lv_at hl 0 rfl) ?_
    refine va_get (D := g.1) (ci := 6) (v := .int (nI ln)) (C := RX7) (T := TX7) (N := 19) hx hb hw inlX7 hown hkn.1 hP 0 rfl rfl 1 (by decide) (hw _ mw_100) (fun _ h9 => h9) rfl dX7_write_16 ?_
    refine lv_bipush (v := 64) hx hb dX7_write_19 (by decide) ?_
    refine ic_ne (a := ln) (d := 64) (tgt := 27) hx hb dX7_write_21 (by decide) rfl rfl (by omega) (by omega) (fun c_2 => ?_) (fun c_2 => ?_)
    · skip
      refine lv_aload_n hx hb dX7_write_27 rfl (lv_at hl 0 rfl) ?_
      refine va_get (D := g.1) (ci := 6) (v := .ref d1) (C := RX7) (T := TX7) (N := 19) hx hb hw inlX7 hown hkn.1 hP 0 rfl rfl 0 (by decide) (hw _ mw_73) (fun _ h9 => h9) rfl dX7_write_28 ?_
      refine lv_aload_n hx hb dX7_write_31 rfl (lv_at hl 0 rfl) ?_
      refine va_get (D := g.1) (ci := 6) (v := .int (nI ln)) (C := RX7) (T := TX7) (N := 19) hx hb hw inlX7 hown hkn.1 hP 0 rfl rfl 1 (by decide) (hw _ mw_100) (fun _ h9 => h9) rfl dX7_write_32 ?_
      refine lv_iload_n hx hb dX7_write_35 rfl (lv_at hl 1 rfl) ?_
      refine va_iast hx hb hkn.1 hP hD hS 1 0 rfl rfl (vp_in_nI (n := ln) (by omega) (by decide)) dX7_write_36 (fun H locs hP hD hS => ?_)
      rw [nI_clamp (n := ln) (by omega)] at hP hD
      have hP : va_P g.1 vwCl [(h0, .inr (6, [.ref d1, .int (nI ln), .long rd, .int xd, .int xq, .ref d2, .int (nI an), .int (nI nx), .ref d3, .ref d4, .ref d5, .ref d6, .int xm, .int (nI zn), .ref d7, .ref d8, .long sd, .ref d9, .ref d0])), (d1, .inl (gI g, 64, .inl (upd tl ln x0)))] H := hP
      have hD : va_D A [(h0, .inr (6, [.ref d1, .int (nI ln), .long rd, .int xd, .int xq, .ref d2, .int (nI an), .int (nI nx), .ref d3, .ref d4, .ref d5, .ref d6, .int xm, .int (nI zn), .ref d7, .ref d8, .long sd, .ref d9, .ref d0])), (d1, .inl (gI g, 64, .inl (upd tl ln x0)))] := hD
      refine lv_aload_n hx hb dX7_write_37 rfl (lv_at hl 0 rfl) ?_
      refine lv_dup hx hb dX7_write_38 rfl ?_
      refine va_get (D := g.1) (ci := 6) (v := .int (nI ln)) (C := RX7) (T := TX7) (N := 19) hx hb hw inlX7 hown hkn.1 hP 0 rfl rfl 1 (by decide) (hw _ mw_100) (fun _ h9 => h9) rfl dX7_write_39 ?_
      refine lv_iconst (v := 1) hx hb dX7_write_42 (by decide) ?_
      refine lv_iadd hx hb dX7_write_43 ?_
      refine lv_eqi (nI_add ln 1) ?_
      refine va_put (D := g.1) (ci := 6) (v := .int (nI (ln + 1))) (ty := .int) (C := RX7) (T := TX7) (N := 19) hx hb hw inlX7 tyX7 tyX7_ok nmX7 hown hkn.1 hP hD hS 0 rfl rfl 1 (by decide) (hw _ mw_100) (fun _ h9 => h9) rfl (by decide +kernel) rfl rfl (Nat.le_of_ble_eq_true rfl) dX7_write_44 (fun H locs hP hD hS => ?_)
      have hP : va_P g.1 vwCl [(h0, .inr (6, [.ref d1, .int (nI (ln + 1)), .long rd, .int xd, .int xq, .ref d2, .int (nI an), .int (nI nx), .ref d3, .ref d4, .ref d5, .ref d6, .int xm, .int (nI zn), .ref d7, .ref d8, .long sd, .ref d9, .ref d0])), (d1, .inl (gI g, 64, .inl (upd tl ln x0)))] H := hP
      have hD : va_D A [(h0, .inr (6, [.ref d1, .int (nI (ln + 1)), .long rd, .int xd, .int xq, .ref d2, .int (nI an), .int (nI nx), .ref d3, .ref d4, .ref d5, .ref d6, .int xm, .int (nI zn), .ref d7, .ref d8, .long sd, .ref d9, .ref d0])), (d1, .inl (gI g, 64, .inl (upd tl ln x0)))] := hD
      refine lv_aload_n hx hb dX7_write_47 rfl (lv_at hl 0 rfl) ?_
      refine va_get (D := g.1) (ci := 6) (v := .int (nI (ln + 1))) (C := RX7) (T := TX7) (N := 19) hx hb hw inlX7 hown hkn.1 hP 0 rfl rfl 1 (by decide) (hw _ mw_100) (fun _ h9 => h9) rfl dX7_write_48 ?_
      have e1 : taN ln = ln + 1 := by unfold taN; exact if_pos (by omega)
      have e2 : taF ln tl x0 = (upd tl ln x0) := by unfold taF; exact if_pos (by omega)
      exact eM_i (g := g) hx hb hr hlocks () (by rw [wr_yes c_1]; rw [if_pos (decide_eq_true (by omega)), e1]) (show va_P g.1 vwCl [(h0, .inr (6, [.ref d1, .int (nI (cond (qWrB x0) (taN ln) ln)), .long rd, .int xd, .int xq, .ref d2, .int (nI an), .int (nI nx), .ref d3, .ref d4, .ref d5, .ref d6, .int xm, .int (nI zn), .ref d7, .ref d8, .long sd, .ref d9, .ref d0])), (d1, .inl (gI g, 64, .inl (cond (qWrB x0) (taF ln tl x0) tl)))] H by rw [c_1]; show va_P g.1 vwCl [(h0, .inr (6, [.ref d1, .int (nI (taN ln)), .long rd, .int xd, .int xq, .ref d2, .int (nI an), .int (nI nx), .ref d3, .ref d4, .ref d5, .ref d6, .int xm, .int (nI zn), .ref d7, .ref d8, .long sd, .ref d9, .ref d0])), (d1, .inl (gI g, 64, .inl (taF ln tl x0)))] H; rw [e1, e2]; exact hP.sub [0, 1] rfl) (show va_D A [(h0, .inr (6, [.ref d1, .int (nI (cond (qWrB x0) (taN ln) ln)), .long rd, .int xd, .int xq, .ref d2, .int (nI an), .int (nI nx), .ref d3, .ref d4, .ref d5, .ref d6, .int xm, .int (nI zn), .ref d7, .ref d8, .long sd, .ref d9, .ref d0])), (d1, .inl (gI g, 64, .inl (cond (qWrB x0) (taF ln tl x0) tl)))] by rw [c_1]; show va_D A [(h0, .inr (6, [.ref d1, .int (nI (taN ln)), .long rd, .int xd, .int xq, .ref d2, .int (nI an), .int (nI nx), .ref d3, .ref d4, .ref d5, .ref d6, .int xm, .int (nI zn), .ref d7, .ref d8, .long sd, .ref d9, .ref d0])), (d1, .inl (gI g, 64, .inl (taF ln tl x0)))]; rw [e1, e2]; exact hD.sub [0, 1] (by decide) rfl) hS dX7_write_51
    · skip
      refine lv_bipush (v := (-4)) hx hb dX7_write_24 (by decide) ?_
      have e1 : taN ln = ln := by unfold taN; exact if_neg (by omega)
      have e2 : taF ln tl x0 = tl := by unfold taF; exact if_neg (by omega)
      exact eM_i (g := g) hx hb hr hlocks () (by rw [wr_yes c_1]; rw [if_neg (by simp; omega)]) (show va_P g.1 vwCl [(h0, .inr (6, [.ref d1, .int (nI (cond (qWrB x0) (taN ln) ln)), .long rd, .int xd, .int xq, .ref d2, .int (nI an), .int (nI nx), .ref d3, .ref d4, .ref d5, .ref d6, .int xm, .int (nI zn), .ref d7, .ref d8, .long sd, .ref d9, .ref d0])), (d1, .inl (gI g, 64, .inl (cond (qWrB x0) (taF ln tl x0) tl)))] H by rw [c_1]; show va_P g.1 vwCl [(h0, .inr (6, [.ref d1, .int (nI (taN ln)), .long rd, .int xd, .int xq, .ref d2, .int (nI an), .int (nI nx), .ref d3, .ref d4, .ref d5, .ref d6, .int xm, .int (nI zn), .ref d7, .ref d8, .long sd, .ref d9, .ref d0])), (d1, .inl (gI g, 64, .inl (taF ln tl x0)))] H; rw [e1, e2]; exact hP.sub [0, 1] rfl) (show va_D A [(h0, .inr (6, [.ref d1, .int (nI (cond (qWrB x0) (taN ln) ln)), .long rd, .int xd, .int xq, .ref d2, .int (nI an), .int (nI nx), .ref d3, .ref d4, .ref d5, .ref d6, .int xm, .int (nI zn), .ref d7, .ref d8, .long sd, .ref d9, .ref d0])), (d1, .inl (gI g, 64, .inl (cond (qWrB x0) (taF ln tl x0) tl)))] by rw [c_1]; show va_D A [(h0, .inr (6, [.ref d1, .int (nI (taN ln)), .long rd, .int xd, .int xq, .ref d2, .int (nI an), .int (nI nx), .ref d3, .ref d4, .ref d5, .ref d6, .int xm, .int (nI zn), .ref d7, .ref d8, .long sd, .ref d9, .ref d0])), (d1, .inl (gI g, 64, .inl (taF ln tl x0)))]; rw [e1, e2]; exact hD.sub [0, 1] (by decide) rfl) hS dX7_write_26
  · skip
    refine lv_bipush (v := (-2)) hx hb dX7_write_12 (by decide) ?_
    exact eM_i (g := g) hx hb hr hlocks () ((wr_no c_1).symm) (show va_P g.1 vwCl [(h0, .inr (6, [.ref d1, .int (nI (cond (qWrB x0) (taN ln) ln)), .long rd, .int xd, .int xq, .ref d2, .int (nI an), .int (nI nx), .ref d3, .ref d4, .ref d5, .ref d6, .int xm, .int (nI zn), .ref d7, .ref d8, .long sd, .ref d9, .ref d0])), (d1, .inl (gI g, 64, .inl (cond (qWrB x0) (taF ln tl x0) tl)))] H by rw [c_1]; exact hP.sub [0, 1] rfl) (show va_D A [(h0, .inr (6, [.ref d1, .int (nI (cond (qWrB x0) (taN ln) ln)), .long rd, .int xd, .int xq, .ref d2, .int (nI an), .int (nI nx), .ref d3, .ref d4, .ref d5, .ref d6, .int xm, .int (nI zn), .ref d7, .ref d8, .long sd, .ref d9, .ref d0])), (d1, .inl (gI g, 64, .inl (cond (qWrB x0) (taF ln tl x0) tl)))] by rw [c_1]; exact hD.sub [0, 1] (by decide) rfl) hS dX7_write_14
set_option maxHeartbeats 4000000 in
set_option maxRecDepth 100000 in
theorem c_X7_wipe (l : Launch) (g : GG) (sz : Nat) (h0 : Nat) (d1 : Nat) (ln : Nat) (rd : Int64) (xd : Int32) (xq : Int32) (d2 : Nat) (an : Nat) (nx : Nat) (d3 : Nat) (d4 : Nat) (d5 : Nat) (d6 : Nat) (xm : Int32) (zn : Nat) (d7 : Nat) (d8 : Nat) (sd : Int64) (d9 : Nat) (d0 : Nat)  : Met l yX7_wipe (Cond.code yX7_wipe cX7_wipe 2 (some .int) :: wsL_law) ({ frames := 0, cells := 0, slots := 0, locals := 0 }) (PM g [.ref h0] [(h0, .inr (6, [.ref d1, .int (nI ln), .long rd, .int xd, .int xq, .ref d2, .int (nI an), .int (nI nx), .ref d3, .ref d4, .ref d5, .ref d6, .int xm, .int (nI zn), .ref d7, .ref d8, .long sd, .ref d9, .ref d0]))] sz) (QAi g (fun (r : Int32) (u : Unit) => r = nI ln) (fun (u : Unit) => [(h0, .inr (6, [.ref d1, .int 0, .long rd, .int xd, .int xq, .ref d2, .int (nI an), .int (nI nx), .ref d3, .ref d4, .ref d5, .ref d6, .int xm, .int (nI zn), .ref d7, .ref d8, .long sd, .ref d9, .ref d0]))]) (va_A [(h0, .inr (6, [.ref d1, .int (nI ln), .long rd, .int xd, .int xq, .ref d2, .int (nI an), .int (nI nx), .ref d3, .ref d4, .ref d5, .ref d6, .int xm, .int (nI zn), .ref d7, .ref d8, .long sd, .ref d9, .ref d0]))] sz)) 0 0 (va_A [(h0, .inr (6, [.ref d1, .int (nI ln), .long rd, .int xd, .int xq, .ref d2, .int (nI an), .int (nI nx), .ref d3, .ref d4, .ref d5, .ref d6, .int xm, .int (nI zn), .ref d7, .ref d8, .long sd, .ref d9, .ref d0]))] sz) := by
  refine Met.M (Qc := fun A => QAi g (fun (r : Int32) (u : Unit) => r = nI ln) (fun (u : Unit) => [(h0, .inr (6, [.ref d1, .int 0, .long rd, .int xd, .int xq, .ref d2, .int (nI an), .int (nI nx), .ref d3, .ref d4, .ref d5, .ref d6, .int xm, .int (nI zn), .ref d7, .ref d8, .long sd, .ref d9, .ref d0]))]) A) (by decide) (Nat.le_of_ble_eq_true rfl) rfl ?_
  intro p e s m below meth c hx hb hr hml hw hown hlocks hin A hA hkn hP hD ls hl
  have hl : lv_has ls 2 [(0, .ref h0)] := hl
  have hS : va_S A s.heap s.heap [] := va_S.rf
  obtain ⟨H, hHe⟩ : ∃ H, H = s.heap := ⟨_, rfl⟩
  obtain ⟨locs, hLe⟩ : ∃ locs : List Loc, locs = [] := ⟨_, rfl⟩
  have hP : va_P g.1 vwCl [(h0, .inr (6, [.ref d1, .int (nI ln), .long rd, .int xd, .int xq, .ref d2, .int (nI an), .int (nI nx), .ref d3, .ref d4, .ref d5, .ref d6, .int xm, .int (nI zn), .ref d7, .ref d8, .long sd, .ref d9, .ref d0]))] H := by rw [hHe]; exact hP
  have hS : va_S A s.heap H locs := by rw [hHe, hLe]; exact hS
  have hgo : W p l e ({ frames := 0, cells := 0, slots := 0, locals := 0 } : Room) s m ([.ref h0] : List Value).toArray below meth c H locs 0 0 (MQ below (QAi g (fun (r : Int32) (u : Unit) => r = nI ln) (fun (u : Unit) => [(h0, .inr (6, [.ref d1, .int 0, .long rd, .int xd, .int xq, .ref d2, .int (nI an), .int (nI nx), .ref d3, .ref d4, .ref d5, .ref d6, .int xm, .int (nI zn), .ref d7, .ref d8, .long sd, .ref d9, .ref d0]))]) A) ([.ref h0] : List Value).toArray s 0 0 A) (F0 m 0 ls []) := ?_
  · rw [hHe, hLe] at hgo; exact hgo
  clear hHe hLe
  refine lv_aload_n hx hb dX7_wipe_0 rfl (lv_at hl 0 rfl) ?_
  refine va_get (D := g.1) (ci := 6) (v := .int (nI ln)) (C := RX7) (T := TX7) (N := 19) hx hb hw inlX7 hown hkn.1 hP 0 rfl rfl 1 (by decide) (hw _ mw_100) (fun _ h9 => h9) rfl dX7_wipe_1 ?_
  refine lv_istore_n (lv' := [(1, .int (nI ln)), (0, .ref h0)]) hx hb dX7_wipe_4 rfl hl (by decide) rfl (fun ls hl => ?_)
  refine lv_aload_n hx hb dX7_wipe_5 rfl (lv_at hl 1 rfl) ?_
  refine lv_iconst (v := 0) hx hb dX7_wipe_6 (by decide) ?_
  refine va_put (D := g.1) (ci := 6) (v := .int 0) (ty := .int) (C := RX7) (T := TX7) (N := 19) hx hb hw inlX7 tyX7 tyX7_ok nmX7 hown hkn.1 hP hD hS 0 rfl rfl 1 (by decide) (hw _ mw_100) (fun _ h9 => h9) rfl (by decide +kernel) rfl rfl (Nat.le_of_ble_eq_true rfl) dX7_wipe_7 (fun H locs hP hD hS => ?_)
  have hP : va_P g.1 vwCl [(h0, .inr (6, [.ref d1, .int 0, .long rd, .int xd, .int xq, .ref d2, .int (nI an), .int (nI nx), .ref d3, .ref d4, .ref d5, .ref d6, .int xm, .int (nI zn), .ref d7, .ref d8, .long sd, .ref d9, .ref d0]))] H := hP
  have hD : va_D A [(h0, .inr (6, [.ref d1, .int 0, .long rd, .int xd, .int xq, .ref d2, .int (nI an), .int (nI nx), .ref d3, .ref d4, .ref d5, .ref d6, .int xm, .int (nI zn), .ref d7, .ref d8, .long sd, .ref d9, .ref d0]))] := hD
  refine lv_iload_n hx hb dX7_wipe_10 rfl (lv_at hl 0 rfl) ?_
  exact eM_i (g := g) hx hb hr hlocks () (rfl) (hP.sub [0] rfl) (hD.sub [0] (by decide) rfl) hS dX7_wipe_11
set_option maxHeartbeats 4000000 in
set_option maxRecDepth 100000 in
theorem c_X7_goOn (l : Launch) (g : GG) (sz : Nat) (h0 : Nat) (d1 : Nat) (ln : Nat) (rd : Int64) (dp : Nat) (pq : Nat) (d2 : Nat) (an : Nat) (nx : Nat) (d3 : Nat) (d4 : Nat) (d5 : Nat) (d6 : Nat) (xm : Int32) (zn : Nat) (d7 : Nat) (d8 : Nat) (sd : Int64) (d9 : Nat) (d0 : Nat) (hdp : dp ≤ 3) (hpq : pq < 64) : Met l yX7_goOn (Cond.code yX7_goOn cX7_goOn 1 none :: wsL_law) ({ frames := 0, cells := 0, slots := 0, locals := 0 }) (PM g [.ref h0] [(h0, .inr (6, [.ref d1, .int (nI ln), .long rd, .int (nI dp), .int (nI pq), .ref d2, .int (nI an), .int (nI nx), .ref d3, .ref d4, .ref d5, .ref d6, .int xm, .int (nI zn), .ref d7, .ref d8, .long sd, .ref d9, .ref d0]))] sz) (QAv g (fun (u : Unit) => True) (fun (u : Unit) => [(h0, .inr (6, [.ref d1, .int (nI ln), .long rd, .int (gdI dp pq), .int (gpI dp pq), .ref d2, .int (nI an), .int (nI nx), .ref d3, .ref d4, .ref d5, .ref d6, .int xm, .int (nI zn), .ref d7, .ref d8, .long sd, .ref d9, .ref d0]))]) (va_A [(h0, .inr (6, [.ref d1, .int (nI ln), .long rd, .int (nI dp), .int (nI pq), .ref d2, .int (nI an), .int (nI nx), .ref d3, .ref d4, .ref d5, .ref d6, .int xm, .int (nI zn), .ref d7, .ref d8, .long sd, .ref d9, .ref d0]))] sz)) 0 0 (va_A [(h0, .inr (6, [.ref d1, .int (nI ln), .long rd, .int (nI dp), .int (nI pq), .ref d2, .int (nI an), .int (nI nx), .ref d3, .ref d4, .ref d5, .ref d6, .int xm, .int (nI zn), .ref d7, .ref d8, .long sd, .ref d9, .ref d0]))] sz) := by
  refine Met.M (Qc := fun A => QAv g (fun (u : Unit) => True) (fun (u : Unit) => [(h0, .inr (6, [.ref d1, .int (nI ln), .long rd, .int (gdI dp pq), .int (gpI dp pq), .ref d2, .int (nI an), .int (nI nx), .ref d3, .ref d4, .ref d5, .ref d6, .int xm, .int (nI zn), .ref d7, .ref d8, .long sd, .ref d9, .ref d0]))]) A) (by decide) (Nat.le_of_ble_eq_true rfl) rfl ?_
  intro p e s m below meth c hx hb hr hml hw hown hlocks hin A hA hkn hP hD ls hl
  have hl : lv_has ls 1 [(0, .ref h0)] := hl
  have hS : va_S A s.heap s.heap [] := va_S.rf
  obtain ⟨H, hHe⟩ : ∃ H, H = s.heap := ⟨_, rfl⟩
  obtain ⟨locs, hLe⟩ : ∃ locs : List Loc, locs = [] := ⟨_, rfl⟩
  have hP : va_P g.1 vwCl [(h0, .inr (6, [.ref d1, .int (nI ln), .long rd, .int (nI dp), .int (nI pq), .ref d2, .int (nI an), .int (nI nx), .ref d3, .ref d4, .ref d5, .ref d6, .int xm, .int (nI zn), .ref d7, .ref d8, .long sd, .ref d9, .ref d0]))] H := by rw [hHe]; exact hP
  have hS : va_S A s.heap H locs := by rw [hHe, hLe]; exact hS
  have hgo : W p l e ({ frames := 0, cells := 0, slots := 0, locals := 0 } : Room) s m ([.ref h0] : List Value).toArray below meth c H locs 0 0 (MQ below (QAv g (fun (u : Unit) => True) (fun (u : Unit) => [(h0, .inr (6, [.ref d1, .int (nI ln), .long rd, .int (gdI dp pq), .int (gpI dp pq), .ref d2, .int (nI an), .int (nI nx), .ref d3, .ref d4, .ref d5, .ref d6, .int xm, .int (nI zn), .ref d7, .ref d8, .long sd, .ref d9, .ref d0]))]) A) ([.ref h0] : List Value).toArray s 0 0 A) (F0 m 0 ls []) := ?_
  · rw [hHe, hLe] at hgo; exact hgo
  clear hHe hLe
  have lp_0 : ∀ (n_0 : Nat) (j : Nat) (q : Nat), (j ≤ 3) → (q < 64) → (gsM j q = gsM dp pq) → j < n_0 → ∀ (H : Heap) (locs : List Loc), va_P g.1 vwCl [(h0, .inr (6, [.ref d1, .int (nI ln), .long rd, .int (nI j), .int (nI q), .ref d2, .int (nI an), .int (nI nx), .ref d3, .ref d4, .ref d5, .ref d6, .int xm, .int (nI zn), .ref d7, .ref d8, .long sd, .ref d9, .ref d0]))] H → va_D A [(h0, .inr (6, [.ref d1, .int (nI ln), .long rd, .int (nI j), .int (nI q), .ref d2, .int (nI an), .int (nI nx), .ref d3, .ref d4, .ref d5, .ref d6, .int xm, .int (nI zn), .ref d7, .ref d8, .long sd, .ref d9, .ref d0]))] → va_S A s.heap H locs → ∀ (ls : Array Slot), lv_has ls 1 [(0, .ref h0)] → W p l e ({ frames := 0, cells := 0, slots := 0, locals := 0 } : Room) s m ([.ref h0] : List Value).toArray below meth c H locs 0 0 (MQ below (QAv g (fun (u : Unit) => True) (fun (u : Unit) => [(h0, .inr (6, [.ref d1, .int (nI ln), .long rd, .int (gdI dp pq), .int (gpI dp pq), .ref d2, .int (nI an), .int (nI nx), .ref d3, .ref d4, .ref d5, .ref d6, .int xm, .int (nI zn), .ref d7, .ref d8, .long sd, .ref d9, .ref d0]))]) A) ([.ref h0] : List Value).toArray s 0 0 A) (F0 m 0 ls []) := by
    intro n_0
    induction n_0 with
    | zero => intro j q h_j h_q h_g hfu_0; exact absurd hfu_0 (by omega)
    | succ n_0 ih_0 =>
      intro j q h_j h_q h_g hfu_0 H locs hP hD hS ls hl
      refine lv_aload_n hx hb dX7_goOn_0 rfl (lv_at hl 0 rfl) ?_
      refine va_get (D := g.1) (ci := 6) (v := .int (nI j)) (C := RX7) (T := TX7) (N := 19) hx hb hw inlX7 hown hkn.1 hP 0 rfl rfl 3 (by decide) (hw _ mw_177) (fun _ h9 => h9) rfl dX7_goOn_1 ?_
      refine iz_le (a := j) (tgt := 40) hx hb dX7_goOn_4 (by decide) rfl (by omega) (fun c_1 => ?_) (fun c_1 => ?_)
      · skip
        refine lv_aload_n hx hb dX7_goOn_40 rfl (lv_at hl 0 rfl) ?_
        refine va_get (D := g.1) (ci := 6) (v := .int (nI j)) (C := RX7) (T := TX7) (N := 19) hx hb hw inlX7 hown hkn.1 hP 0 rfl rfl 3 (by decide) (hw _ mw_177) (fun _ h9 => h9) rfl dX7_goOn_41 ?_
        refine iz_ne (a := j) (tgt := 56) hx hb dX7_goOn_44 (by decide) rfl (by omega) (fun c_2 => ?_) (fun c_2 => ?_)
        · skip
          refine lv_aload_n hx hb dX7_goOn_56 rfl (lv_at hl 0 rfl) ?_
          refine lv_dup hx hb dX7_goOn_57 rfl ?_
          refine va_get (D := g.1) (ci := 6) (v := .int (nI q)) (C := RX7) (T := TX7) (N := 19) hx hb hw inlX7 hown hkn.1 hP 0 rfl rfl 4 (by decide) (hw _ mw_178) (fun _ h9 => h9) rfl dX7_goOn_58 ?_
          refine lv_iconst (v := 1) hx hb dX7_goOn_61 (by decide) ?_
          refine lv_iadd hx hb dX7_goOn_62 ?_
          refine lv_eqi (nI_add q 1) ?_
          refine va_put (D := g.1) (ci := 6) (v := .int (nI (q + 1))) (ty := .int) (C := RX7) (T := TX7) (N := 19) hx hb hw inlX7 tyX7 tyX7_ok nmX7 hown hkn.1 hP hD hS 0 rfl rfl 4 (by decide) (hw _ mw_178) (fun _ h9 => h9) rfl (by decide +kernel) rfl rfl (Nat.le_of_ble_eq_true rfl) dX7_goOn_63 (fun H locs hP hD hS => ?_)
          have hP : va_P g.1 vwCl [(h0, .inr (6, [.ref d1, .int (nI ln), .long rd, .int (nI j), .int (nI (q + 1)), .ref d2, .int (nI an), .int (nI nx), .ref d3, .ref d4, .ref d5, .ref d6, .int xm, .int (nI zn), .ref d7, .ref d8, .long sd, .ref d9, .ref d0]))] H := hP
          have hD : va_D A [(h0, .inr (6, [.ref d1, .int (nI ln), .long rd, .int (nI j), .int (nI (q + 1)), .ref d2, .int (nI an), .int (nI nx), .ref d3, .ref d4, .ref d5, .ref d6, .int xm, .int (nI zn), .ref d7, .ref d8, .long sd, .ref d9, .ref d0]))] := hD
          have e0 : gsM dp pq = (j, q) := by rw [← h_g, show j = 0 from c_1]; rfl
          have e1 : gdI dp pq = (nI j) := by unfold gdI; rw [e0]; exact if_neg (by omega)
          have e2 : gpI dp pq = (nI (q + 1)) := by unfold gpI; rw [e0]; exact if_neg (by omega)
          exact eM_v (g := g) hx hb hr hlocks () (trivial) (show va_P g.1 vwCl [(h0, .inr (6, [.ref d1, .int (nI ln), .long rd, .int (gdI dp pq), .int (gpI dp pq), .ref d2, .int (nI an), .int (nI nx), .ref d3, .ref d4, .ref d5, .ref d6, .int xm, .int (nI zn), .ref d7, .ref d8, .long sd, .ref d9, .ref d0]))] H by rw [e1, e2]; exact hP.sub [0] rfl) (show va_D A [(h0, .inr (6, [.ref d1, .int (nI ln), .long rd, .int (gdI dp pq), .int (gpI dp pq), .ref d2, .int (nI an), .int (nI nx), .ref d3, .ref d4, .ref d5, .ref d6, .int xm, .int (nI zn), .ref d7, .ref d8, .long sd, .ref d9, .ref d0]))] by rw [e1, e2]; exact hD.sub [0] (by decide) rfl) hS dX7_goOn_66
        · skip
          refine lv_aload_n hx hb dX7_goOn_47 rfl (lv_at hl 0 rfl) ?_
          refine lv_bipush (v := (-9)) hx hb dX7_goOn_48 (by decide) ?_
          refine va_put (D := g.1) (ci := 6) (v := .int (-9)) (ty := .int) (C := RX7) (T := TX7) (N := 19) hx hb hw inlX7 tyX7 tyX7_ok nmX7 hown hkn.1 hP hD hS 0 rfl rfl 3 (by decide) (hw _ mw_177) (fun _ h9 => h9) rfl (by decide +kernel) rfl rfl (Nat.le_of_ble_eq_true rfl) dX7_goOn_50 (fun H locs hP hD hS => ?_)
          have hP : va_P g.1 vwCl [(h0, .inr (6, [.ref d1, .int (nI ln), .long rd, .int (-9), .int (nI q), .ref d2, .int (nI an), .int (nI nx), .ref d3, .ref d4, .ref d5, .ref d6, .int xm, .int (nI zn), .ref d7, .ref d8, .long sd, .ref d9, .ref d0]))] H := hP
          have hD : va_D A [(h0, .inr (6, [.ref d1, .int (nI ln), .long rd, .int (-9), .int (nI q), .ref d2, .int (nI an), .int (nI nx), .ref d3, .ref d4, .ref d5, .ref d6, .int xm, .int (nI zn), .ref d7, .ref d8, .long sd, .ref d9, .ref d0]))] := hD
          refine lv_goto (tgt := 66) hx hb dX7_goOn_53 (by decide) ?_
          have e0 : gsM dp pq = (j, q) := by rw [← h_g, show j = 0 from c_1]; rfl
          have e1 : gdI dp pq = (-9) := by unfold gdI; rw [e0]; exact if_pos (by omega)
          have e2 : gpI dp pq = (nI q) := by unfold gpI; rw [e0]; exact if_pos (by omega)
          exact eM_v (g := g) hx hb hr hlocks () (trivial) (show va_P g.1 vwCl [(h0, .inr (6, [.ref d1, .int (nI ln), .long rd, .int (gdI dp pq), .int (gpI dp pq), .ref d2, .int (nI an), .int (nI nx), .ref d3, .ref d4, .ref d5, .ref d6, .int xm, .int (nI zn), .ref d7, .ref d8, .long sd, .ref d9, .ref d0]))] H by rw [e1, e2]; exact hP.sub [0] rfl) (show va_D A [(h0, .inr (6, [.ref d1, .int (nI ln), .long rd, .int (gdI dp pq), .int (gpI dp pq), .ref d2, .int (nI an), .int (nI nx), .ref d3, .ref d4, .ref d5, .ref d6, .int xm, .int (nI zn), .ref d7, .ref d8, .long sd, .ref d9, .ref d0]))] by rw [e1, e2]; exact hD.sub [0] (by decide) rfl) hS dX7_goOn_66
      · skip
        refine lv_aload_n hx hb dX7_goOn_7 rfl (lv_at hl 0 rfl) ?_
        refine va_get (D := g.1) (ci := 6) (v := .int (nI q)) (C := RX7) (T := TX7) (N := 19) hx hb hw inlX7 hown hkn.1 hP 0 rfl rfl 4 (by decide) (hw _ mw_178) (fun _ h9 => h9) rfl dX7_goOn_8 ?_
        refine lv_iconst (v := 4) hx hb dX7_goOn_11 (by decide) ?_
        refine lv_irem hx hb dX7_goOn_12 (by decide) ?_
        refine lv_eqi (pk_rem (a := q) (d := 4) (by omega) (by omega) (by omega)) ?_
        refine lv_iconst (v := 3) hx hb dX7_goOn_13 (by decide) ?_
        refine ic_ne (a := q % 4) (d := 3) (tgt := 40) hx hb dX7_goOn_14 (by decide) rfl rfl (by omega) (by omega) (fun c_3 => ?_) (fun c_3 => ?_)
        · skip
          refine lv_aload_n hx hb dX7_goOn_40 rfl (lv_at hl 0 rfl) ?_
          refine va_get (D := g.1) (ci := 6) (v := .int (nI j)) (C := RX7) (T := TX7) (N := 19) hx hb hw inlX7 hown hkn.1 hP 0 rfl rfl 3 (by decide) (hw _ mw_177) (fun _ h9 => h9) rfl dX7_goOn_41 ?_
          refine iz_ne (a := j) (tgt := 56) hx hb dX7_goOn_44 (by decide) rfl (by omega) (fun c_4 => ?_) (fun c_4 => ?_)
          · skip
            refine lv_aload_n hx hb dX7_goOn_56 rfl (lv_at hl 0 rfl) ?_
            refine lv_dup hx hb dX7_goOn_57 rfl ?_
            refine va_get (D := g.1) (ci := 6) (v := .int (nI q)) (C := RX7) (T := TX7) (N := 19) hx hb hw inlX7 hown hkn.1 hP 0 rfl rfl 4 (by decide) (hw _ mw_178) (fun _ h9 => h9) rfl dX7_goOn_58 ?_
            refine lv_iconst (v := 1) hx hb dX7_goOn_61 (by decide) ?_
            refine lv_iadd hx hb dX7_goOn_62 ?_
            refine lv_eqi (nI_add q 1) ?_
            refine va_put (D := g.1) (ci := 6) (v := .int (nI (q + 1))) (ty := .int) (C := RX7) (T := TX7) (N := 19) hx hb hw inlX7 tyX7 tyX7_ok nmX7 hown hkn.1 hP hD hS 0 rfl rfl 4 (by decide) (hw _ mw_178) (fun _ h9 => h9) rfl (by decide +kernel) rfl rfl (Nat.le_of_ble_eq_true rfl) dX7_goOn_63 (fun H locs hP hD hS => ?_)
            have hP : va_P g.1 vwCl [(h0, .inr (6, [.ref d1, .int (nI ln), .long rd, .int (nI j), .int (nI (q + 1)), .ref d2, .int (nI an), .int (nI nx), .ref d3, .ref d4, .ref d5, .ref d6, .int xm, .int (nI zn), .ref d7, .ref d8, .long sd, .ref d9, .ref d0]))] H := hP
            have hD : va_D A [(h0, .inr (6, [.ref d1, .int (nI ln), .long rd, .int (nI j), .int (nI (q + 1)), .ref d2, .int (nI an), .int (nI nx), .ref d3, .ref d4, .ref d5, .ref d6, .int xm, .int (nI zn), .ref d7, .ref d8, .long sd, .ref d9, .ref d0]))] := hD
            have e0 : gsM dp pq = (j, q) := by rw [← h_g]; obtain ⟨k, rfl⟩ : ∃ k, j = k + 1 := ⟨j - 1, by omega⟩; show (if q % 4 = 3 then gsM k (q / 4) else (k + 1, q)) = (k + 1, q); exact if_neg c_3
            have e1 : gdI dp pq = (nI j) := by unfold gdI; rw [e0]; exact if_neg (by omega)
            have e2 : gpI dp pq = (nI (q + 1)) := by unfold gpI; rw [e0]; exact if_neg (by omega)
            exact eM_v (g := g) hx hb hr hlocks () (trivial) (show va_P g.1 vwCl [(h0, .inr (6, [.ref d1, .int (nI ln), .long rd, .int (gdI dp pq), .int (gpI dp pq), .ref d2, .int (nI an), .int (nI nx), .ref d3, .ref d4, .ref d5, .ref d6, .int xm, .int (nI zn), .ref d7, .ref d8, .long sd, .ref d9, .ref d0]))] H by rw [e1, e2]; exact hP.sub [0] rfl) (show va_D A [(h0, .inr (6, [.ref d1, .int (nI ln), .long rd, .int (gdI dp pq), .int (gpI dp pq), .ref d2, .int (nI an), .int (nI nx), .ref d3, .ref d4, .ref d5, .ref d6, .int xm, .int (nI zn), .ref d7, .ref d8, .long sd, .ref d9, .ref d0]))] by rw [e1, e2]; exact hD.sub [0] (by decide) rfl) hS dX7_goOn_66
          · skip
            refine lv_aload_n hx hb dX7_goOn_47 rfl (lv_at hl 0 rfl) ?_
            refine lv_bipush (v := (-9)) hx hb dX7_goOn_48 (by decide) ?_
            refine va_put (D := g.1) (ci := 6) (v := .int (-9)) (ty := .int) (C := RX7) (T := TX7) (N := 19) hx hb hw inlX7 tyX7 tyX7_ok nmX7 hown hkn.1 hP hD hS 0 rfl rfl 3 (by decide) (hw _ mw_177) (fun _ h9 => h9) rfl (by decide +kernel) rfl rfl (Nat.le_of_ble_eq_true rfl) dX7_goOn_50 (fun H locs hP hD hS => ?_)
            have hP : va_P g.1 vwCl [(h0, .inr (6, [.ref d1, .int (nI ln), .long rd, .int (-9), .int (nI q), .ref d2, .int (nI an), .int (nI nx), .ref d3, .ref d4, .ref d5, .ref d6, .int xm, .int (nI zn), .ref d7, .ref d8, .long sd, .ref d9, .ref d0]))] H := hP
            have hD : va_D A [(h0, .inr (6, [.ref d1, .int (nI ln), .long rd, .int (-9), .int (nI q), .ref d2, .int (nI an), .int (nI nx), .ref d3, .ref d4, .ref d5, .ref d6, .int xm, .int (nI zn), .ref d7, .ref d8, .long sd, .ref d9, .ref d0]))] := hD
            refine lv_goto (tgt := 66) hx hb dX7_goOn_53 (by decide) ?_
            have e0 : gsM dp pq = (j, q) := by rw [← h_g]; obtain ⟨k, rfl⟩ : ∃ k, j = k + 1 := ⟨j - 1, by omega⟩; show (if q % 4 = 3 then gsM k (q / 4) else (k + 1, q)) = (k + 1, q); exact if_neg c_3
            have e1 : gdI dp pq = (-9) := by unfold gdI; rw [e0]; exact if_pos (by omega)
            have e2 : gpI dp pq = (nI q) := by unfold gpI; rw [e0]; exact if_pos (by omega)
            exact eM_v (g := g) hx hb hr hlocks () (trivial) (show va_P g.1 vwCl [(h0, .inr (6, [.ref d1, .int (nI ln), .long rd, .int (gdI dp pq), .int (gpI dp pq), .ref d2, .int (nI an), .int (nI nx), .ref d3, .ref d4, .ref d5, .ref d6, .int xm, .int (nI zn), .ref d7, .ref d8, .long sd, .ref d9, .ref d0]))] H by rw [e1, e2]; exact hP.sub [0] rfl) (show va_D A [(h0, .inr (6, [.ref d1, .int (nI ln), .long rd, .int (gdI dp pq), .int (gpI dp pq), .ref d2, .int (nI an), .int (nI nx), .ref d3, .ref d4, .ref d5, .ref d6, .int xm, .int (nI zn), .ref d7, .ref d8, .long sd, .ref d9, .ref d0]))] by rw [e1, e2]; exact hD.sub [0] (by decide) rfl) hS dX7_goOn_66
        · skip
          refine lv_aload_n hx hb dX7_goOn_17 rfl (lv_at hl 0 rfl) ?_
          refine lv_dup hx hb dX7_goOn_18 rfl ?_
          refine va_get (D := g.1) (ci := 6) (v := .int (nI j)) (C := RX7) (T := TX7) (N := 19) hx hb hw inlX7 hown hkn.1 hP 0 rfl rfl 3 (by decide) (hw _ mw_177) (fun _ h9 => h9) rfl dX7_goOn_19 ?_
          refine lv_iconst (v := 1) hx hb dX7_goOn_22 (by decide) ?_
          refine lv_isub hx hb dX7_goOn_23 ?_
          refine lv_eqi (pk_sub (a := j) (b := 1) (by omega)) ?_
          refine va_put (D := g.1) (ci := 6) (v := .int (nI (j - 1))) (ty := .int) (C := RX7) (T := TX7) (N := 19) hx hb hw inlX7 tyX7 tyX7_ok nmX7 hown hkn.1 hP hD hS 0 rfl rfl 3 (by decide) (hw _ mw_177) (fun _ h9 => h9) rfl (by decide +kernel) rfl rfl (Nat.le_of_ble_eq_true rfl) dX7_goOn_24 (fun H locs hP hD hS => ?_)
          have hP : va_P g.1 vwCl [(h0, .inr (6, [.ref d1, .int (nI ln), .long rd, .int (nI (j - 1)), .int (nI q), .ref d2, .int (nI an), .int (nI nx), .ref d3, .ref d4, .ref d5, .ref d6, .int xm, .int (nI zn), .ref d7, .ref d8, .long sd, .ref d9, .ref d0]))] H := hP
          have hD : va_D A [(h0, .inr (6, [.ref d1, .int (nI ln), .long rd, .int (nI (j - 1)), .int (nI q), .ref d2, .int (nI an), .int (nI nx), .ref d3, .ref d4, .ref d5, .ref d6, .int xm, .int (nI zn), .ref d7, .ref d8, .long sd, .ref d9, .ref d0]))] := hD
          refine lv_aload_n hx hb dX7_goOn_27 rfl (lv_at hl 0 rfl) ?_
          refine lv_dup hx hb dX7_goOn_28 rfl ?_
          refine va_get (D := g.1) (ci := 6) (v := .int (nI q)) (C := RX7) (T := TX7) (N := 19) hx hb hw inlX7 hown hkn.1 hP 0 rfl rfl 4 (by decide) (hw _ mw_178) (fun _ h9 => h9) rfl dX7_goOn_29 ?_
          refine lv_iconst (v := 4) hx hb dX7_goOn_32 (by decide) ?_
          refine lv_idiv hx hb dX7_goOn_33 (by decide) ?_
          refine lv_eqi (pk_div (a := q) (d := 4) (by omega) (by omega) (by omega)) ?_
          refine va_put (D := g.1) (ci := 6) (v := .int (nI (q / 4))) (ty := .int) (C := RX7) (T := TX7) (N := 19) hx hb hw inlX7 tyX7 tyX7_ok nmX7 hown hkn.1 hP hD hS 0 rfl rfl 4 (by decide) (hw _ mw_178) (fun _ h9 => h9) rfl (by decide +kernel) rfl rfl (Nat.le_of_ble_eq_true rfl) dX7_goOn_34 (fun H locs hP hD hS => ?_)
          have hP : va_P g.1 vwCl [(h0, .inr (6, [.ref d1, .int (nI ln), .long rd, .int (nI (j - 1)), .int (nI (q / 4)), .ref d2, .int (nI an), .int (nI nx), .ref d3, .ref d4, .ref d5, .ref d6, .int xm, .int (nI zn), .ref d7, .ref d8, .long sd, .ref d9, .ref d0]))] H := hP
          have hD : va_D A [(h0, .inr (6, [.ref d1, .int (nI ln), .long rd, .int (nI (j - 1)), .int (nI (q / 4)), .ref d2, .int (nI an), .int (nI nx), .ref d3, .ref d4, .ref d5, .ref d6, .int xm, .int (nI zn), .ref d7, .ref d8, .long sd, .ref d9, .ref d0]))] := hD
          refine lv_goto (tgt := 0) hx hb dX7_goOn_37 (by decide) ?_
          exact ih_0 (j - 1) (q / 4) (by omega) (by omega) (by rw [← h_g]; obtain ⟨k, rfl⟩ : ∃ k, j = k + 1 := ⟨j - 1, by omega⟩; show gsM k (q / 4) = if q % 4 = 3 then gsM k (q / 4) else (k + 1, q); exact (if_pos c_3).symm) (by omega) _ _ hP hD hS ls (lv_sub hl [0] rfl)
  exact lp_0 (dp + 1) dp pq (by omega) (by omega) (rfl) (by omega) _ _ hP hD hS ls (lv_sub hl [0] rfl)
set_option maxHeartbeats 4000000 in
set_option maxRecDepth 100000 in
theorem c_X7_readText (l : Launch) (g : GG) (sz : Nat) (h0 : Nat) (d1 : Nat) (ln : Nat) (rd : Int64) (xd : Int32) (xq : Int32) (d2 : Nat) (an : Nat) (nx : Nat) (d3 : Nat) (d4 : Nat) (d5 : Nat) (d6 : Nat) (xm : Int32) (zn : Nat) (d7 : Nat) (d8 : Nat) (sd : Int64) (d9 : Nat) (d0 : Nat) (tl : Nat → Int32) (hln : ln ≤ 64) : Met l yX7_readText (Cond.code yX7_readText cX7_readText 3 (some .int) :: wsL_law) ({ frames := 3, cells := 0, slots := 0, locals := 72 }) (PM g [.ref h0] [(h0, .inr (6, [.ref d1, .int (nI ln), .long rd, .int xd, .int xq, .ref d2, .int (nI an), .int (nI nx), .ref d3, .ref d4, .ref d5, .ref d6, .int xm, .int (nI zn), .ref d7, .ref d8, .long sd, .ref d9, .ref d0])), (d1, .inl (gI g, 64, .inl tl))] sz) (QAi g (fun (r : Int32) (u : Int64 × Int32 × Int32) => r = (ffA tl ln).1 ∧ u.1 = (ffA tl ln).2) (fun (u : Int64 × Int32 × Int32) => [(h0, .inr (6, [.ref d1, .int (nI ln), .long u.1, .int u.2.1, .int u.2.2, .ref d2, .int (nI an), .int (nI nx), .ref d3, .ref d4, .ref d5, .ref d6, .int xm, .int (nI zn), .ref d7, .ref d8, .long sd, .ref d9, .ref d0])), (d1, .inl (gI g, 64, .inl tl))]) (va_A [(h0, .inr (6, [.ref d1, .int (nI ln), .long rd, .int xd, .int xq, .ref d2, .int (nI an), .int (nI nx), .ref d3, .ref d4, .ref d5, .ref d6, .int xm, .int (nI zn), .ref d7, .ref d8, .long sd, .ref d9, .ref d0])), (d1, .inl (gI g, 64, .inl tl))] sz)) 0 0 (va_A [(h0, .inr (6, [.ref d1, .int (nI ln), .long rd, .int xd, .int xq, .ref d2, .int (nI an), .int (nI nx), .ref d3, .ref d4, .ref d5, .ref d6, .int xm, .int (nI zn), .ref d7, .ref d8, .long sd, .ref d9, .ref d0])), (d1, .inl (gI g, 64, .inl tl))] sz) := by
  refine Met.M (Qc := fun A => QAi g (fun (r : Int32) (u : Int64 × Int32 × Int32) => r = (ffA tl ln).1 ∧ u.1 = (ffA tl ln).2) (fun (u : Int64 × Int32 × Int32) => [(h0, .inr (6, [.ref d1, .int (nI ln), .long u.1, .int u.2.1, .int u.2.2, .ref d2, .int (nI an), .int (nI nx), .ref d3, .ref d4, .ref d5, .ref d6, .int xm, .int (nI zn), .ref d7, .ref d8, .long sd, .ref d9, .ref d0])), (d1, .inl (gI g, 64, .inl tl))]) A) (by decide) (Nat.le_of_ble_eq_true rfl) rfl ?_
  intro p e s m below meth c hx hb hr hml hw hown hlocks hin A hA hkn hP hD ls hl
  have hl : lv_has ls 3 [(0, .ref h0)] := hl
  have hS : va_S A s.heap s.heap [] := va_S.rf
  obtain ⟨H, hHe⟩ : ∃ H, H = s.heap := ⟨_, rfl⟩
  obtain ⟨locs, hLe⟩ : ∃ locs : List Loc, locs = [] := ⟨_, rfl⟩
  have hP : va_P g.1 vwCl [(h0, .inr (6, [.ref d1, .int (nI ln), .long rd, .int xd, .int xq, .ref d2, .int (nI an), .int (nI nx), .ref d3, .ref d4, .ref d5, .ref d6, .int xm, .int (nI zn), .ref d7, .ref d8, .long sd, .ref d9, .ref d0])), (d1, .inl (gI g, 64, .inl tl))] H := by rw [hHe]; exact hP
  have hS : va_S A s.heap H locs := by rw [hHe, hLe]; exact hS
  have hgo : W p l e ({ frames := 3, cells := 0, slots := 0, locals := 72 } : Room) s m ([.ref h0] : List Value).toArray below meth c H locs 0 0 (MQ below (QAi g (fun (r : Int32) (u : Int64 × Int32 × Int32) => r = (ffA tl ln).1 ∧ u.1 = (ffA tl ln).2) (fun (u : Int64 × Int32 × Int32) => [(h0, .inr (6, [.ref d1, .int (nI ln), .long u.1, .int u.2.1, .int u.2.2, .ref d2, .int (nI an), .int (nI nx), .ref d3, .ref d4, .ref d5, .ref d6, .int xm, .int (nI zn), .ref d7, .ref d8, .long sd, .ref d9, .ref d0])), (d1, .inl (gI g, 64, .inl tl))]) A) ([.ref h0] : List Value).toArray s 0 0 A) (F0 m 0 ls []) := ?_
  · rw [hHe, hLe] at hgo; exact hgo
  clear hHe hLe
  refine lv_aload_n hx hb dX7_readText_0 rfl (lv_at hl 0 rfl) ?_
  refine lv_iconst (v := 0) hx hb dX7_readText_1 (by decide) ?_
  refine va_put (D := g.1) (ci := 6) (v := .int 0) (ty := .int) (C := RX7) (T := TX7) (N := 19) hx hb hw inlX7 tyX7 tyX7_ok nmX7 hown hkn.1 hP hD hS 0 rfl rfl 3 (by decide) (hw _ mw_177) (fun _ h9 => h9) rfl (by decide +kernel) rfl rfl (Nat.le_of_ble_eq_true rfl) dX7_readText_2 (fun H locs hP hD hS => ?_)
  have hP : va_P g.1 vwCl [(h0, .inr (6, [.ref d1, .int (nI ln), .long rd, .int 0, .int xq, .ref d2, .int (nI an), .int (nI nx), .ref d3, .ref d4, .ref d5, .ref d6, .int xm, .int (nI zn), .ref d7, .ref d8, .long sd, .ref d9, .ref d0])), (d1, .inl (gI g, 64, .inl tl))] H := hP
  have hD : va_D A [(h0, .inr (6, [.ref d1, .int (nI ln), .long rd, .int 0, .int xq, .ref d2, .int (nI an), .int (nI nx), .ref d3, .ref d4, .ref d5, .ref d6, .int xm, .int (nI zn), .ref d7, .ref d8, .long sd, .ref d9, .ref d0])), (d1, .inl (gI g, 64, .inl tl))] := hD
  refine lv_aload_n hx hb dX7_readText_5 rfl (lv_at hl 0 rfl) ?_
  refine lv_iconst (v := 0) hx hb dX7_readText_6 (by decide) ?_
  refine va_put (D := g.1) (ci := 6) (v := .int 0) (ty := .int) (C := RX7) (T := TX7) (N := 19) hx hb hw inlX7 tyX7 tyX7_ok nmX7 hown hkn.1 hP hD hS 0 rfl rfl 4 (by decide) (hw _ mw_178) (fun _ h9 => h9) rfl (by decide +kernel) rfl rfl (Nat.le_of_ble_eq_true rfl) dX7_readText_7 (fun H locs hP hD hS => ?_)
  have hP : va_P g.1 vwCl [(h0, .inr (6, [.ref d1, .int (nI ln), .long rd, .int 0, .int 0, .ref d2, .int (nI an), .int (nI nx), .ref d3, .ref d4, .ref d5, .ref d6, .int xm, .int (nI zn), .ref d7, .ref d8, .long sd, .ref d9, .ref d0])), (d1, .inl (gI g, 64, .inl tl))] H := hP
  have hD : va_D A [(h0, .inr (6, [.ref d1, .int (nI ln), .long rd, .int 0, .int 0, .ref d2, .int (nI an), .int (nI nx), .ref d3, .ref d4, .ref d5, .ref d6, .int xm, .int (nI zn), .ref d7, .ref d8, .long sd, .ref d9, .ref d0])), (d1, .inl (gI g, 64, .inl tl))] := hD
  refine lv_aload_n hx hb dX7_readText_10 rfl (lv_at hl 0 rfl) ?_
  refine lv_lconst (v := 0) hx hb dX7_readText_11 rfl ?_
  refine va_put (D := g.1) (ci := 6) (v := .long 0) (ty := .long) (C := RX7) (T := TX7) (N := 19) hx hb hw inlX7 tyX7 tyX7_ok nmX7 hown hkn.1 hP hD hS 0 rfl rfl 2 (by decide) (hw _ mw_179) (fun _ h9 => h9) rfl (by decide +kernel) rfl rfl (Nat.le_of_ble_eq_true rfl) dX7_readText_12 (fun H locs hP hD hS => ?_)
  have hP : va_P g.1 vwCl [(h0, .inr (6, [.ref d1, .int (nI ln), .long 0, .int 0, .int 0, .ref d2, .int (nI an), .int (nI nx), .ref d3, .ref d4, .ref d5, .ref d6, .int xm, .int (nI zn), .ref d7, .ref d8, .long sd, .ref d9, .ref d0])), (d1, .inl (gI g, 64, .inl tl))] H := hP
  have hD : va_D A [(h0, .inr (6, [.ref d1, .int (nI ln), .long 0, .int 0, .int 0, .ref d2, .int (nI an), .int (nI nx), .ref d3, .ref d4, .ref d5, .ref d6, .int xm, .int (nI zn), .ref d7, .ref d8, .long sd, .ref d9, .ref d0])), (d1, .inl (gI g, 64, .inl tl))] := hD
  refine lv_iconst (v := 0) hx hb dX7_readText_15 (by decide) ?_
  refine lv_istore_n (lv' := [(1, .int 0), (0, .ref h0)]) hx hb dX7_readText_16 rfl hl (by decide) rfl (fun ls hl => ?_)
  have lp_17 : ∀ (n_17 : Nat) (i : Nat) (r1 : Int64) (dd : Int32) (qq : Int32) (pw : Nat) (dw : Nat), (i ≤ ln) → (relW dd qq pw dw) → (ffG tl (ln - i) i pw dw r1 = ffA tl ln) → ln < i + n_17 → ∀ (H : Heap) (locs : List Loc), va_P g.1 vwCl [(h0, .inr (6, [.ref d1, .int (nI ln), .long r1, .int dd, .int qq, .ref d2, .int (nI an), .int (nI nx), .ref d3, .ref d4, .ref d5, .ref d6, .int xm, .int (nI zn), .ref d7, .ref d8, .long sd, .ref d9, .ref d0])), (d1, .inl (gI g, 64, .inl tl))] H → va_D A [(h0, .inr (6, [.ref d1, .int (nI ln), .long r1, .int dd, .int qq, .ref d2, .int (nI an), .int (nI nx), .ref d3, .ref d4, .ref d5, .ref d6, .int xm, .int (nI zn), .ref d7, .ref d8, .long sd, .ref d9, .ref d0])), (d1, .inl (gI g, 64, .inl tl))] → va_S A s.heap H locs → ∀ (ls : Array Slot), lv_has ls 3 [(1, .int (nI i)), (0, .ref h0)] → W p l e ({ frames := 3, cells := 0, slots := 0, locals := 72 } : Room) s m ([.ref h0] : List Value).toArray below meth c H locs 0 0 (MQ below (QAi g (fun (r : Int32) (u : Int64 × Int32 × Int32) => r = (ffA tl ln).1 ∧ u.1 = (ffA tl ln).2) (fun (u : Int64 × Int32 × Int32) => [(h0, .inr (6, [.ref d1, .int (nI ln), .long u.1, .int u.2.1, .int u.2.2, .ref d2, .int (nI an), .int (nI nx), .ref d3, .ref d4, .ref d5, .ref d6, .int xm, .int (nI zn), .ref d7, .ref d8, .long sd, .ref d9, .ref d0])), (d1, .inl (gI g, 64, .inl tl))]) A) ([.ref h0] : List Value).toArray s 0 0 A) (F0 m 17 ls []) := by
    intro n_17
    induction n_17 with
    | zero => intro i r1 dd qq pw dw h_i h_r h_f hfu_17; exact absurd hfu_17 (by omega)
    | succ n_17 ih_17 =>
      intro i r1 dd qq pw dw h_i h_r h_f hfu_17 H locs hP hD hS ls hl
      have h_s : ∀ k, ln - i = k + 1 → ffA tl ln = if rdB (tl i) pw dw = true then ffG tl k (i + 1) (rdP (tl i) pw dw) (rdD (tl i) pw dw) (rdR (tl i) pw dw r1) else (nI i, rdR (tl i) pw dw r1) := fun k hk => by rw [← h_f, hk]; rfl
      have h_e : ln - i = 0 → ffA tl ln = (if 64 ≤ pw then -9 else nI i, r1) := fun hk => by rw [← h_f, hk]; rfl
      refine lv_iload_n hx hb dX7_readText_17 rfl (lv_at hl 0 rfl) ?_
      refine lv_aload_n hx hb dX7_readText_18 rfl (lv_at hl 1 rfl) ?_
      refine va_get (D := g.1) (ci := 6) (v := .int (nI ln)) (C := RX7) (T := TX7) (N := 19) hx hb hw inlX7 hown hkn.1 hP 0 rfl rfl 1 (by decide) (hw _ mw_100) (fun _ h9 => h9) rfl dX7_readText_19 ?_
      refine ic_ge (a := i) (d := ln) (tgt := 147) hx hb dX7_readText_22 (by decide) rfl rfl (by omega) (by omega) (fun c_1 => ?_) (fun c_1 => ?_)
      · skip
        refine lv_aload_n hx hb dX7_readText_147 rfl (lv_at hl 1 rfl) ?_
        refine va_get (D := g.1) (ci := 6) (v := .int dd) (C := RX7) (T := TX7) (N := 19) hx hb hw inlX7 hown hkn.1 hP 0 rfl rfl 3 (by decide) (hw _ mw_177) (fun _ h9 => h9) rfl dX7_readText_148 ?_
        refine lv_bipush (v := (-9)) hx hb dX7_readText_151 (by decide) ?_
        refine lv_icmp_ne (tgt := 161) hx hb dX7_readText_153 (by decide) (fun c_2 => ?_) (fun c_2 => ?_)
        · skip
          refine lv_aload_n hx hb dX7_readText_161 rfl (lv_at hl 1 rfl) ?_
          refine va_get (D := g.1) (ci := 6) (v := .int (nI ln)) (C := RX7) (T := TX7) (N := 19) hx hb hw inlX7 hown hkn.1 hP 0 rfl rfl 1 (by decide) (hw _ mw_100) (fun _ h9 => h9) rfl dX7_readText_162 ?_
          have e9 := h_e (by omega)
          rw [if_neg (fun q => c_2 ((relW_end h_r).mpr q)), show i = ln by omega] at e9
          exact eM_i (g := g) hx hb hr hlocks (r1, dd, qq) (⟨by rw [e9], by rw [e9]⟩) (hP.sub [0, 1] rfl) (hD.sub [0, 1] (by decide) rfl) hS dX7_readText_165
        · skip
          refine lv_bipush (v := (-9)) hx hb dX7_readText_156 (by decide) ?_
          refine lv_goto (tgt := 165) hx hb dX7_readText_158 (by decide) ?_
          have e9 := h_e (by omega)
          rw [if_pos ((relW_end h_r).mp c_2)] at e9
          exact eM_i (g := g) hx hb hr hlocks (r1, dd, qq) (⟨by rw [e9], by rw [e9]⟩) (hP.sub [0, 1] rfl) (hD.sub [0, 1] (by decide) rfl) hS dX7_readText_165
      · skip
        refine lv_aload_n hx hb dX7_readText_25 rfl (lv_at hl 1 rfl) ?_
        refine va_get (D := g.1) (ci := 6) (v := .ref d1) (C := RX7) (T := TX7) (N := 19) hx hb hw inlX7 hown hkn.1 hP 0 rfl rfl 0 (by decide) (hw _ mw_73) (fun _ h9 => h9) rfl dX7_readText_26 ?_
        refine lv_iload_n hx hb dX7_readText_29 rfl (lv_at hl 0 rfl) ?_
        refine va_iald hx hb hkn.1 hP 1 0 rfl rfl (vp_in_nI (n := i) (by omega) (by decide)) dX7_readText_30 ?_
        refine lv_eqi (show _ = tl i by rw [nI_clamp (n := i) (by omega)]) ?_
        refine lv_bipush (v := 113) hx hb dX7_readText_31 (by decide) ?_
        have mg_56 : W p l e ({ frames := 3, cells := 0, slots := 0, locals := 72 } : Room) s m ([.ref h0] : List Value).toArray below meth c H locs 0 0 (MQ below (QAi g (fun (r : Int32) (u : Int64 × Int32 × Int32) => r = (ffA tl ln).1 ∧ u.1 = (ffA tl ln).2) (fun (u : Int64 × Int32 × Int32) => [(h0, .inr (6, [.ref d1, .int (nI ln), .long u.1, .int u.2.1, .int u.2.2, .ref d2, .int (nI an), .int (nI nx), .ref d3, .ref d4, .ref d5, .ref d6, .int xm, .int (nI zn), .ref d7, .ref d8, .long sd, .ref d9, .ref d0])), (d1, .inl (gI g, 64, .inl tl))]) A) ([.ref h0] : List Value).toArray s 0 0 A) (F0 m 56 ls (.int (if (tl i) = 113 then (if inL ((dd).toInt64) 0 2 = true then 1 else 0) else 0) :: [])) := by
          refine lv_eqi (show _ = (b2i (decide (tl i = 113) && inL (dd).toInt64 0 2)) from by by_cases h9 : tl i = 113 <;> cases h8 : inL (dd).toInt64 0 2 <;> simp [h9, h8, b2i]) ?_
          refine lv_istore_n (lv' := [(2, .int (b2i (decide (tl i = 113) && inL (dd).toInt64 0 2))), (1, .int (nI i)), (0, .ref h0)]) hx hb dX7_readText_56 rfl hl (by decide) rfl (fun ls hl => ?_)
          refine lv_iload_n hx hb dX7_readText_57 rfl (lv_at hl 0 rfl) ?_
          refine lv_ifneB (b := (decide (tl i = 113) && inL (dd).toInt64 0 2)) (tgt := 84) hx hb dX7_readText_58 (by decide) (fun c_3 => ?_) (fun c_3 => ?_)
          · skip
            refine lv_iload_n hx hb dX7_readText_84 rfl (lv_at hl 0 rfl) ?_
            refine lv_ifeqB (b := (decide (tl i = 113) && inL (dd).toInt64 0 2)) (tgt := 111) hx hb dX7_readText_85 (by decide) (fun c_4 => ?_) (fun c_4 => ?_)
            · skip
              exact absurd (c_3.symm.trans c_4) (by decide)
            · skip
              refine lv_aload_n hx hb dX7_readText_88 rfl (lv_at hl 2 rfl) ?_
              refine lv_dup hx hb dX7_readText_89 rfl ?_
              refine va_get (D := g.1) (ci := 6) (v := .int dd) (C := RX7) (T := TX7) (N := 19) hx hb hw inlX7 hown hkn.1 hP 0 rfl rfl 3 (by decide) (hw _ mw_177) (fun _ h9 => h9) rfl dX7_readText_90 ?_
              refine lv_iconst (v := 1) hx hb dX7_readText_93 (by decide) ?_
              refine lv_iadd hx hb dX7_readText_94 ?_
              refine va_put (D := g.1) (ci := 6) (v := .int (dd + 1)) (ty := .int) (C := RX7) (T := TX7) (N := 19) hx hb hw inlX7 tyX7 tyX7_ok nmX7 hown hkn.1 hP hD hS 0 rfl rfl 3 (by decide) (hw _ mw_177) (fun _ h9 => h9) rfl (by decide +kernel) rfl rfl (Nat.le_of_ble_eq_true rfl) dX7_readText_95 (fun H locs hP hD hS => ?_)
              have hP : va_P g.1 vwCl [(h0, .inr (6, [.ref d1, .int (nI ln), .long r1, .int (dd + 1), .int qq, .ref d2, .int (nI an), .int (nI nx), .ref d3, .ref d4, .ref d5, .ref d6, .int xm, .int (nI zn), .ref d7, .ref d8, .long sd, .ref d9, .ref d0])), (d1, .inl (gI g, 64, .inl tl))] H := hP
              have hD : va_D A [(h0, .inr (6, [.ref d1, .int (nI ln), .long r1, .int (dd + 1), .int qq, .ref d2, .int (nI an), .int (nI nx), .ref d3, .ref d4, .ref d5, .ref d6, .int xm, .int (nI zn), .ref d7, .ref d8, .long sd, .ref d9, .ref d0])), (d1, .inl (gI g, 64, .inl tl))] := hD
              refine lv_aload_n hx hb dX7_readText_98 rfl (lv_at hl 2 rfl) ?_
              refine lv_dup hx hb dX7_readText_99 rfl ?_
              refine va_get (D := g.1) (ci := 6) (v := .int qq) (C := RX7) (T := TX7) (N := 19) hx hb hw inlX7 hown hkn.1 hP 0 rfl rfl 4 (by decide) (hw _ mw_178) (fun _ h9 => h9) rfl dX7_readText_100 ?_
              refine lv_iconst (v := 4) hx hb dX7_readText_103 (by decide) ?_
              refine lv_imul hx hb dX7_readText_104 ?_
              refine va_put (D := g.1) (ci := 6) (v := .int (qq * 4)) (ty := .int) (C := RX7) (T := TX7) (N := 19) hx hb hw inlX7 tyX7 tyX7_ok nmX7 hown hkn.1 hP hD hS 0 rfl rfl 4 (by decide) (hw _ mw_178) (fun _ h9 => h9) rfl (by decide +kernel) rfl rfl (Nat.le_of_ble_eq_true rfl) dX7_readText_105 (fun H locs hP hD hS => ?_)
              have hP : va_P g.1 vwCl [(h0, .inr (6, [.ref d1, .int (nI ln), .long r1, .int (dd + 1), .int (qq * 4), .ref d2, .int (nI an), .int (nI nx), .ref d3, .ref d4, .ref d5, .ref d6, .int xm, .int (nI zn), .ref d7, .ref d8, .long sd, .ref d9, .ref d0])), (d1, .inl (gI g, 64, .inl tl))] H := hP
              have hD : va_D A [(h0, .inr (6, [.ref d1, .int (nI ln), .long r1, .int (dd + 1), .int (qq * 4), .ref d2, .int (nI an), .int (nI nx), .ref d3, .ref d4, .ref d5, .ref d6, .int xm, .int (nI zn), .ref d7, .ref d8, .long sd, .ref d9, .ref d0])), (d1, .inl (gI g, 64, .inl tl))] := hD
              refine lv_goto (tgt := 141) hx hb dX7_readText_108 (by decide) ?_
              obtain ⟨hx8, hin8⟩ := (Bool.and_eq_true _ _).mp c_3
              have hx9 : tl i = 113 := of_decide_eq_true hx8
              rw [relW_in h_r] at hin8
              obtain ⟨hp8, hd8⟩ := (Bool.and_eq_true _ _).mp hin8
              have hp9 : pw < 64 := of_decide_eq_true hp8
              have hd9 : dw < 3 := of_decide_eq_true hd8
              have eB : rdB (tl i) pw dw = true := by unfold rdB; rw [if_neg (Nat.not_le.mpr hp9), if_pos hx9]; exact hd8
              have eP : rdP (tl i) pw dw = pw := by unfold rdP; rw [if_neg (Nat.not_le.mpr hp9), if_pos hx9]
              have eD : rdD (tl i) pw dw = dw + 1 := by unfold rdD ctN; rw [if_neg (Nat.not_le.mpr hp9), if_pos hx9, if_pos hd9]
              have eR : rdR (tl i) pw dw r1 = r1 := by unfold rdR; rw [if_neg (Nat.not_le.mpr hp9), if_pos hx9]
              have hrel : relW (dd + 1) (qq * 4) (rdP (tl i) pw dw) (rdD (tl i) pw dw) := by rw [eP, eD]; exact relW_cut h_r hp9 hd9
              have hffg : ffG tl (ln - (i + 1)) (i + 1) (rdP (tl i) pw dw) (rdD (tl i) pw dw) r1 = ffA tl ln := by rw [h_s (ln - (i + 1)) (by omega), if_pos eB, eR]
              refine lv_iinc (v := (nI (i + 1))) (lv' := [(1, .int (nI (i + 1))), (2, .int (b2i (decide (tl i = 113) && inL (dd).toInt64 0 2))), (0, .ref h0)]) hx hb dX7_readText_141 hl (k := 1) rfl (nI_1 i) (by decide) rfl (fun ls hl => ?_)
              refine lv_goto (tgt := 17) hx hb dX7_readText_144 (by decide) ?_
              exact ih_17 (i + 1) r1 (dd + 1) (qq * 4) (rdP (tl i) pw dw) (rdD (tl i) pw dw) (by omega) (hrel) (hffg) (by omega) _ _ hP hD hS ls (lv_sub hl [0, 2] rfl)
          · skip
            refine lv_aload_n hx hb dX7_readText_61 rfl (lv_at hl 2 rfl) ?_
            refine va_get (D := g.1) (ci := 6) (v := .int dd) (C := RX7) (T := TX7) (N := 19) hx hb hw inlX7 hown hkn.1 hP 0 rfl rfl 3 (by decide) (hw _ mw_177) (fun _ h9 => h9) rfl dX7_readText_62 ?_
            refine lv_bipush (v := (-9)) hx hb dX7_readText_65 (by decide) ?_
            refine lv_icmp_eq (tgt := 82) hx hb dX7_readText_67 (by decide) (fun c_5 => ?_) (fun c_5 => ?_)
            · skip
              refine lv_iload_n hx hb dX7_readText_82 rfl (lv_at hl 1 rfl) ?_
              have hnc := c_3
              have hp9 : 64 ≤ pw := (relW_end h_r).mp c_5
              have eB : ¬ rdB (tl i) pw dw = true := by unfold rdB; rw [if_pos hp9]; decide
              have eR : rdR (tl i) pw dw r1 = r1 := by unfold rdR; rw [if_pos hp9]
              have e9 := h_s (ln - (i + 1)) (by omega)
              rw [if_neg eB, eR] at e9
              exact eM_i (g := g) hx hb hr hlocks (r1, dd, qq) (⟨by rw [e9], by rw [e9]⟩) (hP.sub [0, 1] rfl) (hD.sub [0, 1] (by decide) rfl) hS dX7_readText_83
            · skip
              refine lv_aload_n hx hb dX7_readText_70 rfl (lv_at hl 2 rfl) ?_
              refine va_get (D := g.1) (ci := 6) (v := .ref d1) (C := RX7) (T := TX7) (N := 19) hx hb hw inlX7 hown hkn.1 hP 0 rfl rfl 0 (by decide) (hw _ mw_73) (fun _ h9 => h9) rfl dX7_readText_71 ?_
              refine lv_iload_n hx hb dX7_readText_74 rfl (lv_at hl 1 rfl) ?_
              refine va_iald hx hb hkn.1 hP 1 0 rfl rfl (vp_in_nI (n := i) (by omega) (by decide)) dX7_readText_75 ?_
              refine lv_eqi (show _ = tl i by rw [nI_clamp (n := i) (by omega)]) ?_
              refine cS_i (As := [.int (tl i)]) (rest := []) hx hb hml hown hw hkn hS hl (c_X7_isLeaf l g _ (tl i) ) sf_X7_isLeaf mw_181 ⟨(Nat.le_of_ble_eq_true rfl), (Nat.le_of_ble_eq_true rfl)⟩ rfl rfl rfl rfl (Nat.le_of_ble_eq_true rfl) dX7_readText_76 ⟨(Nat.le_of_ble_eq_true rfl), (Nat.le_of_ble_eq_true rfl)⟩ ?_
              refine lv_ifneB (b := isLeafB (tl i)) (tgt := 84) hx hb dX7_readText_79 (by decide) (fun c_6 => ?_) (fun c_6 => ?_)
              · skip
                refine lv_iload_n hx hb dX7_readText_84 rfl (lv_at hl 0 rfl) ?_
                refine lv_ifeqB (b := (decide (tl i = 113) && inL (dd).toInt64 0 2)) (tgt := 111) hx hb dX7_readText_85 (by decide) (fun c_7 => ?_) (fun c_7 => ?_)
                · skip
                  obtain ⟨hp9, rfl, rfl⟩ := relW_nat h_r c_5
                  have ho9 := h_r.1
                  have hd9 := ho9.1
                  have hq9 := pq_lt hd9 hp9
                  refine lv_aload_n hx hb dX7_readText_111 rfl (lv_at hl 2 rfl) ?_
                  refine lv_dup hx hb dX7_readText_112 rfl ?_
                  refine va_get (D := g.1) (ci := 6) (v := .long r1) (C := RX7) (T := TX7) (N := 19) hx hb hw inlX7 hown hkn.1 hP 0 rfl rfl 2 (by decide) (hw _ mw_179) (fun _ h9 => h9) rfl dX7_readText_113 ?_
                  refine lv_aload_n hx hb dX7_readText_116 rfl (lv_at hl 2 rfl) ?_
                  refine va_get (D := g.1) (ci := 6) (v := .int (nI dw)) (C := RX7) (T := TX7) (N := 19) hx hb hw inlX7 hown hkn.1 hP 0 rfl rfl 3 (by decide) (hw _ mw_177) (fun _ h9 => h9) rfl dX7_readText_117 ?_
                  refine lv_aload_n hx hb dX7_readText_120 rfl (lv_at hl 2 rfl) ?_
                  refine va_get (D := g.1) (ci := 6) (v := .int (nI (pw / szN dw))) (C := RX7) (T := TX7) (N := 19) hx hb hw inlX7 hown hkn.1 hP 0 rfl rfl 4 (by decide) (hw _ mw_178) (fun _ h9 => h9) rfl dX7_readText_121 ?_
                  refine lv_aload_n hx hb dX7_readText_124 rfl (lv_at hl 2 rfl) ?_
                  refine va_get (D := g.1) (ci := 6) (v := .ref d1) (C := RX7) (T := TX7) (N := 19) hx hb hw inlX7 hown hkn.1 hP 0 rfl rfl 0 (by decide) (hw _ mw_73) (fun _ h9 => h9) rfl dX7_readText_125 ?_
                  refine lv_iload_n hx hb dX7_readText_128 rfl (lv_at hl 1 rfl) ?_
                  refine va_iald hx hb hkn.1 hP 1 0 rfl rfl (vp_in_nI (n := i) (by omega) (by decide)) dX7_readText_129 ?_
                  refine lv_eqi (show _ = tl i by rw [nI_clamp (n := i) (by omega)]) ?_
                  refine cS_l (As := [.int (nI dw), .int (nI (pw / szN dw)), .int (tl i)]) (rest := [.long r1, .ref h0]) hx hb hml hown hw hkn hS hl (c_X7_paintOf l g _ dw (pw / szN dw) (tl i) (by omega) (by omega)) sf_X7_paintOf mw_184 ⟨(Nat.le_of_ble_eq_true rfl), (Nat.le_of_ble_eq_true rfl)⟩ rfl rfl rfl rfl (Nat.le_of_ble_eq_true rfl) dX7_readText_130 ⟨(Nat.le_of_ble_eq_true rfl), (Nat.le_of_ble_eq_true rfl)⟩ ?_
                  refine lv_lor hx hb dX7_readText_133 ?_
                  refine va_put (D := g.1) (ci := 6) (v := .long (r1 ||| (ptM dw (pw / szN dw) (tl i)))) (ty := .long) (C := RX7) (T := TX7) (N := 19) hx hb hw inlX7 tyX7 tyX7_ok nmX7 hown hkn.1 hP hD hS 0 rfl rfl 2 (by decide) (hw _ mw_179) (fun _ h9 => h9) rfl (by decide +kernel) rfl rfl (Nat.le_of_ble_eq_true rfl) dX7_readText_134 (fun H locs hP hD hS => ?_)
                  have hP : va_P g.1 vwCl [(h0, .inr (6, [.ref d1, .int (nI ln), .long (r1 ||| (ptM dw (pw / szN dw) (tl i))), .int (nI dw), .int (nI (pw / szN dw)), .ref d2, .int (nI an), .int (nI nx), .ref d3, .ref d4, .ref d5, .ref d6, .int xm, .int (nI zn), .ref d7, .ref d8, .long sd, .ref d9, .ref d0])), (d1, .inl (gI g, 64, .inl tl))] H := hP
                  have hD : va_D A [(h0, .inr (6, [.ref d1, .int (nI ln), .long (r1 ||| (ptM dw (pw / szN dw) (tl i))), .int (nI dw), .int (nI (pw / szN dw)), .ref d2, .int (nI an), .int (nI nx), .ref d3, .ref d4, .ref d5, .ref d6, .int xm, .int (nI zn), .ref d7, .ref d8, .long sd, .ref d9, .ref d0])), (d1, .inl (gI g, 64, .inl tl))] := hD
                  refine lv_aload_n hx hb dX7_readText_137 rfl (lv_at hl 2 rfl) ?_
                  refine cVM_v (As := []) (rest := []) (q0 := 0) (wc := [(h0, .inr (6, [.ref d1, .int (nI ln), .long (r1 ||| (ptM dw (pw / szN dw) (tl i))), .int (nI dw), .int (nI (pw / szN dw)), .ref d2, .int (nI an), .int (nI nx), .ref d3, .ref d4, .ref d5, .ref d6, .int xm, .int (nI zn), .ref d7, .ref d8, .long sd, .ref d9, .ref d0]))]) (wr := [(d1, .inl (gI g, 64, .inl tl))]) hx hb hml hown hw hkn hS hl hA hP hD [0] [1] rfl rfl (by decide) (by decide) (by decide) (c_X7_goOn l g _ h0 d1 ln (r1 ||| (ptM dw (pw / szN dw) (tl i))) dw (pw / szN dw) d2 an nx d3 d4 d5 d6 xm zn d7 d8 sd d9 d0 (by omega) (by omega)) vf_X7_goOn mw_199 rfl rfl ⟨(Nat.le_of_ble_eq_true rfl), (Nat.le_of_ble_eq_true rfl)⟩ rfl rfl rfl rfl (Nat.le_of_ble_eq_true rfl) dX7_readText_138 ⟨(Nat.le_of_ble_eq_true rfl), (Nat.le_of_ble_eq_true rfl)⟩ (fun u H locs hq hP hD hS => ?_)
                  have hP : va_P g.1 vwCl [(h0, .inr (6, [.ref d1, .int (nI ln), .long (r1 ||| (ptM dw (pw / szN dw) (tl i))), .int (gdI dw (pw / szN dw)), .int (gpI dw (pw / szN dw)), .ref d2, .int (nI an), .int (nI nx), .ref d3, .ref d4, .ref d5, .ref d6, .int xm, .int (nI zn), .ref d7, .ref d8, .long sd, .ref d9, .ref d0])), (d1, .inl (gI g, 64, .inl tl))] H := hP.sub [1, 0] rfl
                  have hD : va_D A [(h0, .inr (6, [.ref d1, .int (nI ln), .long (r1 ||| (ptM dw (pw / szN dw) (tl i))), .int (gdI dw (pw / szN dw)), .int (gpI dw (pw / szN dw)), .ref d2, .int (nI an), .int (nI nx), .ref d3, .ref d4, .ref d5, .ref d6, .int xm, .int (nI zn), .ref d7, .ref d8, .long sd, .ref d9, .ref d0])), (d1, .inl (gI g, 64, .inl tl))] := hD.sub [1, 0] (by decide) rfl
                  have hx9 : ¬ tl i = 113 := fun q => by rw [q] at c_6; exact absurd c_6 (by decide)
                  have eB : rdB (tl i) pw dw = true := by unfold rdB; rw [if_neg (Nat.not_le.mpr hp9), if_neg hx9]; exact c_6
                  have eP : rdP (tl i) pw dw = pw + szN dw := by unfold rdP; rw [if_neg (Nat.not_le.mpr hp9), if_neg hx9, if_pos c_6]
                  have eD : rdD (tl i) pw dw = psN (pw + szN dw) dw := by unfold rdD; rw [if_neg (Nat.not_le.mpr hp9), if_neg hx9, if_pos c_6]
                  have eR : rdR (tl i) pw dw r1 = r1 ||| ptM dw (pw / szN dw) (tl i) := by unfold rdR; rw [if_neg (Nat.not_le.mpr hp9), if_neg hx9, if_pos c_6, pt_eq ho9 hp9 c_6]
                  have hrel : relW (gdI dw (pw / szN dw)) (gpI dw (pw / szN dw)) (rdP (tl i) pw dw) (rdD (tl i) pw dw) := by rw [eP, eD]; exact relW_go ho9 hp9
                  have hffg : ffG tl (ln - (i + 1)) (i + 1) (rdP (tl i) pw dw) (rdD (tl i) pw dw) (r1 ||| ptM dw (pw / szN dw) (tl i)) = ffA tl ln := by rw [h_s (ln - (i + 1)) (by omega), if_pos eB, eR]
                  refine lv_iinc (v := (nI (i + 1))) (lv' := [(1, .int (nI (i + 1))), (2, .int (b2i (decide (tl i = 113) && inL ((nI dw)).toInt64 0 2))), (0, .ref h0)]) hx hb dX7_readText_141 hl (k := 1) rfl (nI_1 i) (by decide) rfl (fun ls hl => ?_)
                  refine lv_goto (tgt := 17) hx hb dX7_readText_144 (by decide) ?_
                  exact ih_17 (i + 1) (r1 ||| (ptM dw (pw / szN dw) (tl i))) (gdI dw (pw / szN dw)) (gpI dw (pw / szN dw)) (rdP (tl i) pw dw) (rdD (tl i) pw dw) (by omega) (hrel) (hffg) (by omega) _ _ hP hD hS ls (lv_sub hl [0, 2] rfl)
                · skip
                  exact absurd (c_3.symm.trans c_7) (by decide)
              · skip
                refine lv_iload_n hx hb dX7_readText_82 rfl (lv_at hl 1 rfl) ?_
                have hnc := c_3
                obtain ⟨hp9, hd9, -⟩ := relW_nat h_r c_5
                have eB : ¬ rdB (tl i) pw dw = true := by unfold rdB; rw [if_neg (Nat.not_le.mpr hp9)]; by_cases h9 : tl i = 113; (rw [if_pos h9]; rw [relW_in h_r, decide_eq_true h9, decide_eq_true hp9] at hnc; simp at hnc ⊢; exact hnc); (rw [if_neg h9, c_6]; decide)
                have eR : rdR (tl i) pw dw r1 = r1 := by unfold rdR; rw [if_neg (Nat.not_le.mpr hp9), if_neg (nt_of c_6)]; exact ite_self _
                have e9 := h_s (ln - (i + 1)) (by omega)
                rw [if_neg eB, eR] at e9
                exact eM_i (g := g) hx hb hr hlocks (r1, dd, qq) (⟨by rw [e9], by rw [e9]⟩) (hP.sub [0, 1] rfl) (hD.sub [0, 1] (by decide) rfl) hS dX7_readText_83
        refine lv_icmp_ne (tgt := 55) hx hb dX7_readText_33 (by decide) (fun c_9 => ?_) (fun c_9 => ?_)
        · skip
          refine lv_iconst (v := 0) hx hb dX7_readText_55 (by decide) ?_
          exact lv_eqi (by rw [if_neg c_9]) mg_56
        · skip
          refine lv_aload_n hx hb dX7_readText_36 rfl (lv_at hl 1 rfl) ?_
          refine va_get (D := g.1) (ci := 6) (v := .int dd) (C := RX7) (T := TX7) (N := 19) hx hb hw inlX7 hown hkn.1 hP 0 rfl rfl 3 (by decide) (hw _ mw_177) (fun _ h9 => h9) rfl dX7_readText_37 ?_
          refine lv_i2l hx hb dX7_readText_40 rfl ?_
          refine lv_lconst (v := 0) hx hb dX7_readText_41 rfl ?_
          refine lv_ldc2 hx hb hown (hw _ mw_180) dX7_readText_42 ?_
          refine cS_i (As := [.long ((dd).toInt64), .long 0, .long 2]) (rest := []) hx hb hml hown hw hkn hS hl (c_X7_in l g _ ((dd).toInt64) 0 2 ) sf_X7_in mw_101 ⟨(Nat.le_of_ble_eq_true rfl), (Nat.le_of_ble_eq_true rfl)⟩ rfl rfl rfl rfl (Nat.le_of_ble_eq_true rfl) dX7_readText_45 ⟨(Nat.le_of_ble_eq_true rfl), (Nat.le_of_ble_eq_true rfl)⟩ ?_
          refine lv_ifeqB (b := inL ((dd).toInt64) 0 2) (tgt := 55) hx hb dX7_readText_48 (by decide) (fun c_10 => ?_) (fun c_10 => ?_)
          · skip
            refine lv_iconst (v := 0) hx hb dX7_readText_55 (by decide) ?_
            exact lv_eqi (by rw [if_pos c_9, if_neg (nt_of c_10)]) mg_56
          · skip
            refine lv_iconst (v := 1) hx hb dX7_readText_51 (by decide) ?_
            refine lv_goto (tgt := 56) hx hb dX7_readText_52 (by decide) ?_
            exact lv_eqi (by rw [if_pos c_9, if_pos c_10]) mg_56
  exact lp_17 (ln + 1) 0 0 0 0 0 0 (by omega) (relW_0) (rfl) (by omega) _ _ hP hD hS ls (lv_sub hl [0, 1] rfl)
set_option maxHeartbeats 4000000 in
set_option maxRecDepth 100000 in
theorem c_X7_fault (l : Launch) (g : GG) (sz : Nat) (h0 : Nat) (d1 : Nat) (ln : Nat) (rd : Int64) (xd : Int32) (xq : Int32) (d2 : Nat) (an : Nat) (nx : Nat) (d3 : Nat) (d4 : Nat) (d5 : Nat) (d6 : Nat) (xm : Int32) (zn : Nat) (d7 : Nat) (d8 : Nat) (sd : Int64) (d9 : Nat) (d0 : Nat) (tl : Nat → Int32) (hln : ln ≤ 64) : Met l yX7_fault (Cond.code yX7_fault cX7_fault 1 (some .int) :: wsL_law) ({ frames := 4, cells := 0, slots := 0, locals := 94 }) (PM g [.ref h0] [(h0, .inr (6, [.ref d1, .int (nI ln), .long rd, .int xd, .int xq, .ref d2, .int (nI an), .int (nI nx), .ref d3, .ref d4, .ref d5, .ref d6, .int xm, .int (nI zn), .ref d7, .ref d8, .long sd, .ref d9, .ref d0])), (d1, .inl (gI g, 64, .inl tl))] sz) (QAi g (fun (r : Int32) (u : Int64 × Int32 × Int32) => r = (ffA tl ln).1) (fun (u : Int64 × Int32 × Int32) => [(h0, .inr (6, [.ref d1, .int (nI ln), .long u.1, .int u.2.1, .int u.2.2, .ref d2, .int (nI an), .int (nI nx), .ref d3, .ref d4, .ref d5, .ref d6, .int xm, .int (nI zn), .ref d7, .ref d8, .long sd, .ref d9, .ref d0])), (d1, .inl (gI g, 64, .inl tl))]) (va_A [(h0, .inr (6, [.ref d1, .int (nI ln), .long rd, .int xd, .int xq, .ref d2, .int (nI an), .int (nI nx), .ref d3, .ref d4, .ref d5, .ref d6, .int xm, .int (nI zn), .ref d7, .ref d8, .long sd, .ref d9, .ref d0])), (d1, .inl (gI g, 64, .inl tl))] sz)) 0 0 (va_A [(h0, .inr (6, [.ref d1, .int (nI ln), .long rd, .int xd, .int xq, .ref d2, .int (nI an), .int (nI nx), .ref d3, .ref d4, .ref d5, .ref d6, .int xm, .int (nI zn), .ref d7, .ref d8, .long sd, .ref d9, .ref d0])), (d1, .inl (gI g, 64, .inl tl))] sz) := by
  refine Met.M (Qc := fun A => QAi g (fun (r : Int32) (u : Int64 × Int32 × Int32) => r = (ffA tl ln).1) (fun (u : Int64 × Int32 × Int32) => [(h0, .inr (6, [.ref d1, .int (nI ln), .long u.1, .int u.2.1, .int u.2.2, .ref d2, .int (nI an), .int (nI nx), .ref d3, .ref d4, .ref d5, .ref d6, .int xm, .int (nI zn), .ref d7, .ref d8, .long sd, .ref d9, .ref d0])), (d1, .inl (gI g, 64, .inl tl))]) A) (by decide) (Nat.le_of_ble_eq_true rfl) rfl ?_
  intro p e s m below meth c hx hb hr hml hw hown hlocks hin A hA hkn hP hD ls hl
  have hl : lv_has ls 1 [(0, .ref h0)] := hl
  have hS : va_S A s.heap s.heap [] := va_S.rf
  obtain ⟨H, hHe⟩ : ∃ H, H = s.heap := ⟨_, rfl⟩
  obtain ⟨locs, hLe⟩ : ∃ locs : List Loc, locs = [] := ⟨_, rfl⟩
  have hP : va_P g.1 vwCl [(h0, .inr (6, [.ref d1, .int (nI ln), .long rd, .int xd, .int xq, .ref d2, .int (nI an), .int (nI nx), .ref d3, .ref d4, .ref d5, .ref d6, .int xm, .int (nI zn), .ref d7, .ref d8, .long sd, .ref d9, .ref d0])), (d1, .inl (gI g, 64, .inl tl))] H := by rw [hHe]; exact hP
  have hS : va_S A s.heap H locs := by rw [hHe, hLe]; exact hS
  have hgo : W p l e ({ frames := 4, cells := 0, slots := 0, locals := 94 } : Room) s m ([.ref h0] : List Value).toArray below meth c H locs 0 0 (MQ below (QAi g (fun (r : Int32) (u : Int64 × Int32 × Int32) => r = (ffA tl ln).1) (fun (u : Int64 × Int32 × Int32) => [(h0, .inr (6, [.ref d1, .int (nI ln), .long u.1, .int u.2.1, .int u.2.2, .ref d2, .int (nI an), .int (nI nx), .ref d3, .ref d4, .ref d5, .ref d6, .int xm, .int (nI zn), .ref d7, .ref d8, .long sd, .ref d9, .ref d0])), (d1, .inl (gI g, 64, .inl tl))]) A) ([.ref h0] : List Value).toArray s 0 0 A) (F0 m 0 ls []) := ?_
  · rw [hHe, hLe] at hgo; exact hgo
  clear hHe hLe
  refine lv_aload_n hx hb dX7_fault_0 rfl (lv_at hl 0 rfl) ?_
  refine cVM_i (As := []) (rest := []) (q0 := 0) (wc := [(h0, .inr (6, [.ref d1, .int (nI ln), .long rd, .int xd, .int xq, .ref d2, .int (nI an), .int (nI nx), .ref d3, .ref d4, .ref d5, .ref d6, .int xm, .int (nI zn), .ref d7, .ref d8, .long sd, .ref d9, .ref d0])), (d1, .inl (gI g, 64, .inl tl))]) (wr := []) hx hb hml hown hw hkn hS hl hA hP hD [0, 1] [] rfl rfl (by decide) (by decide) (by decide) (c_X7_readText l g _ h0 d1 ln rd xd xq d2 an nx d3 d4 d5 d6 xm zn d7 d8 sd d9 d0 tl (by omega)) vf_X7_readText mw_173 rfl rfl ⟨(Nat.le_of_ble_eq_true rfl), (Nat.le_of_ble_eq_true rfl)⟩ rfl rfl rfl rfl (Nat.le_of_ble_eq_true rfl) dX7_fault_1 ⟨(Nat.le_of_ble_eq_true rfl), (Nat.le_of_ble_eq_true rfl)⟩ (fun r u H locs hq hP hD hS => ?_)
  obtain ⟨r9_1, y1_1, y2_1⟩ := u
  dsimp only at hq hP hD
  obtain ⟨hr_1, hq_1⟩ := hq
  subst hr_1
  have hP : va_P g.1 vwCl [(h0, .inr (6, [.ref d1, .int (nI ln), .long r9_1, .int y1_1, .int y2_1, .ref d2, .int (nI an), .int (nI nx), .ref d3, .ref d4, .ref d5, .ref d6, .int xm, .int (nI zn), .ref d7, .ref d8, .long sd, .ref d9, .ref d0])), (d1, .inl (gI g, 64, .inl tl))] H := hP.sub [0, 1] rfl
  have hD : va_D A [(h0, .inr (6, [.ref d1, .int (nI ln), .long r9_1, .int y1_1, .int y2_1, .ref d2, .int (nI an), .int (nI nx), .ref d3, .ref d4, .ref d5, .ref d6, .int xm, .int (nI zn), .ref d7, .ref d8, .long sd, .ref d9, .ref d0])), (d1, .inl (gI g, 64, .inl tl))] := hD.sub [0, 1] (by decide) rfl
  exact eM_i (g := g) hx hb hr hlocks (r9_1, y1_1, y2_1) (rfl) (hP.sub [0, 1] rfl) (hD.sub [0, 1] (by decide) rfl) hS dX7_fault_4
