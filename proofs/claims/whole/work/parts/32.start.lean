/-! The start of the law. -/
theorem tb1 {w : Cond} (h : w ∈ tables_1_1) : w ∈ lw_tbl := List.mem_append_right _ (List.mem_append_left _ h)
theorem tb2 {w : Cond} (h : w ∈ tables_1_2) : w ∈ lw_tbl := List.mem_append_right _ (List.mem_append_right _ (List.mem_append_left _ h))
theorem tb3 {w : Cond} (h : w ∈ tables_1_3) : w ∈ lw_tbl := List.mem_append_right _ (List.mem_append_right _ (List.mem_append_right _ (List.mem_append_left _ h)))
theorem arr_of {args : Array Value} {s : State} {ty : FieldType} (h : (Cond.arrayClass ty).before args s = true) : ∃ cA : ClassId, ArrOfT s cA ty ∧ s.vm.findClass ("[" ++ ty.toString) = some cA := by
  obtain ⟨cA, k, comp, h1, h2, h3⟩ := Cond.arrayClass_spec h
  exact ⟨cA, fun n z => ⟨fun k h => (by cases h), k, h2, comp, h3⟩, h1⟩
set_option maxHeartbeats 4000000 in
set_option maxRecDepth 100000 in
theorem kn_start {s : State} {b : Nat} (hts : ∀ w ∈ lw_tbl, w.before #[Value.ref b] s = true) (hgv : (Jvm.Cond.and given_1 narrow_1).before #[Value.ref b] s = true) : ∃ g : GG, Kn g (fun q : Nat => s.heap.size ≤ q) s := by
  have hw : ∀ w ∈ wsL_law, w.before #[Value.ref b] s = true := fun w h => hts w (wsL_law_in w h)
  have hg := flat_of_before _ hgv
  have hnA : ∀ a : Nat, a < s.heap.size → ¬ (fun q : Nat => s.heap.size ≤ q) a := fun a h q => absurd h (Nat.not_lt.mpr q)
  obtain ⟨k0, i0, hK0⟩ := u_known (C := RX0) (T := TX0) (N := 3) (n := 3) hw inlX0 (hw _ mw_24)
  obtain ⟨k1, i1, hK1⟩ := u_known (C := RX1) (T := TX1) (N := 1) (n := 1) hw inlX1 (hw _ mw_14)
  obtain ⟨k2, i2, hK2⟩ := u_known (C := RX3) (T := TX3) (N := 3) (n := 3) hw inlX3 (hw _ mw_28)
  obtain ⟨k3, i3, hK3⟩ := u_known (C := RX4) (T := TX4) (N := 4) (n := 4) hw inlX4 (hw _ mw_20)
  obtain ⟨k4, i4, hK4⟩ := u_known (C := RX5) (T := TX5) (N := 2) (n := 2) hw inlX5 (hw _ mw_32)
  obtain ⟨k5, i5, hK5⟩ := u_known (C := RX6) (T := TX6) (N := 9) (n := 9) hw inlX6 (hw _ mw_1)
  obtain ⟨k6, i6, hK6⟩ := u_known (C := RX7) (T := TX7) (N := 19) (n := 19) hw inlX7 (hw _ mw_4)
  obtain ⟨dC, dI, hKc⟩ : ∃ (dC : Nat → ClassId) (dI : Nat → Nat → Nat), ∀ (k : Nat) (q : vw_C), vwCl[k]? = some q → u_Kn s q.1 q.2.1 q.2.2 (dC k) (dI k) := by
    refine ⟨fun k => match k with | 0 => k0 | 1 => k1 | 2 => k2 | 3 => k3 | 4 => k4 | 5 => k5 | _ => k6, fun k => match k with | 0 => i0 | 1 => i1 | 2 => i2 | 3 => i3 | 4 => i4 | 5 => i5 | _ => i6, ?_⟩
    intro k q hq
    match k, hq with
    | 0, hq => cases hq; exact hK0
    | 1, hq => cases hq; exact hK1
    | 2, hq => cases hq; exact hK2
    | 3, hq => cases hq; exact hK3
    | 4, hq => cases hq; exact hK4
    | 5, hq => cases hq; exact hK5
    | 6, hq => cases hq; exact hK6
    | k + 7, hq => simp [vwCl] at hq
  obtain ⟨cI, aI, nI9⟩ := arr_of (hw _ mw_35)
  obtain ⟨cJ, aJ, nJ9⟩ := arr_of (hw _ mw_41)
  obtain ⟨cZ, aZ, nZ9⟩ := arr_of (hw _ mw_66)
  have hao : (Cond.arrayOver (.object RX1)).before #[Value.ref b] s = true := hts _ (tb1 (List.mem_of_getElem? (i := 30) rfl))
  obtain ⟨comp, cO, kO, f4, -, f2, f3, f1⟩ := Cond.arrayOver_spec hao
  obtain ⟨tc, htc, hTc⟩ := va_Tof (args := #[Value.ref b]) (s := s) (tm := .static RX2 "CORNERS" "[J") (ty := .long) (N := 4) (f := cornF) (A := fun q : Nat => s.heap.size ≤ q) (by decide) (hg _ (by decide +kernel)) (va_eqt (hg (.eq (.length (.static RX2 "CORNERS" "[J")) (.int 4)) (by decide +kernel))) (fun j hj => by
    rcases (show j = 0 ∨ j = 1 ∨ j = 2 ∨ j = 3 by omega) with rfl | rfl | rfl | rfl
    · exact va_eqtl (hg (.eq (.elem (.static RX2 "CORNERS" "[J") (.int 0)) (.long (-1))) (by decide +kernel))
    · exact va_eqtl (hg (.eq (.elem (.static RX2 "CORNERS" "[J") (.int 1)) (.long 252645135)) (by decide +kernel))
    · exact va_eqtl (hg (.eq (.elem (.static RX2 "CORNERS" "[J") (.int 2)) (.long 771)) (by decide +kernel))
    · exact va_eqtl (hg (.eq (.elem (.static RX2 "CORNERS" "[J") (.int 3)) (.long 1)) (by decide +kernel))) hnA
  obtain ⟨tl, htl, hTl⟩ := va_Tof (args := #[Value.ref b]) (s := s) (tm := .static RX3 "LEAVES" "[I") (ty := .int) (N := 4) (f := leafF) (A := fun q : Nat => s.heap.size ≤ q) (by decide) (hg _ (by decide +kernel)) (va_eqt (hg (.eq (.length (.static RX3 "LEAVES" "[I")) (.int 4)) (by decide +kernel))) (fun j hj => by
    rcases (show j = 0 ∨ j = 1 ∨ j = 2 ∨ j = 3 by omega) with rfl | rfl | rfl | rfl
    · exact va_eqt (hg (.eq (.elem (.static RX3 "LEAVES" "[I") (.int 0)) (.int 98)) (by decide +kernel))
    · exact va_eqt (hg (.eq (.elem (.static RX3 "LEAVES" "[I") (.int 1)) (.int 119)) (by decide +kernel))
    · exact va_eqt (hg (.eq (.elem (.static RX3 "LEAVES" "[I") (.int 2)) (.int 103)) (by decide +kernel))
    · exact va_eqt (hg (.eq (.elem (.static RX3 "LEAVES" "[I") (.int 3)) (.int 115)) (by decide +kernel))) hnA
  refine ⟨((dC, dI), cI, cJ, cZ, cO, tc, tl), ⟨hKc, fun k q h => ?_⟩, va_AO.of hao, fun q hq => ?_, ⟨va_Zof (hts _ (tb1 (List.mem_of_getElem? (i := 186) rfl))) (hts _ (tb1 (List.mem_of_getElem? (i := 8) rfl))) htc hnA, hTc⟩, va_Zof (hts _ (tb3 (List.mem_of_getElem? (i := 7) rfl))) (hts _ (tb1 (List.mem_of_getElem? (i := 6) rfl))) htl hnA, hTl⟩
  · match k, h with
    | 0, h => cases h; exact ⟨aI, nI9⟩
    | 1, h => cases h; exact ⟨aJ, nJ9⟩
    | 2, h => cases h; exact ⟨aZ, nZ9⟩
    | 3, h => cases h; exact ⟨fun N z => ⟨(fun k h => by cases h), kO, f2, comp, f3⟩, kO, comp, f2, f3, f4, f1⟩
    | k + 4, h => simp at h
  · obtain ⟨i, hi⟩ := List.getElem?_of_mem hq
    match i, hi with
    | 0, hi => cases hi; exact va_Nw.of rfl (hts _ (tb1 (List.mem_of_getElem? (i := 219) rfl)))
    | 1, hi => cases hi; exact va_Nw.of rfl (hts _ (tb2 (List.mem_of_getElem? (i := 213) rfl)))
    | 2, hi => cases hi; exact va_Nw.of rfl (hts _ (tb1 (List.mem_of_getElem? (i := 21) rfl)))
    | 3, hi => cases hi; exact va_Nw.of rfl (hts _ (tb1 (List.mem_of_getElem? (i := 33) rfl)))
    | 4, hi => cases hi; exact va_Nw.of rfl (hts _ (tb1 (List.mem_of_getElem? (i := 66) rfl)))
    | 5, hi => cases hi; exact va_Nw.of rfl (hts _ (tb1 (List.mem_of_getElem? (i := 82) rfl)))
    | 6, hi => cases hi; exact va_Nw.of rfl (hts _ (tb1 (List.mem_of_getElem? (i := 98) rfl)))
    | 7, hi => cases hi; exact va_Nw.of rfl (hts _ (tb1 (List.mem_of_getElem? (i := 39) rfl)))
    | i + 8, hi => simp [nestM] at hi
set_option maxHeartbeats 4000000 in
set_option maxRecDepth 100000 in
/-- YOUR PART: from the entry, for every script of at most 2560 ints, the law comes to its end with true -/
theorem whole_start {p : Program} {e : Env} {s : State} {m : MethodId} {below : List Frame} {meth : Method} {c : Code} (l : Launch) (hflags : l.flags = flags0) {b L : Nat} {xs : Nat → Int32} (hL : L ≤ 2560) (C0 : lw_At p s m meth c b L xs) : W p l e room_1 s m #[Value.ref b] below meth c s.heap [] 0 0 (lw_Z below #[Value.ref b] s) (entryFrame m ([Value.ref b] : List Value).toArray 4) := by
  obtain ⟨hx, hb, hr, hml, hown, hts, hX, hbl, hlocks, hgv⟩ := id C0
  have hb : c.code = cL_law := hb
  have hown : s.vm.findClass RL = some m.cls := hown
  have hw : ∀ w ∈ wsL_law, w.before #[Value.ref b] s = true := fun w h => hts w (wsL_law_in w h)
  obtain ⟨g, hkn⟩ := kn_start hts hgv
  obtain ⟨A, hAe⟩ : ∃ A : Nat → Prop, A = fun q : Nat => s.heap.size ≤ q := ⟨_, rfl⟩
  have hA : ∀ q : Nat, s.heap.size ≤ q → A q := fun q h => by rw [hAe]; exact h
  have hA2 : ∀ q : Nat, A q → s.heap.size ≤ q := fun q h => by rw [hAe] at h; exact h
  rw [← hAe] at hkn
  have hS : va_S A s.heap s.heap [] := va_S.rf
  have hP : va_P g.1 vwCl [] s.heap := fun k q h => by simp at h
  have hD : va_D A [] := ⟨fun i j p q h => by simp at h, fun k q h => by simp at h⟩
  have hl := lv_entry ([.ref b]) (n := 4) (Nat.le_of_ble_eq_true rfl)
  rw [lg_entry_eq]
  generalize (lg_sl ([.ref b]) ++ List.replicate (4 - (lg_sl ([.ref b])).length) Slot.unset).toArray = ls at hl ⊢
  have hl : lv_has ls 4 [(0, .ref b)] := hl
  refine va_new (ci := 5) (fs := [.null, .null, .null, .null, .null, .null, .null, .null, .long 0]) (C := RX6) (T := TX6) (N := 9) hx hb hw inlX6 tyX6 tyX6_ok hown (hw _ mw_0) (hw _ mw_1) (hw _ mw_2) hkn.1 hP hD hS hA rfl (fun j hj => by rcases (show j = 0 ∨ j = 1 ∨ j = 2 ∨ j = 3 ∨ j = 4 ∨ j = 5 ∨ j = 6 ∨ j = 7 ∨ j = 8 by omega) with rfl | rfl | rfl | rfl | rfl | rfl | rfl | rfl | rfl <;> rfl) (Nat.le_of_ble_eq_true rfl) (Nat.le_of_ble_eq_true rfl) dL_law_0 (fun q1 H hP hD hS => ?_)
  have hP : va_P g.1 vwCl [(q1, .inr (5, [.null, .null, .null, .null, .null, .null, .null, .null, .long 0]))] H := hP
  have hD : va_D A [(q1, .inr (5, [.null, .null, .null, .null, .null, .null, .null, .null, .long 0]))] := hD
  refine lv_dup hx hb dL_law_3 rfl ?_
  refine cIM (As := []) (rest := [.ref q1]) (wr := []) hx hb hml hown hw hkn hS hl hA hP hD [0] [] rfl rfl (by decide) (by decide) (by decide) (c_X6_init l g _ q1 0) if_X6_init mw_7 ⟨(Nat.le_of_ble_eq_true rfl), (Nat.le_of_ble_eq_true rfl)⟩ rfl rfl rfl rfl (Nat.le_of_ble_eq_true rfl) dL_law_4 ⟨(Nat.le_of_ble_eq_true rfl), (Nat.le_of_ble_eq_true rfl)⟩ (fun u H locs hq hP hD hS => ?_)
  obtain ⟨a1, b1, a2, b2, a3, a4, t1, t2, a5, c1, c2, a6, s1, s2, a7, a8⟩ := u
  refine lv_astore_n hx hb dL_law_7 rfl hl (by decide) rfl (fun ls hl => ?_)
  refine va_new (ci := 6) (fs := [.null, .int 0, .long 0, .int 0, .int 0, .null, .int 0, .int 0, .null, .null, .null, .null, .int 0, .int 0, .null, .null, .long 0, .null, .null]) (C := RX7) (T := TX7) (N := 19) hx hb hw inlX7 tyX7 tyX7_ok hown (hw _ mw_3) (hw _ mw_4) (hw _ mw_5) hkn.1 hP hD hS hA rfl (fun j hj => by rcases (show j = 0 ∨ j = 1 ∨ j = 2 ∨ j = 3 ∨ j = 4 ∨ j = 5 ∨ j = 6 ∨ j = 7 ∨ j = 8 ∨ j = 9 ∨ j = 10 ∨ j = 11 ∨ j = 12 ∨ j = 13 ∨ j = 14 ∨ j = 15 ∨ j = 16 ∨ j = 17 ∨ j = 18 by omega) with rfl | rfl | rfl | rfl | rfl | rfl | rfl | rfl | rfl | rfl | rfl | rfl | rfl | rfl | rfl | rfl | rfl | rfl | rfl <;> rfl) (Nat.le_of_ble_eq_true rfl) (Nat.le_of_ble_eq_true rfl) dL_law_8 (fun q2 H hP hD hS => ?_)
  refine lv_dup hx hb dL_law_11 rfl ?_
  refine cIM (As := []) (rest := [.ref q2]) (wr := (([0, 1, 2, 3, 4, 5, 6, 7, 8, 9, 10, 11, 12, 13, 14, 15, 16] : List Nat).filterMap (fun j => ([(q1, .inr (5, [.ref a1, .ref a2, .ref a3, .ref a4, .ref a5, .ref a6, .ref a7, .ref a8, .long 0])), (a1, .inr (1, [.ref b1])), (b1, .inl (gJ g, 3, .inr (.inl (fun _ => 0)))), (a2, .inr (1, [.ref b2])), (b2, .inl (gJ g, 3, .inr (.inl (fun _ => 0)))), (a3, .inl (gO g, 2, .inr (.inr (.inr (.inr (fun _ => none)))))), (a4, .inr (3, [.ref t1, .ref t2, .int 0, .long 0])), (t1, .inl (gI g, 64, .inl (fun _ => 0))), (t2, .inr (4, [.int 0, .int 0])), (a5, .inr (0, [.ref c1, .ref c2, .int 0])), (c1, .inl (gI g, 14, .inl (fun _ => 0))), (c2, .inl (gJ g, 14, .inr (.inl (fun _ => 0)))), (a6, .inr (2, [.ref s1, .ref s2, .int 0])), (s1, .inl (gI g, 6, .inl (fun _ => 0))), (s2, .inl (gZ g, 6, .inl (fun _ => 0))), (a7, .inr (4, [.int 0, .int 0])), (a8, .inl (gI g, 4, .inl (fun _ => 0)))] : va_W)[j]?))) hx hb hml hown hw hkn hS hl hA hP hD [17] [0, 1, 2, 3, 4, 5, 6, 7, 8, 9, 10, 11, 12, 13, 14, 15, 16] rfl rfl (by decide) (by decide) (by decide) (c_X7_init l g _ q2 0 0 0 0 0 0 0 0 0) if_X7_init mw_69 ⟨(Nat.le_of_ble_eq_true rfl), (Nat.le_of_ble_eq_true rfl)⟩ rfl rfl rfl rfl (Nat.le_of_ble_eq_true rfl) dL_law_12 ⟨(Nat.le_of_ble_eq_true rfl), (Nat.le_of_ble_eq_true rfl)⟩ (fun v H locs hq hP hD hS => ?_)
  obtain ⟨d1, d2, d3, d4, d5, d6, d7, d8, d9, d0⟩ := v
  refine lv_astore_n hx hb dL_law_15 rfl hl (by decide) rfl (fun ls hl => ?_)
  refine lv_iconst (v := 0) hx hb dL_law_16 (by decide) ?_
  refine lv_istore_n hx hb dL_law_17 rfl hl (by decide) rfl (fun ls hl => ?_)
  exact law_loop l hL C0 hw hkn hA hA2 3000 0 (by decide) (by omega) (by decide) (((q1, a1, a2, a3, a4, a5, a6, a7, a8, b1, b2, t1, t2, c1, c2, s1, s2), (0, (fun _ => 0), (fun _ => 0), (fun _ => none), 0, 0, (fun _ => 0), 0, 0, 0, (fun _ => 0), (fun _ => 0), 0, (fun _ => 0), (fun _ => 0), 0, 0, (fun _ => 0)), (q2, d1, d2, d3, d4, d5, d6, d7, d8, d9, d0), (0, 0, 0, 0, 0, 0, 0, 0, 0, (fun _ => 0), (fun _ => 0), (fun _ => 0), (fun _ => 0), (fun _ => 0), (fun _ => 0), (fun _ => 0), (fun _ => 0), (fun _ => 0), (fun _ => 0)), (fun _ => none)) : LST) H locs _ _ ls ⟨fun _ _ => rfl, Nat.zero_le _, rfl, rfl, Nat.zero_le _, rfl, (show 0 < 14 by decide), fun d hd => absurd hd (Nat.not_lt_zero d), Nat.zero_le _, rfl, rfl, rfl, fun j hj => absurd hj (Nat.not_lt_zero j), rfl, fun k _ => Or.inl ⟨rfl, rfl, rfl⟩⟩ hl hP hD hS (Nat.le_of_ble_eq_true rfl) (Nat.le_of_ble_eq_true rfl)
