/-! The law's loop. -/
theorem and31 (x : Int32) : ∃ j : Nat, j < 32 ∧ x &&& 31 = nI j := by
  refine ⟨(x.toBitVec &&& 31#32).toNat, ?_, ?_⟩
  · rw [BitVec.toNat_and]
    exact Nat.lt_of_le_of_lt Nat.and_le_right (by decide)
  · apply Int32.toBitVec_inj.1
    show x.toBitVec &&& 31#32 = BitVec.ofNat 32 (x.toBitVec &&& 31#32).toNat
    rw [BitVec.ofNat_toNat, BitVec.setWidth_eq]
theorem len5 {L i : Nat} (hL : L ≤ 2560) (hi : i < 2 ^ 31) : nI L - 5 < nI i ↔ ¬ i + 5 ≤ L := by
  by_cases h : 5 ≤ L
  · rw [show nI L - 5 = nI (L - 5) from pk_sub (a := L) (b := 5) h, nI_ltI (by omega) hi]; omega
  · have h1 : nI L - 5 < 0 := by
      have : ∀ j : Fin 5, nI j.val - 5 < 0 := by decide +kernel
      exact this ⟨L, by omega⟩
    have h2 : (0 : Int32) ≤ nI i := (nI_leI (a := 0) (b := i) (by decide) hi).mpr (Nat.zero_le _)
    exact ⟨fun _ => by omega, fun _ => Int32.lt_of_lt_of_le h1 h2⟩
set_option maxHeartbeats 4000000 in
set_option maxRecDepth 100000 in
theorem law_loop {p : Program} {e : Env} {s : State} {m : MethodId} {below : List Frame} {meth : Method} {c : Code} (l : Launch) {g : GG} {A : Nat → Prop} {b L : Nat} {xs : Nat → Int32} (hL : L ≤ 2560) (C0 : lw_At p s m meth c b L xs) (hw : ∀ w ∈ wsL_law, w.before #[Value.ref b] s = true) (hkn : Kn g A s) (hA : ∀ q : Nat, s.heap.size ≤ q → A q) (hA2 : ∀ q : Nat, A q → s.heap.size ≤ q) :
    ∀ (n i : Nat), i ≤ 3000 → L < i + n → n ≤ 3000 → ∀ (S : LST) (H : Heap) (locs : List Loc) (cells slots : Nat) (ls : Array Slot), S.Inv → lv_has ls 4 [(3, .int (nI i)), (2, .ref S.m0), (1, .ref S.h0), (0, .ref b)] → va_P g.1 vwCl (wld g S ++ tlK g S) H → va_D A (wld g S ++ tlK g S) → va_S A s.heap H locs → cells + 2 * n ≤ 600000 → slots + 4 * n ≤ 7302250 → W p l e room_1 s m #[Value.ref b] below meth c H locs cells slots (lw_Z below #[Value.ref b] s) (F0 m 18 ls []) := by
  obtain ⟨hx, hb, hr, hml, hown, hts, hX, hbl, hlocks, hgv⟩ := C0
  have hb : c.code = cL_law := hb
  have hown : s.vm.findClass RL = some m.cls := hown
  have hbA : ¬ A b := fun q => absurd (hA2 b q) (by omega)
  intro n
  induction n with
  | zero =>
    intro i h1 h2 h3 S H locs cells slots ls hI hl hP hD hS hc hs
    refine lv_iload_n hx hb dL_law_18 rfl (lv_at hl 0 rfl) ?_
    refine lv_aload_n hx hb dL_law_19 rfl (lv_at hl 3 rfl) ?_
    refine va_slen hx hb hX hbl hbA hS dL_law_20 ?_
    refine lv_iconst (v := 5) hx hb dL_law_21 (by decide) ?_
    refine lv_isub hx hb dL_law_22 ?_
    refine lv_icmp_gt (tgt := 1118) hx hb dL_law_23 (by decide) (fun h => ?_) (fun h => absurd ((len5 (L := L) (i := i) hL (by omega)).mpr (by omega)) h)
    refine lv_iconst (v := 1) hx hb dL_law_1118 (by decide) ?_
    refine va_forget (fun q hq => hA2 _ (hS.2.2 q hq)) ?_
    refine W.widen (k := 600000) (n := 7302250) (by omega) (by omega) ?_
    exact lw_ret hx hb hr hlocks dL_law_1119
  | succ n ih =>
    intro i h1 h2 h3 S H locs cells slots ls hI hl hP hD hS hc hs
    refine lv_iload_n hx hb dL_law_18 rfl (lv_at hl 0 rfl) ?_
    refine lv_aload_n hx hb dL_law_19 rfl (lv_at hl 3 rfl) ?_
    refine va_slen hx hb hX hbl hbA hS dL_law_20 ?_
    refine lv_iconst (v := 5) hx hb dL_law_21 (by decide) ?_
    refine lv_isub hx hb dL_law_22 ?_
    refine lv_icmp_gt (tgt := 1118) hx hb dL_law_23 (by decide) (fun h => ?_) (fun h => ?_)
    · refine lv_iconst (v := 1) hx hb dL_law_1118 (by decide) ?_
      refine va_forget (fun q hq => hA2 _ (hS.2.2 q hq)) ?_
      refine W.widen (k := 600000) (n := 7302250) (by omega) (by omega) ?_
      exact lw_ret hx hb hr hlocks dL_law_1119
    have hi : i + 5 ≤ L := Classical.byContradiction fun q => h ((len5 (L := L) (i := i) hL (by omega)).mpr q)
    have hc1 : cells + 2 ≤ 600000 := by omega
    have hc2 : slots + 4 ≤ 7302250 := by omega
    have kont : ∀ (S2 : LST) (H2 : Heap) (locs2 : List Loc) (cells2 slots2 : Nat), S2.Inv → S2.h0 = S.h0 → S2.m0 = S.m0 → va_P g.1 vwCl (wld g S2 ++ tlK g S2) H2 → va_D A (wld g S2 ++ tlK g S2) → va_S A s.heap H2 locs2 → cells2 ≤ cells + 2 → slots2 ≤ slots + 4 → W p l e room_1 s m #[Value.ref b] below meth c H2 locs2 cells2 slots2 (lw_Z below #[Value.ref b] s) (F0 m 1112 ls []) := by
      intro S2 H2 locs2 cells2 slots2 hI2 e1 e2 hP2 hD2 hS2 hcc hss
      refine lv_iinc (v := nI (i + 5)) hx hb dL_law_1112 hl (k := 0) rfl (nI_add i 5) (by decide) rfl (fun ls2 hl2 => ?_)
      refine lv_goto (tgt := 18) hx hb dL_law_1115 (by decide) ?_
      exact ih (i + 5) (by omega) (by omega) (by omega) S2 H2 locs2 cells2 slots2 ls2 hI2 (by rw [e1, e2]; exact hl2) hP2 hD2 hS2 (by omega) (by omega)
    refine lv_aload_n hx hb dL_law_26 rfl (lv_at hl 3 rfl) ?_
    refine lv_iload_n hx hb dL_law_27 rfl (lv_at hl 0 rfl) ?_
    refine va_sld hx hb hX hbl hbA hS (vp_in_nI (n := i) (by omega) (by omega)) dL_law_28 ?_
    refine lv_bipush (v := 31) hx hb dL_law_29 (by decide) ?_
    refine lv_iand hx hb dL_law_31 ?_
    obtain ⟨j, hj, ej⟩ := and31 (xs (nI i).toNatClampNeg)
    refine lv_eqi ej ?_
    rcases (show j = 0 ∨ j = 1 ∨ j = 2 ∨ j = 3 ∨ j = 4 ∨ j = 5 ∨ j = 6 ∨ j = 7 ∨ j = 8 ∨ j = 9 ∨ j = 10 ∨ j = 11 ∨ j = 12 ∨ j = 13 ∨ j = 14 ∨ j = 15 ∨ j = 16 ∨ j = 17 ∨ j = 18 ∨ j = 19 ∨ j = 20 ∨ j = 21 ∨ j = 22 ∨ j = 23 ∨ j = 24 ∨ j = 25 ∨ j = 26 ∨ j = 27 ∨ j = 28 ∨ j = 29 ∨ j = 30 ∨ j = 31 by omega) with rfl | rfl | rfl | rfl | rfl | rfl | rfl | rfl | rfl | rfl | rfl | rfl | rfl | rfl | rfl | rfl | rfl | rfl | rfl | rfl | rfl | rfl | rfl | rfl | rfl | rfl | rfl | rfl | rfl | rfl | rfl | rfl
    · exact lv_tableIn (off := 136) (tgt := 168) hx hb dL_law_32 (by decide) (by decide) rfl (by decide) (la_0 l hx hb hml hown hw hkn hA hX hbl hbA hi hL S hI hl hP hD hS hc1 hc2 kont)
    · exact lv_tableIn (off := 159) (tgt := 191) hx hb dL_law_32 (by decide) (by decide) rfl (by decide) (la_1 l hx hb hml hown hw hkn hA hX hbl hbA hi hL S hI hl hP hD hS hc1 hc2 kont)
    · exact lv_tableIn (off := 172) (tgt := 204) hx hb dL_law_32 (by decide) (by decide) rfl (by decide) (la_2 l hx hb hml hown hw hkn hA hX hbl hbA hi hL S hI hl hP hD hS hc1 hc2 kont)
    · exact lv_tableIn (off := 185) (tgt := 217) hx hb dL_law_32 (by decide) (by decide) rfl (by decide) (la_3 l hx hb hml hown hw hkn hA hX hbl hbA hi hL S hI hl hP hD hS hc1 hc2 kont)
    · exact lv_tableIn (off := 208) (tgt := 240) hx hb dL_law_32 (by decide) (by decide) rfl (by decide) (la_4 l hx hb hml hown hw hkn hA hX hbl hbA hi hL S hI hl hP hD hS hc1 hc2 kont)
    · exact lv_tableIn (off := 241) (tgt := 273) hx hb dL_law_32 (by decide) (by decide) rfl (by decide) (la_5 l hx hb hml hown hw hkn hA hX hbl hbA hi hL S hI hl hP hD hS hc1 hc2 kont)
    · exact lv_tableIn (off := 274) (tgt := 306) hx hb dL_law_32 (by decide) (by decide) rfl (by decide) (la_6 l hx hb hml hown hw hkn hA hX hbl hbA hi hL S hI hl hP hD hS hc1 hc2 kont)
    · exact lv_tableIn (off := 307) (tgt := 339) hx hb dL_law_32 (by decide) (by decide) rfl (by decide) (la_7 l hx hb hml hown hw hkn hA hX hbl hbA hi hL S hI hl hP hD hS hc1 hc2 kont)
    · exact lv_tableIn (off := 330) (tgt := 362) hx hb dL_law_32 (by decide) (by decide) rfl (by decide) (la_8 l hx hb hml hown hw hkn hA hX hbl hbA hi hL S hI hl hP hD hS hc1 hc2 kont)
    · exact lv_tableIn (off := 353) (tgt := 385) hx hb dL_law_32 (by decide) (by decide) rfl (by decide) (la_9 l hx hb hml hown hw hkn hA hX hbl hbA hi hL S hI hl hP hD hS hc1 hc2 kont)
    · exact lv_tableIn (off := 386) (tgt := 418) hx hb dL_law_32 (by decide) (by decide) rfl (by decide) (la_10 l hx hb hml hown hw hkn hA hX hbl hbA hi hL S hI hl hP hD hS hc1 hc2 kont)
    · exact lv_tableIn (off := 419) (tgt := 451) hx hb dL_law_32 (by decide) (by decide) rfl (by decide) (la_11 l hx hb hml hown hw hkn hA hX hbl hbA hi hL S hI hl hP hD hS hc1 hc2 kont)
    · exact lv_tableIn (off := 432) (tgt := 464) hx hb dL_law_32 (by decide) (by decide) rfl (by decide) (la_12 l hx hb hml hown hw hkn hA hX hbl hbA hi hL S hI hl hP hD hS hc1 hc2 kont)
    · exact lv_tableIn (off := 456) (tgt := 488) hx hb dL_law_32 (by decide) (by decide) rfl (by decide) (la_13 l hx hb hml hown hw hkn hA hX hbl hbA hi hL S hI hl hP hD hS hc1 hc2 kont)
    · exact lv_tableIn (off := 489) (tgt := 521) hx hb dL_law_32 (by decide) (by decide) rfl (by decide) (la_14 l hx hb hml hown hw hkn hA hX hbl hbA hi hL S hI hl hP hD hS hc1 hc2 kont)
    · exact lv_tableIn (off := 522) (tgt := 554) hx hb dL_law_32 (by decide) (by decide) rfl (by decide) (la_15 l hx hb hml hown hw hkn hA hX hbl hbA hi hL S hI hl hP hD hS hc1 hc2 kont)
    · exact lv_tableIn (off := 565) (tgt := 597) hx hb dL_law_32 (by decide) (by decide) rfl (by decide) (la_16 l hx hb hml hown hw hkn hA hX hbl hbA hi hL S hI hl hP hD hS hc1 hc2 kont)
    · exact lv_tableIn (off := 598) (tgt := 630) hx hb dL_law_32 (by decide) (by decide) rfl (by decide) (la_17 l hx hb hml hown hw hkn hA hX hbl hbA hi hL S hI hl hP hD hS hc1 hc2 kont)
    · exact lv_tableIn (off := 641) (tgt := 673) hx hb dL_law_32 (by decide) (by decide) rfl (by decide) (la_18 l hx hb hml hown hw hkn hA hX hbl hbA hi hL S hI hl hP hD hS hc1 hc2 kont)
    · exact lv_tableIn (off := 704) (tgt := 736) hx hb dL_law_32 (by decide) (by decide) rfl (by decide) (la_19 l hx hb hml hown hw hkn hA hX hbl hbA hi hL S hI hl hP hD hS hc1 hc2 kont)
    · exact lv_tableIn (off := 737) (tgt := 769) hx hb dL_law_32 (by decide) (by decide) rfl (by decide) (la_20 l hx hb hml hown hw hkn hA hX hbl hbA hi hL S hI hl hP hD hS hc1 hc2 kont)
    · exact lv_tableIn (off := 750) (tgt := 782) hx hb dL_law_32 (by decide) (by decide) rfl (by decide) (la_21 l hx hb hml hown hw hkn hA hX hbl hbA hi hL S hI hl hP hD hS hc1 hc2 kont)
    · exact lv_tableIn (off := 773) (tgt := 805) hx hb dL_law_32 (by decide) (by decide) rfl (by decide) (la_22 l hx hb hml hown hw hkn hA hX hbl hbA hi hL S hI hl hP hD hS hc1 hc2 kont)
    · exact lv_tableIn (off := 822) (tgt := 854) hx hb dL_law_32 (by decide) (by decide) rfl (by decide) (la_23 l hx hb hml hown hw hkn hA hX hbl hbA hi hL S hI hl hP hD hS hc1 hc2 kont)
    · exact lv_tableIn (off := 865) (tgt := 897) hx hb dL_law_32 (by decide) (by decide) rfl (by decide) (la_24 l hx hb hml hown hw hkn hA hX hbl hbA hi hL S hI hl hP hD hS hc1 hc2 kont)
    · exact lv_tableIn (off := 934) (tgt := 966) hx hb dL_law_32 (by decide) (by decide) rfl (by decide) (la_25 l hx hb hml hown hw hkn hA hX hbl hbA hi hL S hI hl hP hD hS hc1 hc2 kont)
    · exact lv_tableIn (off := 988) (tgt := 1020) hx hb dL_law_32 (by decide) (by decide) rfl (by decide) (la_26 l hx hb hml hown hw hkn hA hX hbl hbA hi hL S hI hl hP hD hS hc1 hc2 kont)
    · exact lv_tableIn (off := 1011) (tgt := 1043) hx hb dL_law_32 (by decide) (by decide) rfl (by decide) (la_27 l hx hb hml hown hw hkn hA hX hbl hbA hi hL S hI hl hP hD hS hc1 hc2 kont)
    · exact lv_tableIn (off := 1034) (tgt := 1066) hx hb dL_law_32 (by decide) (by decide) rfl (by decide) (la_28 l hx hb hml hown hw hkn hA hX hbl hbA hi hL S hI hl hP hD hS hc1 hc2 kont)
    · exact lv_tableIn (off := 1057) (tgt := 1089) hx hb dL_law_32 (by decide) (by decide) rfl (by decide) (la_29 l hx hb hml hown hw hkn hA hX hbl hbA hi hL S hI hl hP hD hS hc1 hc2 kont)
    · exact lv_tableOut (tgt := 1112) hx hb dL_law_32 (by decide) (by decide) (kont S H locs cells slots hI rfl rfl hP hD hS (by omega) (by omega))
    · exact lv_tableOut (tgt := 1112) hx hb dL_law_32 (by decide) (by decide) (kont S H locs cells slots hI rfl rfl hP hD hS (by omega) (by omega))
